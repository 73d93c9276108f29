theorem wi_addr (a b : Int) : wi (a + b) = wi (a + wi b) := by
  unfold wi; rw [Int32.ofInt_add, Int32.ofInt_add, Int32.ofInt_toInt]
theorem q_shl_wi (a b : Int) : q_shl (wi a) b = q_shl a b := by unfold q_shl; rw [oi_wi]
theorem q_shr_wi (a b : Int) : q_shr (wi a) b = q_shr a b := by unfold q_shr; rw [oi_wi]
theorem q_and_wi (a b : Int) : q_and (wi a) b = q_and a b := by unfold q_and; rw [oi_wi]
theorem ik_tn {n : Nat} (h : n < 2 ^ 32) : (nI n).toBitVec.toNat = n := Nat.mod_eq_of_lt h
theorem q_or8 {v k : Nat} (hv : v < 200000000) (hk : k < 8) : q_or ((v * 2 ^ 3 : Nat) : Int) (k : Int) = ((8 * v + k : Nat) : Int) := by
  unfold q_or
  rw [oiN, oiN]
  have e : nI (v * 2 ^ 3) ||| nI k = nI (8 * v + k) := by
    apply Int32.toBitVec_inj.mp
    apply BitVec.eq_of_toNat_eq
    rw [Int32.toBitVec_or, BitVec.toNat_or, ik_tn (by omega), ik_tn (by omega), ik_tn (by omega)]
    have := Nat.shiftLeft_add_eq_or_of_lt (i := 3) (b := k) (by omega) v
    rw [Nat.shiftLeft_eq] at this
    rw [← this]; omega
  rw [e]
  exact nI_toInt (by omega)
def Rs (c : cC) (r p st o P V W n : Nat) (σ : sM) (x : Option (Int × sM)) (v : Nat) : Prop := ∃ u σ', x = some (u, σ') ∧ wi u = (v : Int) ∧ MI c r p st o P V W n σ' ∧ Fr P V W σ σ'
theorem e_share (σ : sM) {g x : Nat} (hg : g < 2) (hx : x ≤ 10) : X3_partOf σ (g : Int) (x : Int) = some (shr g x : Int) := by
  unfold X3_partOf shr
  by_cases q : g = 1
  · simp (disch := omega) only [b2_if0, b2_ifn, b2_if1, jn_def, nm_def, bp_some, bn_some, wiZ, wlZ, wiD, if_pos, if_neg, if_true, if_false, not_true_eq_false, not_false_eq_true, Int.toNat_natCast]
  · simp (disch := omega) only [b2_if0, b2_ifn, b2_if1, jn_def, nm_def, bp_some, bn_some, wiZ, wlZ, wiD, if_pos, if_neg, if_true, if_false, not_true_eq_false, not_false_eq_true, Int.toNat_natCast]; exact congrArg some (by omega)
theorem ms_skip {f : Nat → Nat} {a b d s lo : Nat} (k : Nat) (h : ∀ y, lo ≤ y → y < lo + k → wt a b d y = 0) : ms f a b d s (lo + k) = ms f a b d s lo := by
  induction k with
  | zero => rfl
  | succ k ih =>
    show ms f a b d s (lo + k) + wt a b d (lo + k) * f (to_ s (lo + k)) = _
    rw [ih (fun y h1 h2 => h y h1 (by omega)), h (lo + k) (by omega) (by omega), Nat.zero_mul, Nat.add_zero]
theorem wt_y {a b d i j k : Nat} (hi : i < 2) (hj : j < 2) (hk : k < 2) : wt a b d (4 * i + 2 * j + k) = shr i d * shr j b * shr k a := by
  unfold wt
  rw [show (4 * i + 2 * j + k) % 2 = k by omega, show (4 * i + 2 * j + k) / 2 % 2 = j by omega, show (4 * i + 2 * j + k) / 4 % 2 = i by omega, Nat.mul_comm (shr k a * shr j b) (shr i d), Nat.mul_comm (shr k a) (shr j b), Nat.mul_assoc]
theorem wt_i {a b d i : Nat} (hi : i < 2) (h : shr i d = 0) : ∀ y, 4 * i ≤ y → y < 4 * i + 4 → wt a b d y = 0 := by
  intro y h1 h2
  unfold wt
  rw [show y / 4 % 2 = i by omega, h, Nat.mul_zero]
theorem wt_ij {a b d i j : Nat} (hi : i < 2) (hj : j < 2) (h : shr i d * shr j b = 0) : ∀ y, 4 * i + 2 * j ≤ y → y < 4 * i + 2 * j + 2 → wt a b d y = 0 := by
  intro y h1 h2
  unfold wt
  rw [show y / 4 % 2 = i by omega, show y / 2 % 2 = j by omega, Nat.mul_assoc, Nat.mul_comm (shr j b), h, Nat.mul_zero]
theorem to_y {s i j k : Nat} (hi : i < 2) (hj : j < 2) (hk : k < 2) : to_ s (4 * i + 2 * j + k) = s + 4 * k + 64 * j + 1024 * i := by
  unfold to_
  rw [show (4 * i + 2 * j + k) % 2 = k by omega, show (4 * i + 2 * j + k) / 2 % 2 = j by omega, show (4 * i + 2 * j + k) / 4 % 2 = i by omega]
theorem e_fd (σ : sM) {w g : Nat} (hw : w < 3) (hg : g < 2) : X8_field σ (w : Int) (g : Int) 0 = some ((4 * g * 16 ^ w : Nat) : Int) := by
  have := e_field σ hw (a := g) (b := 0) (by omega) (by omega)
  rw [show ((0 : Nat) : Int) = 0 from rfl] at this
  rw [this, Nat.add_zero]
theorem e_mean {c : cC} {r p st o P V W n F : Nat} (hx : Fx c r p st o P V W n) (hF : 10 ≤ F) {σ : sM} (hm : MI c r p st o P V W n σ) {t s : Nat} (ht : t < cK c) (hv : Vs c s) (rec : Nat → sM → Int → Int → Int → Option (Int × sM)) (z : Int) (f : Nat → Nat) (hf : ∀ s, f s < 10000000) (hz : z = 0 ∧ t + 1 < cK c ∧ (∀ τ s', MI c r p st o P V W n τ → Vs c s' → Rs c r p st o P V W n τ (rec 0 τ ((t : Int) + 1) (s' : Int) 0) (f s')) ∨ z = 1 ∧ (∀ τ s', MI c r p st o P V W n τ → Vs c s' → Rs c r p st o P V W n τ (rec 7 τ ((t : Int) + 1) (s' : Int) 0) (f s'))) : Rs c r p st o P V W n σ (X3_mean F rec o P V W n σ (t : Int) (s : Int) z) (mn c p t f s) := by
  obtain ⟨hc, x1, x2, x3, x4, x5, x6, x7⟩ := id hx
  have hs := hv.lt hc
  have h5 := hc.2.2.1
  have a1 := tn_le c s p 0 t
  have b1 := tn_le c s p 1 t
  have d1 := tn_le c s p 2 t
  have ho : ∀ w : Nat, w < 3 → X1_tenthsNow σ (s : Int) (σ o 2) (w : Int) (t : Int) = some (tn c s p w t : Int) := fun w hw => by rw [hm.2.2.1]; exact e_tenthsNow hm.1 hc hs hw x2 (by omega) (hv.2 w hw)
  have t0 := ho 0 (by omega)
  have t1 := ho 1 (by omega)
  have t2 := ho 2 (by omega)
  rw [show ((0 : Nat) : Int) = 0 from rfl] at t0
  rw [show ((1 : Nat) : Int) = 1 from rfl] at t1
  rw [show ((2 : Nat) : Int) = 2 from rfl] at t2
  have hV : ∀ y, wt (tn c s p 0 t) (tn c s p 1 t) (tn c s p 2 t) y ≠ 0 → Vs c (to_ s y) := fun y h => to_Vs hc hv h
  have hB : ∀ n, ms f (tn c s p 0 t) (tn c s p 1 t) (tn c s p 2 t) s n ≤ wts (tn c s p 0 t) (tn c s p 1 t) (tn c s p 2 t) n * 10000000 := ms_le (fun s => Nat.le_of_lt (hf s)) _ _ _ _
  have hz' : z = 0 ∧ t + 1 < cK c ∨ z = 1 := by
    rcases hz with h | h
    · exact Or.inl ⟨h.1, h.2.1⟩
    · exact Or.inr h.1
  have eM : ∀ M : Option (Int × sM), (if ¬ wi z = 0 then M else if wi ((t : Int) + 1) < wi (σ 2 7) then M else some (0, σ)) = M := by
    intro M
    rcases hz' with h | h
    · rw [h.1, if_neg (by decide), hm.1.2.2.1, if_pos (by rw [wiN (by omega), wi_id (by omega) (by omega)]; omega)]
    · rw [h, if_pos (by decide)]
  unfold X3_mean mn
  simp only [jn_def, nm_def, t0, t1, t2, bp_some, eM]
  generalize tn c s p 0 t = a at *
  generalize tn c s p 1 t = b at *
  generalize tn c s p 2 t = d at *
  refine lp_inv (fun i (x : sM × Int × Int) => x.2.2 = (i : Int) ∧ x.2.1 = (ms f a b d s (4 * i) : Int) ∧ MI c r p st o P V W n x.1 ∧ Fr P V W σ x.1) 2 (fun o' => Rs c r p st o P V W n σ o' (ms f a b d s 8 / 1000)) (fun i x hi hI K => ?_) (fun x hI K => ?_) ⟨rfl, rfl, hm, Fr.refl _ _ _ _⟩ (by omega)
  · obtain ⟨τ, u, g⟩ := x
    obtain ⟨hg, hu, hm1, hf1⟩ := hI
    simp only [] at hg hu hm1 hf1 ⊢
    subst hg hu
    rw [if_neg (by rw [wiN (by omega)]; omega), e_share τ hi d1, bp_some]
    have hsd := shr_le (g := i) d1
    by_cases q2 : shr i d = 0
    · obtain ⟨G, rfl⟩ : ∃ G, F = G + 1 := ⟨F - 1, by omega⟩
      rw [lp_succ]
      simp only []
      rw [q2, if_neg (by decide), if_pos (by decide)]
      refine ⟨_, ⟨?_, ?_, hm1, hf1⟩, rfl⟩
      · simp only []; omega
      · simp only []; rw [show 4 * (i + 1) = 4 * i + 4 from rfl, ms_skip 4 (wt_i hi q2)]
    · refine lp_inv (fun j (x : sM × Int × Int) => x.2.2 = (j : Int) ∧ x.2.1 = (ms f a b d s (4 * i + 2 * j) : Int) ∧ MI c r p st o P V W n x.1 ∧ Fr P V W σ x.1) 2 (fun o' => ∃ x' : sM × Int × Int, (x'.2.2 = ((i + 1 : Nat) : Int) ∧ x'.2.1 = (ms f a b d s (4 * (i + 1)) : Int) ∧ MI c r p st o P V W n x'.1 ∧ Fr P V W σ x'.1) ∧ o' = K x') (fun j x hj hJ K' => ?_) (fun x hJ K' => ?_) ⟨rfl, rfl, hm1, hf1⟩ (by omega)
      · obtain ⟨τ1, u, g⟩ := x
        obtain ⟨hg, hu, hm2, hf2⟩ := hJ
        simp only [] at hg hu hm2 hf2 ⊢
        subst hg hu
        rw [if_neg (by rw [wiN (by omega)]; omega), if_neg (by rw [wiN (by omega)]; omega), e_share τ1 hj b1, bp_some]
        have hsb := shr_le (g := j) b1
        have hij : shr i d * shr j b ≤ 100 := Nat.mul_le_mul hsd hsb
        rw [show ((shr i d : Nat) : Int) * ((shr j b : Nat) : Int) = ((shr i d * shr j b : Nat) : Int) by push_cast; rfl]
        by_cases q1 : shr i d * shr j b = 0
        · obtain ⟨G, rfl⟩ : ∃ G, F = G + 1 := ⟨F - 1, by omega⟩
          rw [lp_succ]
          simp only []
          rw [q1, if_neg (by decide), if_pos (by decide)]
          refine ⟨_, ⟨?_, ?_, hm2, hf2⟩, rfl⟩
          · simp only []; omega
          · simp only []; rw [show 4 * i + 2 * (j + 1) = 4 * i + 2 * j + 2 from rfl, ms_skip 2 (wt_ij hi hj q1)]
        · refine lp_inv (fun k (x : sM × Int × Int) => x.2.2 = (k : Int) ∧ x.2.1 = (ms f a b d s (4 * i + 2 * j + k) : Int) ∧ MI c r p st o P V W n x.1 ∧ Fr P V W σ x.1) 2 (fun o' => ∃ x' : sM × Int × Int, (x'.2.2 = ((j + 1 : Nat) : Int) ∧ x'.2.1 = (ms f a b d s (4 * i + 2 * (j + 1)) : Int) ∧ MI c r p st o P V W n x'.1 ∧ Fr P V W σ x'.1) ∧ o' = K' x') (fun k x hk hL K2 => ?_) (fun x hL K2 => ?_) ⟨rfl, rfl, hm2, hf2⟩ (by omega)
          · obtain ⟨τ2, u, g⟩ := x
            obtain ⟨hg, hu, hm3, hf3⟩ := hL
            simp only [] at hg hu hm3 hf3 ⊢
            subst hg hu
            rw [if_neg (by rw [wiN (by omega)]; omega), if_neg (by rw [wiN (by omega)]; omega), e_share τ2 hk a1, bp_some]
            have hsa := shr_le (g := k) a1
            have hijk : shr i d * shr j b * shr k a ≤ 1000 := Nat.mul_le_mul hij hsa
            rw [show ((shr i d * shr j b : Nat) : Int) * ((shr k a : Nat) : Int) = ((shr i d * shr j b * shr k a : Nat) : Int) by push_cast; rfl]
            have hw := wt_y (a := a) (b := b) (d := d) hi hj hk
            have ems : ms f a b d s (4 * i + 2 * j + (k + 1)) = ms f a b d s (4 * i + 2 * j + k) + wt a b d (4 * i + 2 * j + k) * f (to_ s (4 * i + 2 * j + k)) := rfl
            rw [hw] at ems
            by_cases q0 : shr i d * shr j b * shr k a = 0
            · rw [q0, if_pos (by decide)]
              refine ⟨_, ⟨?_, ?_, hm3, hf3⟩, rfl⟩
              · simp only []; omega
              · simp only []; rw [ems, q0, Nat.zero_mul, Nat.add_zero]
            · rw [if_neg (by rw [wiN (by omega)]; omega)]
              have f0 := e_fd τ2 (w := 0) (g := k) (by omega) hk
              have f1 := e_fd τ2 (w := 1) (g := j) (by omega) hj
              have f2 := e_fd τ2 (w := 2) (g := i) (by omega) hi
              rw [show ((0 : Nat) : Int) = 0 from rfl] at f0
              rw [show ((1 : Nat) : Int) = 1 from rfl] at f1
              rw [show ((2 : Nat) : Int) = 2 from rfl] at f2
              rw [f0, bp_some, f1, bp_some, f2, bp_some]
              have hvt := hV (4 * i + 2 * j + k) (by rw [hw]; exact q0)
              rw [to_y hi hj hk] at hvt ems
              rw [show (s : Int) + ((4 * k * 16 ^ 0 : Nat) : Int) + ((4 * j * 16 ^ 1 : Nat) : Int) + ((4 * i * 16 ^ 2 : Nat) : Int) = ((s + 4 * k + 64 * j + 1024 * i : Nat) : Int) by omega]
              have hfl := hf (s + 4 * k + 64 * j + 1024 * i)
              rcases hz with ⟨hz, hz1, hz2⟩ | ⟨hz, hz2⟩
              · subst hz
                obtain ⟨u, τ3, e, hu, hm4, hf4⟩ := hz2 τ2 _ hm3 hvt
                rw [if_pos (by decide), e, bn_some]
                refine ⟨_, ⟨?_, ?_, hm4, hf3.trans hf4⟩, rfl⟩
                · simp only []; omega
                · simp only []; rw [ems, hu, wiN (by omega)]; push_cast; rfl
              · subst hz
                obtain ⟨u, τ3, e, hu, hm4, hf4⟩ := hz2 τ2 _ hm3 hvt
                rw [if_neg (by decide), e, bn_some]
                refine ⟨_, ⟨?_, ?_, hm4, hf3.trans hf4⟩, rfl⟩
                · simp only []; omega
                · simp only []; rw [ems, hu, wiN (by omega)]; push_cast; rfl
          · obtain ⟨τ2, u, g⟩ := x
            obtain ⟨hg, hu, hm3, hf3⟩ := hL
            simp only [] at hg hu hm3 hf3 ⊢
            subst hg hu
            rw [if_pos (by decide)]
            refine ⟨_, ⟨?_, ?_, hm3, hf3⟩, rfl⟩
            · simp only []; omega
            · rfl
      · obtain ⟨τ1, u, g⟩ := x
        obtain ⟨hg, hu, hm2, hf2⟩ := hJ
        simp only [] at hg hu hm2 hf2 ⊢
        subst hg hu
        rw [if_pos (by decide)]
        refine ⟨_, ⟨?_, ?_, hm2, hf2⟩, rfl⟩
        · simp only []; omega
        · rfl
  · obtain ⟨τ, u, g⟩ := x
    obtain ⟨hg, hu, hm1, hf1⟩ := hI
    simp only [] at hg hu hm1 hf1 ⊢
    subst hg hu
    have := hB 8
    rw [wts8 a1 b1 d1] at this
    rw [if_pos (by decide), show 4 * 2 = 8 from rfl, q_ldiv1000 (by omega)]
    exact ⟨_, _, rfl, wiN (by omega), hm1, hf1⟩
theorem e_memo {c : cC} {r p st o P V W n : Nat} (hx : Fx c r p st o P V W n) {σ : sM} (hm : MI c r p st o P V W n σ) {R i v : Nat} (hi : i < n) (hv : v < 2147483648) (S : Nat → Nat → Prop) (hE : Ent σ R n st S) (hS : ∀ b, S i b → b = v) (hR : R = P ∧ SpE c (vP c r p) i v ∨ R = V ∧ SpE c (vV c r p) i v ∨ R = W ∧ SpE c (vW c r p) i v) (cmp : Option (Int × sM)) (hcmp : Rs c r p st o P V W n σ cmp v) : Rs c r p st o P V W n σ (if 0 ≤ wi (i : Int) ∧ wi (i : Int) < n then bp (X3_isVoid o P V W n σ (σ R (wi (i : Int)).toNat)) (fun r5 => if wi r5 = 0 then (if 0 ≤ wi (i : Int) ∧ wi (i : Int) < n then some (σ R (wi (i : Int)).toNat, σ) else none) else bn cmp (fun r11 σ13 => bp (X3_stamped o P V W n σ13 r11) (fun r14 => if 0 ≤ wi (i : Int) ∧ wi (i : Int) < n then (if 0 ≤ wi (i : Int) ∧ wi (i : Int) < n then some ((sU σ13 R (wi (i : Int)).toNat r14) R (wi (i : Int)).toNat, (sU σ13 R (wi (i : Int)).toNat r14)) else none) else none))) else none) v := by
  obtain ⟨hc, x1, x2, x3, x4, x5, x6, x7⟩ := id hx
  have hw : wi (i : Int) = (i : Int) := wiN (by omega)
  have hg : 0 ≤ (i : Int) ∧ (i : Int) < (n : Int) := by omega
  rw [hw, Int.toNat_natCast]
  simp only [if_pos hg]
  obtain ⟨a, b, e, hb, ha, hS'⟩ := hE i hi
  rw [e, e_isVoid hm.2.2.2.2.1 x3.2 ha hb, bp_some, b2_if0]
  by_cases q : a = st
  · rw [if_neg (fun h => h q)]
    exact ⟨_, _, rfl, by rw [wi_stamp hb, hS b (hS' q)], hm, Fr.refl _ _ _ _⟩
  · rw [if_pos q]
    obtain ⟨u, τ, e1, hu, hm1, hf1⟩ := hcmp
    rw [e1, bn_some, e_stamped hm1.2.2.2.2.1 x3.2 u hu hv, bp_some]
    refine ⟨_, _, rfl, by rw [sUv, wi_stamp hv], MI_up hx hm1 R i v hv hR, fun k h1 h2 h3 => ?_⟩
    have : k ≠ R := by omega
    rw [sU_ne this]; exact hf1 k h1 h2 h3
