theorem and255 (x : Int) : q_and x 255 = x % 256 := by
  unfold q_and
  have e : ((Int32.ofInt x &&& Int32.ofInt 255).toBitVec).toNat = (x % 4294967296).toNat % 256 := by
    rw [Int32.toBitVec_and, BitVec.toNat_and]
    show (BitVec.ofInt 32 x).toNat &&& 255 = _
    rw [BitVec.toNat_ofInt, show (255 : Nat) = 2 ^ 8 - 1 from rfl, Nat.and_two_pow_sub_one_eq_mod]
    rfl
  show ((Int32.ofInt x &&& Int32.ofInt 255).toBitVec).toInt = _
  rw [BitVec.toInt_eq_toNat_bmod, e, Int.bmod_eq_of_le (by omega) (by omega)]
  omega
def hh (b : Nat → Int) (n i : Nat) : Int := if n ≤ i then -1 else b i % 256
/-- the reference's text -/
def Rt (b : Nat → Int) (n : Nat) (τ : sM) : Prop := τ 55 2 = (n : Int) ∧ ∀ i, i < n → τ 56 i = b i
def fR (τ x : sM) : Prop := (∀ k, k ≠ 55 → x k = τ k) ∧ ∀ j, j ≠ 12 → j ≠ 13 → j ≠ 14 → j ≠ 15 → x 55 j = τ 55 j
theorem fR.refl (τ : sM) : fR τ τ := ⟨fun _ _ => rfl, fun _ _ _ _ _ => rfl⟩
theorem fR.trans {a b d : sM} (h : fR a b) (h2 : fR b d) : fR a d := ⟨fun k hk => by rw [h2.1 k hk, h.1 k hk], fun j a1 a2 a3 a4 => by rw [h2.2 j a1 a2 a3 a4, h.2 j a1 a2 a3 a4]⟩
theorem fR.set {τ x : sM} (h : fR τ x) {j : Nat} (v : Int) (hj : j = 12 ∨ j = 13 ∨ j = 14 ∨ j = 15) : fR τ (sU x 55 j v) := ⟨fun k hk => by rw [sU_ne hk]; exact h.1 k hk, fun j' a1 a2 a3 a4 => by rw [sUnj (by omega)]; exact h.2 j' a1 a2 a3 a4⟩
theorem Rt.fR {b : Nat → Int} {n : Nat} {τ x : sM} (h : Rt b n τ) (hf : fR τ x) : Rt b n x := ⟨by rw [hf.2 2 (by omega) (by omega) (by omega) (by omega)]; exact h.1, fun i hi => by rw [hf.1 56 (by omega)]; exact h.2 i hi⟩
theorem f_here {τ : sM} {b : Nat → Int} {n i : Nat} (hb : Bt b n) (h : Rt b n τ) (h3 : τ 55 12 = (i : Int)) (hi : i ≤ n) : X9_here τ = some (hh b n i) := by
  have hn := hb.1
  unfold X9_here hh
  rw [h.1, h3, wiN (by omega), wiN (by omega)]
  by_cases q : n ≤ i
  · rw [if_pos (by omega), if_pos q]
  · rw [if_neg (by omega), if_pos (by omega), if_neg q, Int.toNat_natCast, h.2 i (by omega), and255]
theorem hh_r (b : Nat → Int) (n i : Nat) : -1 ≤ hh b n i ∧ hh b n i ≤ 255 := by unfold hh; split <;> omega
theorem f_hin {σ : sM} {b : Nat → Int} {n i : Nat} (hb : Bt b n) (x y : Int) (hx : 0 ≤ x ∧ x ≤ 127) (hy : 0 ≤ y ∧ y ≤ 127) : X9_in σ (hh b n i) x y = some (b2 (i < n ∧ x ≤ b i ∧ b i ≤ y)) := by
  have := hh_r b n i
  rw [f_in σ _ x y (wi_id (by omega) (by omega)) (wi_id (by omega) (by omega)) (wi_id (by omega) (by omega))]
  congr 1
  apply b2_congr
  unfold hh
  by_cases q : n ≤ i
  · rw [if_pos q]; omega
  · rw [if_neg q]
    have := hb.2 i (by omega)
    omega
theorem wC_r {b : Nat → Int} {p L : Nat} (hL : 1 ≤ L) (h : ∀ j, j < L → 97 ≤ b (p + j) ∧ b (p + j) ≤ 122) : 0 ≤ wC b p L ∧ wC b p L ≤ 20000000 := by
  obtain ⟨e1, e2, e3, e4, e5⟩ := wC_e b p
  by_cases q : L ≤ 5
  · rcases (show L = 1 ∨ L = 2 ∨ L = 3 ∨ L = 4 ∨ L = 5 by omega) with rfl | rfl | rfl | rfl | rfl
    · have k0 := h 0 (by omega)
      omega
    · have k0 := h 0 (by omega); have k1 := h 1 (by omega)
      omega
    · have k0 := h 0 (by omega); have k1 := h 1 (by omega); have k2 := h 2 (by omega)
      omega
    · have k0 := h 0 (by omega); have k1 := h 1 (by omega); have k2 := h 2 (by omega); have k3 := h 3 (by omega)
      omega
    · have k0 := h 0 (by omega); have k1 := h 1 (by omega); have k2 := h 2 (by omega); have k3 := h 3 (by omega); have k4 := h 4 (by omega)
      omega
  · unfold wC; rw [if_neg q]; omega
theorem f_mean (σ : sM) {z : Int} (h : wi z = z) : X9_mean σ z = some (mpK (wK z) : Int) := by
  unfold X9_mean wK
  rw [h]
  by_cases q1 : z = 12325519
  · subst q1; rfl
  by_cases q2 : z = 385418
  · subst q2; rfl
  by_cases q3 : z = 12391871
  · subst q3; rfl
  by_cases q4 : z = 2774
  · subst q4; rfl
  by_cases q5 : z = 380741
  · subst q5; rfl
  by_cases q6 : z = 12384399
  · subst q6; rfl
  by_cases q7 : z = 307058
  · subst q7; rfl
  by_cases q8 : z = 453937
  · subst q8; rfl
  by_cases q9 : z = 8863997
  · subst q9; rfl
  simp only [if_neg q1, if_neg q2, if_neg q3, if_neg q4, if_neg q5, if_neg q6, if_neg q7, if_neg q8, if_neg q9]
  rfl
/-- what a read leaves: the token at p -/
def Rk (b : Nat → Int) (n p : Nat) (τ1 : sM) : Prop := τ1 55 12 = (tE b n p : Int) ∧ τ1 55 13 = (p : Int) ∧ τ1 55 14 = (mpK (tK b n p) : Int) ∧ ∃ v : Nat, τ1 55 15 = (v : Int) ∧ v ≤ 999 ∧ (tK b n p = 1 → v = tV b n p)
theorem f_read {F : Nat} {τ : sM} {b : Nat → Int} {n i : Nat} (hF : 500 ≤ F) (hb : Bt b n) (h : Rt b n τ) (h3 : τ 55 12 = (i : Int)) (hi : i ≤ n) : ∃ τ1, X9_read F τ = some (0, τ1) ∧ fR τ τ1 ∧ Rk b n (rn qS b n i) τ1 := by
  have hn := hb.1
  unfold X9_read
  refine lp_ms (fun x : sM => ∃ i' : Nat, x 55 12 = (i' : Int) ∧ i' ≤ n ∧ rn qS b n i = rn qS b n i' ∧ fR τ x) (fun x => n - (x 55 12).toNat) (fun (o : Option (Int × sM)) => ∃ τ1 : sM, o = some (0, τ1) ∧ fR τ τ1 ∧ Rk b n (rn qS b n i) τ1) (fun x hI K => ?_) F _ ⟨i, h3, hi, rfl, fR.refl τ⟩ (by omega)
  obtain ⟨p, hx, hp, hr, hf⟩ := hI
  have hR := h.fR hf
  rw [f_here hb hR hx hp, bp_some, wi_id (z := hh b n p) (by have := hh_r b n p; omega) (by have := hh_r b n p; omega)]
  by_cases q : p < n ∧ b p = 32
  · left
    rw [if_neg (show ¬ ¬ hh b n p = 32 by unfold hh; rw [if_neg (by omega), q.2]; decide)]
    refine ⟨_, ⟨p + 1, by rw [sUv, hx]; rfl, by omega, ?_, hf.set _ (Or.inl rfl)⟩, ?_, rfl⟩
    · rw [hr]; exact rn_s q.1 (qS_e.2 q.2)
    · rw [sUv, hx]; omega
  · right
    have hne : ¬ hh b n p = 32 := by
      unfold hh
      by_cases y : n ≤ p
      · rw [if_pos y]; decide
      · rw [if_neg y]; have := hb.2 p (by omega); omega
    rw [if_pos hne, hx]
    have hpp : rn qS b n i = p := by
      rw [hr]
      by_cases y : n ≤ p
      · exact rn_e (Or.inl y)
      · exact rn_e (Or.inr (fun z => q ⟨by omega, qS_e.1 z⟩))
    rw [hpp]
    generalize hx' : sU (sU x 55 13 (p : Int)) 55 15 0 = x'
    have g12 : x' 55 12 = (p : Int) := by rw [← hx', sUnj (by omega), sUnj (by omega)]; exact hx
    have g13 : x' 55 13 = (p : Int) := by rw [← hx', sUnj (by omega), sUv]
    have g15 : x' 55 15 = 0 := by rw [← hx', sUv]
    have gf : fR τ x' := by rw [← hx']; exact (hf.set _ (by omega)).set _ (by omega)
    have hR' := h.fR gf
    rw [f_here hb hR' g12 hp, bp_some, wi_id (z := hh b n p) (by have := hh_r b n p; omega) (by have := hh_r b n p; omega)]
    by_cases y0 : n ≤ p
    · have hz : hh b n p = -1 := by unfold hh; rw [if_pos y0]
      rw [hz, if_neg (by decide)]
      refine ⟨_, rfl, gf.set _ (by omega), ?_, ?_, ?_, 0, ?_, by omega, fun z => ?_⟩
      · rw [sUnj (by omega), g12]; unfold tE; rw [if_pos y0]
      · rw [sUnj (by omega), g13]
      · rw [sUv]; unfold tK; rw [if_pos y0]; rfl
      · rw [sUnj (by omega), g15]; rfl
      · unfold tK at z; rw [if_pos y0] at z; omega
    · have hp' : p < n := by omega
      obtain ⟨t1, t2, t3, t4⟩ := tE_p (b := b) hp'
      have hbp := hb.2 p hp'
      have hz : hh b n p = b p % 256 := by unfold hh; rw [if_neg y0]
      rw [if_pos (show 0 ≤ hh b n p by rw [hz]; omega), f_hin hb 97 122 (by decide) (by decide), bp_some]
      by_cases y1 : 97 ≤ b p ∧ b p ≤ 122
      · rw [b2_t ⟨hp', y1⟩, if_neg (show ¬ wi 1 = 0 by decide)]
        have hE : tE b n p = rn qL b n p := by unfold tE; rw [if_neg y0, if_pos y1]; exact (rn_s hp' (qL_e.2 y1)).symm
        refine lp_ms (fun y : sM × Int => ∃ m : Nat, y.1 55 12 = ((p + m : Nat) : Int) ∧ p + m ≤ n ∧ tE b n p = rn qL b n (p + m) ∧ y.2 = wC b p m ∧ y.1 55 13 = (p : Int) ∧ y.1 55 15 = 0 ∧ fR τ y.1) (fun y => n - (y.1 55 12).toNat) (fun (o : Option (Int × sM)) => ∃ τ1 : sM, o = some (0, τ1) ∧ fR τ τ1 ∧ Rk b n p τ1) (fun y hI K => ?_) F _ ⟨0, g12, by omega, hE, rfl, g13, g15, gf⟩ (by simp only []; omega)
        obtain ⟨w, z⟩ := y
        obtain ⟨m, m1, m2, m3, m4, m5, m6, m7⟩ := hI
        simp only [] at m1 m4 m5 m6 m7 ⊢
        subst m4
        have hRw := h.fR m7
        rw [f_here hb hRw m1 m2, bp_some, f_hin hb 97 122 (by decide) (by decide), bp_some, m1, m5, show ((p + m : Nat) : Int) - (p : Int) = (m : Int) by omega, wiN (n := m) (by omega)]
        by_cases y2 : p + m < n ∧ 97 ≤ b (p + m) ∧ b (p + m) ≤ 122
        · left
          have hw : hh b n (p + m) = b (p + m) := by unfold hh; rw [if_neg (by omega)]; omega
          rw [b2_t y2, if_neg (show ¬ wi 1 = 0 by decide), jn_def]
          have key : ∀ v : Int, v = wC b p (m + 1) → ∃ x'_1 : sM × Int, (∃ m : Nat, x'_1.1 55 12 = ((p + m : Nat) : Int) ∧ p + m ≤ n ∧ tE b n p = rn qL b n (p + m) ∧ x'_1.2 = wC b p m ∧ x'_1.1 55 13 = (p : Int) ∧ x'_1.1 55 15 = 0 ∧ fR τ x'_1.1) ∧ n - (x'_1.1 55 12).toNat < n - ((p + m : Nat) : Int).toNat ∧ K (sU w 55 12 (((p + m : Nat) : Int) + 1), v) = K x'_1 := by
            intro v hv
            refine ⟨_, ⟨m + 1, ?_, by omega, ?_, hv, ?_, ?_, m7.set _ (by omega)⟩, ?_, rfl⟩
            · simp only []; rw [sUv]; omega
            · rw [m3]; exact rn_s y2.1 (qL_e.2 y2.2)
            · simp only []; rw [sUnj (by omega)]; exact m5
            · simp only []; rw [sUnj (by omega)]; exact m6
            · simp only []; rw [sUv]; omega
          by_cases y3 : 5 ≤ m
          · rw [if_pos (by omega)]
            exact key _ (by unfold wC; rw [if_neg (by omega)])
          · rw [if_neg (by omega), bp_some, hw]
            refine key _ ?_
            unfold wC; rw [if_pos (show m ≤ 5 by omega), if_pos (show m + 1 ≤ 5 by omega)]; rfl
        · right
          rw [b2_f y2, if_pos (show wi 0 = 0 by decide), jn_def]
          have hm : tE b n p = p + m := by
            rw [m3]
            by_cases y : n ≤ p + m
            · exact rn_e (Or.inl y)
            · exact rn_e (Or.inr (fun z => y2 ⟨by omega, qL_e.1 z⟩))
          have hw : (if (m : Int) ≤ 5 then wC b p m else 0) = wC b p m := by
            by_cases y : (m : Int) ≤ 5
            · rw [if_pos y]
            · rw [if_neg y]; unfold wC; rw [if_neg (by omega)]
          have hL : ∀ j, j < m → 97 ≤ b (p + j) ∧ b (p + j) ≤ 122 := fun j hj => t3 y1 _ (by omega) (by omega)
          obtain ⟨r1, r2⟩ := wC_r (show 1 ≤ m by omega) hL
          have key : ∃ τ1, bp (X9_mean w (wC b p m)) (fun r50 => some ((0 : Int), (sU w 55 14 r50))) = some (0, τ1) ∧ fR τ τ1 ∧ Rk b n p τ1 := by
            rw [f_mean w (wi_id (by omega) (by omega)), bp_some]
            refine ⟨_, rfl, m7.set _ (by omega), ?_, ?_, ?_, 0, ?_, by omega, fun z => ?_⟩
            · rw [sUnj (by omega), m1, hm]
            · rw [sUnj (by omega), m5]
            · rw [sUv]; unfold tK; rw [if_neg y0, if_pos y1, hm, show p + m - p = m by omega]
            · rw [sUnj (by omega), m6]; rfl
            · unfold tK at z; rw [if_neg y0, if_pos y1] at z
              have := wK_le (wC b p (tE b n p - p)); omega
          by_cases y : (m : Int) ≤ 5
          · rw [if_pos y]; exact key
          · rw [if_neg y]; rw [if_neg y] at hw; rw [← hw] at key; exact key
      · rw [b2_f (fun z => y1 z.2), if_pos (show wi 0 = 0 by decide), f_hin hb 48 57 (by decide) (by decide), bp_some]
        by_cases y2 : 48 ≤ b p ∧ b p ≤ 57
        · rw [b2_t ⟨hp', y2⟩, if_neg (show ¬ wi 1 = 0 by decide), hz, show b p % 256 = b p by omega]
          have hE : tE b n p = rn qD b n p := by unfold tE; rw [if_neg y0, if_neg y1, if_pos y2]; exact (rn_s hp' (qD_e.2 y2)).symm
          refine lp_ms (fun y : sM => ∃ m v : Nat, y 55 12 = ((p + m : Nat) : Int) ∧ p + m ≤ n ∧ tE b n p = rn qD b n (p + m) ∧ y 55 15 = (v : Int) ∧ v ≤ 999 ∧ (m = 0 → v = 0) ∧ (m = 1 → (v : Int) = b p - 48) ∧ (m = 2 → (v : Int) = 10 * (b p - 48) + (b (p + 1) - 48)) ∧ (3 ≤ m → 99 < v ∨ b p = 48) ∧ y 55 13 = (p : Int) ∧ fR τ y) (fun y => n - (y 55 12).toNat) (fun (o : Option (Int × sM)) => ∃ τ1 : sM, o = some (0, τ1) ∧ fR τ τ1 ∧ Rk b n p τ1) (fun y hI K => ?_) F _ ⟨0, 0, g12, by omega, hE, g15, by omega, fun _ => rfl, fun z => by omega, fun z => by omega, fun z => by omega, g13, gf⟩ (by omega)
          obtain ⟨m, v, m1, m2, m3, m4, m5, m6, m7, m8, m9, m10, m11⟩ := hI
          have hRw := h.fR m11
          rw [f_here hb hRw m1 m2, bp_some, f_hin hb 48 57 (by decide) (by decide), bp_some, m4, wiN (n := v) (by omega)]
          by_cases y3 : p + m < n ∧ 48 ≤ b (p + m) ∧ b (p + m) ≤ 57
          · left
            have hw : hh b n (p + m) = b (p + m) := by unfold hh; rw [if_neg (by omega)]; omega
            rw [b2_t y3, if_neg (show ¬ wi 1 = 0 by decide), jn_def, bp_some, hw]
            have key : ∀ v' : Nat, v' ≤ 999 → (m + 1 = 1 → (v' : Int) = b p - 48) → (m + 1 = 2 → (v' : Int) = 10 * (b p - 48) + (b (p + 1) - 48)) → (3 ≤ m + 1 → 99 < v' ∨ b p = 48) → ∃ x'_1 : sM, (∃ m v : Nat, x'_1 55 12 = ((p + m : Nat) : Int) ∧ p + m ≤ n ∧ tE b n p = rn qD b n (p + m) ∧ x'_1 55 15 = (v : Int) ∧ v ≤ 999 ∧ (m = 0 → v = 0) ∧ (m = 1 → (v : Int) = b p - 48) ∧ (m = 2 → (v : Int) = 10 * (b p - 48) + (b (p + 1) - 48)) ∧ (3 ≤ m → 99 < v ∨ b p = 48) ∧ x'_1 55 13 = (p : Int) ∧ fR τ x'_1) ∧ n - (x'_1 55 12).toNat < n - (y 55 12).toNat ∧ K (sU (sU y 55 15 (v' : Int)) 55 12 (((sU y 55 15 (v' : Int)) 55 12) + 1)) = K x'_1 := by
              intro v' k1 k2 k3 k4
              refine ⟨_, ⟨m + 1, v', ?_, by omega, ?_, ?_, k1, fun z => by omega, k2, k3, k4, ?_, (m11.set _ (by omega)).set _ (by omega)⟩, ?_, rfl⟩
              · rw [sUv, sUnj (by omega), m1]; omega
              · rw [m3]; exact rn_s y3.1 (qD_e.2 y3.2)
              · rw [sUnj (by omega), sUv]
              · rw [sUnj (by omega), sUnj (by omega)]; exact m10
              · rw [sUv, sUnj (by omega), m1]; omega
            by_cases y4 : v ≤ 99
            · rw [if_pos (by omega), show (10 * (v : Int) + b (p + m)) - 48 = ((10 * v + (b (p + m) - 48).toNat : Nat) : Int) by omega]
              refine key _ (by omega) (fun z => ?_) (fun z => ?_) (fun z => ?_)
              · have e0 : m = 0 := by omega
                subst e0; have := m6 rfl; rw [show p + 0 = p from rfl] at *; omega
              · have e0 : m = 1 := by omega
                subst e0; have := m7 rfl; omega
              · by_cases e0 : m = 2
                · have e1 := t4 y2 (p + 1) (by omega)
                  subst e0
                  have := m8 rfl
                  have := e1 (by rw [m3]; have := rn_p qD b n _ (p + 2) rfl (by omega); omega)
                  omega
                · have := m9 (by omega); omega
            · rw [if_neg (by omega)]
              refine key v m5 (fun z => ?_) (fun z => ?_) (fun z => ?_)
              · have := m6 (by omega); omega
              · have := m7 (by omega); omega
              · exact Or.inl (by omega)
          · right
            have hm : tE b n p = p + m := by
              rw [m3]
              by_cases y : n ≤ p + m
              · exact rn_e (Or.inl y)
              · exact rn_e (Or.inr (fun z => y3 ⟨by omega, qD_e.1 z⟩))
            rw [b2_f y3, if_pos (show wi 0 = 0 by decide), jn_def, jn_def, jn_def, m1, m10, show ((p + m : Nat) : Int) - (p : Int) = (m : Int) by omega, wiN (n := m) (by omega)]
            have key : ∀ k : Nat, k = mpK (tK b n p) → ∃ τ1, some ((0 : Int), (sU y 55 14 (k : Int))) = some (0, τ1) ∧ fR τ τ1 ∧ Rk b n p τ1 := by
              intro k hk
              refine ⟨_, rfl, m11.set _ (by omega), ?_, ?_, ?_, v, ?_, m5, fun z => ?_⟩
              · rw [sUnj (by omega), m1, hm]
              · rw [sUnj (by omega), m10]
              · rw [sUv, hk]
              · rw [sUnj (by omega), m4]
              · obtain ⟨o1, o2, o3, o4⟩ := tK_one z
                unfold tV
                rw [hm, show p + m - p = m by omega] at o4 ⊢
                by_cases e0 : m = 1
                · rw [if_pos (by omega)]; have := m7 e0; omega
                · rw [if_neg (by omega)]; have := m8 (by omega); omega
            have hT : tK b n p = if m ≤ 2 ∧ (m ≤ 1 ∨ b p ≠ 48) then 1 else 3 := by
              unfold tK
              rw [if_neg y0, if_neg y1, if_neg (by omega), hm, show p + m - p = m by omega]
              by_cases e0 : m ≤ 2 ∧ (m ≤ 1 ∨ b p ≠ 48)
              · rw [if_pos ⟨y2.1, y2.2, e0⟩, if_pos e0]
              · rw [if_neg (fun z => e0 z.2.2), if_neg e0]
            have hm1 : 1 ≤ m := by omega
            have hd : m = 2 → 48 ≤ b (p + 1) ∧ b (p + 1) ≤ 57 := fun e0 => t4 y2 (p + 1) (by omega) (by omega)
            by_cases e0 : m ≤ 2 ∧ (m ≤ 1 ∨ b p ≠ 48)
            · rw [if_pos e0] at hT
              have hv : v ≤ 99 := by
                by_cases e1 : m = 1
                · have := m7 e1; omega
                · have e2 : m = 2 := by omega
                  have := m8 e2; have := hd e2; omega
              have k1 := key 10 (by rw [hT]; rfl)
              rw [if_neg (by omega)]
              by_cases e1 : b p = 48
              · rw [if_neg (by omega), if_pos (by omega)]; exact k1
              · rw [if_pos e1]; exact k1
            · rw [if_neg e0] at hT
              have k1 := key 12 (by rw [hT]; rfl)
              by_cases e1 : 99 < v
              · rw [if_pos (by omega)]; exact k1
              · have e2 : b p = 48 := by
                  by_cases e3 : 3 ≤ m
                  · have := m9 e3; omega
                  · omega
                rw [if_neg (by omega), if_neg (by omega), if_neg (by omega)]; exact k1
        · rw [b2_f (fun z => y2 z.2), if_pos (show wi 0 = 0 by decide), nm_def, jn_def]
          have hE : tE b n p = p + 1 := by unfold tE; rw [if_neg y0, if_neg y1, if_neg y2]
          have key : ∀ k : Nat, k = mpK (tK b n p) → ∃ τ1, some ((0 : Int), (sU (sU x' 55 12 ((x' 55 12) + 1)) 55 14 (k : Int))) = some (0, τ1) ∧ fR τ τ1 ∧ Rk b n p τ1 := by
            intro k hk
            refine ⟨_, rfl, (gf.set _ (by omega)).set _ (by omega), ?_, ?_, ?_, 0, ?_, by omega, fun z => ?_⟩
            · rw [sUnj (by omega), sUv, g12, hE]; rfl
            · rw [sUnj (by omega), sUnj (by omega), g13]
            · rw [sUv, hk]
            · rw [sUnj (by omega), sUnj (by omega), g15]; rfl
            · obtain ⟨o1, o2, o3, o4⟩ := tK_one z
              exact absurd ⟨o2, o3⟩ y2
          have hT : tK b n p = if b p = 59 then 2 else 3 := by
            unfold tK
            rw [if_neg y0, if_neg y1]
            by_cases e0 : b p = 59
            · rw [if_pos e0, if_pos e0]
            · rw [if_neg e0, if_neg e0, if_neg (fun z => y2 ⟨z.1, z.2.1⟩)]
          by_cases e0 : b p = 59
          · rw [if_pos e0] at hT
            rw [hz, if_neg (by rw [e0]; decide)]
            exact key 11 (by rw [hT]; rfl)
          · rw [if_neg e0] at hT
            rw [hz, if_pos (by omega)]
            exact key 12 (by rw [hT]; rfl)
