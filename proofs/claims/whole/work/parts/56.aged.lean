theorem tot_div {V : Nat → Nat} (h : 0 < tot V) : 0 < tot (fun k => V k / gf V 4) := by
  have hg := gf_pos h
  have k : ∀ v, v < 4 → 0 < V v → 0 < V v / gf V 4 := fun v hv hp => Nat.div_pos (Nat.le_of_dvd hp (gf_dvd V 4 v hv)) hg
  have k0 := k 0 (by omega)
  have k1 := k 1 (by omega)
  have k2 := k 2 (by omega)
  have k3 := k 3 (by omega)
  show 0 < V 0 / gf V 4 + V 1 / gf V 4 + V 2 / gf V 4 + V 3 / gf V 4
  have h' : 0 < V 0 + V 1 + V 2 + V 3 := h
  generalize V 0 / gf V 4 = d0 at *
  generalize V 1 / gf V 4 = d1 at *
  generalize V 2 / gf V 4 = d2 at *
  generalize V 3 / gf V 4 = d3 at *
  by_cases y0 : 0 < V 0
  · have := k0 y0; omega
  by_cases y1 : 0 < V 1
  · have := k1 y1; omega
  by_cases y2 : 0 < V 2
  · have := k2 y2; omega
  have := k3 (by omega); omega
theorem big_le {V : Nat → Nat} (h : ¬ big V) {k : Nat} (hk : k < 4) : V k ≤ 1000000000000 := by
  unfold big at h
  rcases (show k = 0 ∨ k = 1 ∨ k = 2 ∨ k = 3 by omega) with e | e | e | e <;> rw [e] <;> omega
/-- both settle alike -/
theorem s_settle {c : cC} {j : Nat} {q : qT} {x : List Nat} {t a s p F i : Nat} {g k l : Int} {σ σa : sM} (h : Jn c j q x t a s p g k l σ) (hF : 200 ≤ F) (hi : i < cS c) (hz : σ 49 3 = (i : Int) ∧ σ 55 36 = (i : Int)) {V : Nat → Nat} (hb : ∀ k, k < 4 → V k < 2 ^ 62) (hp : 0 < tot V) (fa : ∀ m, m ≠ 53 → σa m = σ m) (hVa : Wt 53 V σa) (Y : sM → Option (Int × sM)) (hY : ∀ τ : sM, (∀ m, m ≠ 51 → m ≠ 53 → τ m = σ m) → ∃ τ', Y τ = X9_settle F τ' ∧ (∀ m, m ≠ 85 → τ' m = τ m) ∧ (∀ k, k < 4 → τ' 85 k = τ 85 k) ∧ ∀ k, k < 4 → τ' 85 (4 + k) = (V k : Int)) : Stq j q x (X6_takeTrial F σa) Y := by
  obtain ⟨hc, hX, hM, hW, hm, hV, hT, hI, hE, hB', ⟨i', W, t1, t2, t3, t4, t5⟩, htr⟩ := id h
  have ei : i' = i := by have := hz.1; rw [t1] at this; omega
  subst ei
  obtain ⟨tb, ts⟩ := e_takeTrial hF hVa hb hp
  by_cases q' : big (fun k => V k / gf V 4)
  · obtain ⟨σ1, e1, f1⟩ := tb q'
    obtain ⟨τ', e2, f2, f3, f4⟩ := hY σ1 (fun m h1 h2 => by rw [f1 m h2, fa m h2])
    have e3 := (f_settle (F := F) hF f4 hb).2.1 hp q'
    refine ⟨_, _, _, _, e1, by rw [e2, e3], rfl, h.thk (fun k b1 b2 b3 b4 b5 => ?_) (fun jj hj => ?_) ⟨i', W, ?_, ?_, t3, fun k hk => ⟨?_, ?_, (t4 k hk).2.2⟩, t5⟩⟩
    · rw [f2 k b5, f1 k b3, fa k b3]
    · rw [f2 55 (by omega), f1 55 (by omega), fa 55 (by omega)]
    · rw [f2 49 (by omega), f1 49 (by omega), fa 49 (by omega)]; exact t1
    · rw [f2 55 (by omega), f1 55 (by omega), fa 55 (by omega)]; exact t2
    · rw [f2 51 (by omega), f1 51 (by omega), fa 51 (by omega)]; exact (t4 k hk).1
    · rw [f3 k hk, f1 85 (by omega), fa 85 (by omega)]; exact (t4 k hk).2.1
  · obtain ⟨σ1, e1, f1, r1⟩ := ts q'
    obtain ⟨τ', e2, f2, f3, f4⟩ := hY σ1 (fun m h1 h2 => by rw [f1 m h2 h1, fa m h2])
    obtain ⟨σ2, e3, g2, g3⟩ := (f_settle (F := F) hF f4 hb).2.2 hp q'
    refine ⟨_, _, _, _, e1, by rw [e2, e3], rfl, h.thk (fun k b1 b2 b3 b4 b5 => ?_) (fun jj hj => ?_) ⟨i', fun k => V k / gf V 4, ?_, ?_, t3, fun k hk => ⟨?_, g3 k hk, big_le q' hk⟩, tot_div hp⟩⟩
    · rw [g2 k b5, f2 k b5, f1 k b3 b2, fa k b3]
    · rw [g2 55 (by omega), f2 55 (by omega), f1 55 (by omega) (by omega), fa 55 (by omega)]
    · rw [g2 49 (by omega), f2 49 (by omega), f1 49 (by omega) (by omega), fa 49 (by omega)]; exact t1
    · rw [g2 55 (by omega), f2 55 (by omega), f1 55 (by omega) (by omega), fa 55 (by omega)]; exact t2
    · rw [g2 51 (by omega), f2 51 (by omega)]; exact r1 k hk
def xa (c : cC) (i k : Nat) : Nat := if k < 3 then cT c i (4 + k) else 0
theorem xa_le {c : cC} (hc : OkC c) (i k : Nat) : xa c i k ≤ 10 := by
  unfold xa
  split
  · exact (hc.2.2.2.2.2.2.2.2 i (4 + k)).2 (by omega)
  · omega
theorem f_agedL {c : cC} {τ : sM} {F i : Nat} (hc : OkC c) (hM : RelM c τ) (hF : 200 ≤ F) (hi : i < cS c) (h36 : τ 55 36 = (i : Int)) {W : Nat → Nat} (hW : ∀ k, k < 4 → τ 85 k = (W k : Int)) : ∃ τ', X9_aged F τ = X9_settle F τ' ∧ (∀ m, m ≠ 85 → τ' m = τ m) ∧ (∀ k, k < 4 → τ' 85 k = τ 85 k) ∧ ∀ k, k < 4 → τ' 85 (4 + k) = (ag (xa c i) W k : Int) := by
  have c4 := hc.1
  unfold X9_aged
  rw [hM.1, if_pos (by rw [wiN (by omega)]; omega)]
  refine lp_inv (fun n (y : sM × Int × Int) => y.2.2 = (n : Int) ∧ y.2.1 = ((match n with | 0 => 0 | m + 1 => W m * xa c i m : Nat) : Int) ∧ (∀ m, m ≠ 85 → y.1 m = τ m) ∧ (∀ k, k < 4 → y.1 85 k = (W k : Int)) ∧ ∀ k, k < n → y.1 85 (4 + k) = (ag (xa c i) W k : Int)) 4 (fun (r : Option (Int × sM)) => ∃ τ' : sM, r = X9_settle F τ' ∧ (∀ m, m ≠ 85 → τ' m = τ m) ∧ (∀ k, k < 4 → τ' 85 k = τ 85 k) ∧ ∀ k, k < 4 → τ' 85 (4 + k) = (ag (xa c i) W k : Int)) (fun n y hn hI K => ?_) (fun y hI K => ?_) ⟨rfl, rfl, fun _ _ => rfl, hW, fun k hk => absurd hk (by omega)⟩ (by omega)
  · obtain ⟨τ1, fr, u⟩ := y
    obtain ⟨hu, hfr, hf, hr, hr2⟩ := hI
    simp only [] at hu hfr hf hr hr2 ⊢
    subst hu
    have hx := xa_le hc i n
    have hM1 : RelM c τ1 := hM.congr (fun k b1 b2 => hf k (by omega))
    have ex : ∀ (J : Int → Option (Int × sM)), (if ¬ wi (n : Int) = 3 then if 0 ≤ wi (((14 : Int) * (τ1 55 36) + 4) + (n : Int)) ∧ wi (((14 : Int) * (τ1 55 36) + 4) + (n : Int)) < 112 then J (wi (τ1 61 (wi (((14 : Int) * (τ1 55 36) + 4) + (n : Int))).toNat)) else none else J 0) = J (xa c i n : Int) := by
      intro J
      rw [hf 55 (by omega), h36, wiN (n := n) (by omega)]
      unfold xa
      by_cases y : n < 3
      · have hT := (hc.2.2.2.2.2.2.2.2 i (4 + n)).1
        rw [if_pos (by omega), if_pos y, show (14 : Int) * (i : Int) + 4 + (n : Int) = ((14 * i + (4 + n) : Nat) : Int) by push_cast; omega, wiN (n := 14 * i + (4 + n)) (by omega), if_pos (by omega), Int.toNat_natCast, hM1.2.2.2.2.2.2 i hi (4 + n) (by omega), wiN (by omega)]
      · rw [if_neg (by omega), if_neg y]; rfl
    simp only [jn_def, nm_def]
    rw [if_neg (by rw [wiN (by omega)]; omega)]
    rw [ex (fun q8 => if 0 ≤ wi (n : Int) ∧ wi (n : Int) < 8 then if 0 ≤ wi (4 + (n : Int)) ∧ wi (4 + (n : Int)) < 8 then if 0 ≤ wi (n : Int) ∧ wi (n : Int) < 8 then K ((sU τ1 85 (wi (4 + (n : Int))).toNat (fr + ((τ1 85 (wi (n : Int)).toNat) * (10 - q8)))), ((sU τ1 85 (wi (4 + (n : Int))).toNat (fr + ((τ1 85 (wi (n : Int)).toNat) * (10 - q8)))) 85 (wi (n : Int)).toNat) * q8, (n : Int) + 1) else none else none else none)]
    rw [show (4 : Int) + (n : Int) = ((4 + n : Nat) : Int) by omega, wiN (n := n) (by omega), wiN (n := 4 + n) (by omega), if_pos (by omega), if_pos (by omega), if_pos (by omega), Int.toNat_natCast, Int.toNat_natCast, sUnj (by omega), hr n hn]
    refine ⟨_, ⟨?_, ?_, fun m hm => ?_, fun k hk => ?_, fun k hk => ?_⟩, rfl⟩
    · simp only []; omega
    · simp only []; rw [Int.natCast_mul]
    · simp only []; rw [sU_ne hm]; exact hf m hm
    · simp only []; rw [sUnj (by omega)]; exact hr k hk
    · simp only []
      by_cases y : k = n
      · subst y
        rw [sUv, hfr, show (10 : Int) - (xa c i k : Int) = ((10 - xa c i k : Nat) : Int) by omega, ← Int.natCast_mul, ← Int.natCast_add]
        congr 1
        cases k with
        | zero => show 0 + W 0 * (10 - xa c i 0) = W 0 * (10 - xa c i 0); omega
        | succ k => show W k * xa c i k + W (k + 1) * (10 - xa c i (k + 1)) = W (k + 1) * (10 - xa c i (k + 1)) + W k * xa c i k; omega
      · rw [sUnj (by omega)]; exact hr2 k (by omega)
  · obtain ⟨τ1, fr, u⟩ := y
    obtain ⟨hu, hfr, hf, hr, hr2⟩ := hI
    simp only [] at hu hfr hf hr hr2 ⊢
    subst hu
    rw [if_pos (by decide)]
    refine ⟨τ1, ?_, hf, fun k hk => by rw [hr k hk, hW k hk], hr2⟩
    cases X9_settle F τ1 with
    | none => rfl
    | some z => rfl
theorem ag_lt {x W : Nat → Nat} (hx : ∀ k, x k ≤ 10) (h : ∀ k, k < 4 → W k ≤ 1000000000000) {k : Nat} (hk : k < 4) : ag x W k < 2 ^ 62 := by
  have m : ∀ a b : Nat, a ≤ 1000000000000 → b ≤ 10 → a * b ≤ 1000000000000 * 10 := fun a b ha hb => Nat.mul_le_mul ha hb
  cases k with
  | zero =>
    show W 0 * (10 - x 0) < _
    have := m (W 0) (10 - x 0) (h 0 (by omega)) (by omega)
    omega
  | succ k =>
    show W (k + 1) * (10 - x (k + 1)) + W k * x k < _
    have := m (W (k + 1)) (10 - x (k + 1)) (h _ hk) (by omega)
    have := m (W k) (x k) (h k (by omega)) (hx k)
    omega
theorem e_copy53 {σ : sM} {W : Nat → Nat} (h : ∀ k, k < 4 → σ 51 k = (W k : Int)) : ∃ σ1, X5_becomeLike 52 50 σ = some (0, σ1) ∧ (∀ m, m ≠ 53 → σ1 m = σ m) ∧ Wt 53 W σ1 := by
  unfold X5_becomeLike
  refine ⟨_, rfl, fun m hm => sUc_ne hm, fun k hk => ?_⟩
  show sUc σ 53 _ 53 k = _
  rw [sUc_at, if_pos hk]
  exact h k hk
theorem s_aged {c : cC} {j : Nat} {q : qT} {x : List Nat} {t a s p F : Nat} {g k l : Int} {σ : sM} (h : Jn c j q x t a s p g k l σ) (hF : 200 ≤ F) : Stq j q x (X8_aged F σ) (fun τ => X9_aged F τ) := by
  obtain ⟨hc, hX, hM, hW, hm, hV, hT, hI, hE, hB', ⟨i, W, t1, t2, t3, t4, t5⟩, htr⟩ := id h
  have c4 := hc.1
  by_cases y : 0 < cS c
  · have hi : i < cS c := by omega
    have hle : ∀ k, k < 4 → W k ≤ 1000000000000 := fun k hk => (t4 k hk).2.2
    obtain ⟨σ1, e1, f1, r1⟩ := e_copy53 (fun k hk => (t4 k hk).1)
    have hX1 : RelX c σ1 := hX.congr hc (fun k b1 b2 => f1 k (by omega))
    obtain ⟨σ2, e2, f2, r2⟩ := e_weekGoesBy (F := F) (o := 52) (i := i) (z := 0) (t := 8) hc hX1 (by omega) (by omega) (by omega) hi (by omega) r1
    have exa : (fun k => if k < 3 then tq c i ((if (0 : Nat) = 0 then 4 else 7) + k) 8 else 0) = xa c i := by
      funext k
      unfold xa
      by_cases y : k < 3
      · rw [if_pos y, if_pos y, if_pos rfl]
        unfold tq
        have h1 := (hc.2.2.2.2.2.2.2.2 i (4 + k)).2 (by omega)
        have h2 := (hc.2.2.2.2.2.2.2.1 8 (by omega)).1
        by_cases y2 : cT c i (4 + k) = 0
        · rw [if_pos y2, y2]
        · rw [if_neg y2]; omega
      · rw [if_neg y, if_neg y]
    rw [exa] at r2
    have htot : tot (ag (xa c i) W) = 10 * tot W := ag_tot (xa_le hc i) rfl
    have t5' : 0 < tot W := t5
    have key := s_settle (F := F) (σa := σ2) h hF hi ⟨t1, t2⟩ (fun k hk => ag_lt (xa_le hc i) hle hk) (by rw [htot]; omega) (fun m hm => by rw [f2 m hm, f1 m hm]) r2 (fun τ => X9_aged F τ) (fun τ hτ => f_agedL (F := F) hc (hM.congr (fun k b1 b2 => hτ k (by omega) (by omega))) hF hi (by rw [hτ 55 (by omega) (by omega)]; exact t2) (fun k hk => by rw [hτ 85 (by omega) (by omega)]; exact (t4 k hk).2.1))
    obtain ⟨r, σ3, r', σ4, e3, e4, e5, e6⟩ := key
    refine ⟨r, σ3, r', σ4, ?_, e4, e5, e6⟩
    unfold X8_aged X6_age X1_isSort
    rw [t1, hX.1, wiN (n := i) (by omega), wiN (n := cS c) (by omega), if_neg (by omega), if_neg (by omega), bp_some, if_pos (by decide), e1, bn_some, f1 49 (by omega), t1]
    rw [show ((0 : Nat) : Int) = 0 from rfl, show ((8 : Nat) : Int) = 8 from rfl] at e2
    rw [e2, bn_some, e3]
    rfl
  · refine ⟨_, _, _, _, (?_ : X8_aged F σ = some (-2, σ)), (?_ : X9_aged F σ = some (-2, σ)), rfl, h.inv⟩
    · unfold X8_aged X6_age X1_isSort
      rw [t1, hX.1, wiN (n := i) (by omega), wiN (n := cS c) (by omega), if_neg (by omega), if_pos (by omega), bp_some, if_neg (by decide)]
      rfl
    · unfold X9_aged
      rw [hM.1, if_neg (by rw [wiN (by omega)]; omega)]
def sv (c : cC) (i v : Nat) (W : Nat → Nat) (k : Nat) : Nat := W k * (if v = 1 then cT c i (10 + k) else 10 - cT c i (10 + k))
theorem e_rind {c : cC} {σ : sM} {F o i v : Nat} (hc : OkC c) (hX : RelX c σ) (ho : 12 ≤ o) (hF : 10 ≤ F) (hv : v < 2) (hi : i < cS c) {W : Nat → Nat} (hW : Wt (o + 1) W σ) : ∃ σ1, X5_rindIsSeen F o σ (i : Int) (v : Int) = some (0, σ1) ∧ (∀ m, m ≠ o + 1 → σ1 m = σ m) ∧ Wt (o + 1) (sv c i v W) σ1 := by
  unfold X5_rindIsSeen
  refine lp_inv (fun n (y : sM × Int) => y.2 = (n : Int) ∧ (∀ m, m ≠ o + 1 → y.1 m = σ m) ∧ ∀ k, k < 4 → y.1 (o + 1) k = ((if k < n then sv c i v W k else W k : Nat) : Int)) 4 (fun (r : Option (Int × sM)) => ∃ σ1 : sM, r = some (0, σ1) ∧ (∀ m, m ≠ o + 1 → σ1 m = σ m) ∧ Wt (o + 1) (sv c i v W) σ1) (fun n y hn hI K => ?_) (fun y hI K => ?_) ⟨rfl, fun _ _ => rfl, fun k hk => by rw [if_neg (by omega)]; exact hW k hk⟩ (by omega)
  · obtain ⟨τ, u⟩ := y
    obtain ⟨hu, hf, hr⟩ := hI
    simp only [] at hu hf hr ⊢
    subst hu
    have hXτ : RelX c τ := hX.congr hc (fun k b1 b2 => hf k (by omega))
    have hT := (hc.2.2.2.2.2.2.2.2 i (10 + n)).2 (by omega)
    simp only [jn_def]
    rw [if_neg (by rw [wiN (by omega)]; omega), show (10 : Int) + (n : Int) = ((10 + n : Nat) : Int) by omega, e_trait hXτ hc hi (by omega), bp_some, wiN (n := n) (by omega)]
    simp only [if_pos (show 0 ≤ (n : Int) ∧ (n : Int) < 4 by omega), Int.toNat_natCast]
    rw [hr n hn, if_neg (show ¬ n < n by omega)]
    have fin : ∀ z : Nat, z = (if v = 1 then cT c i (10 + n) else 10 - cT c i (10 + n)) → ∃ x' : sM × Int, (x'.2 = ((n + 1 : Nat) : Int) ∧ (∀ m, m ≠ o + 1 → x'.1 m = σ m) ∧ ∀ k, k < 4 → x'.1 (o + 1) k = ((if k < n + 1 then sv c i v W k else W k : Nat) : Int)) ∧ K (sU τ (o + 1) n ((W n : Int) * (z : Int)), (n : Int) + 1) = K x' := by
      intro z hz
      refine ⟨_, ⟨?_, fun m hm => ?_, fun k hk => ?_⟩, rfl⟩
      · simp only []; omega
      · simp only []; rw [sU_ne hm]; exact hf m hm
      · simp only []
        by_cases y : k = n
        · subst y
          rw [sUv, if_pos (by omega), ← Int.natCast_mul]
          unfold sv
          rw [hz]
        · rw [sUnj y, hr k hk]
          by_cases y2 : k < n
          · rw [if_pos y2, if_pos (by omega)]
          · rw [if_neg y2, if_neg (by omega)]
    rcases (show v = 0 ∨ v = 1 by omega) with e | e
    · subst e
      rw [if_pos (by decide), show (10 : Int) - (cT c i (10 + n) : Int) = ((10 - cT c i (10 + n) : Nat) : Int) by omega, wiN (by omega)]
      exact fin _ (by rw [if_neg (by decide)])
    · subst e
      rw [if_neg (by decide), wiN (n := cT c i (10 + n)) (by omega)]
      exact fin _ (by rw [if_pos rfl])
  · obtain ⟨τ, u⟩ := y
    obtain ⟨hu, hf, hr⟩ := hI
    simp only [] at hu hf hr ⊢
    subst hu
    rw [if_pos (by decide)]
    exact ⟨_, rfl, hf, fun k hk => by rw [hr k hk, if_pos hk]⟩
theorem f_shownL {c : cC} {τ : sM} {F i v : Nat} (hc : OkC c) (hM : RelM c τ) (hF : 200 ≤ F) (hi : i < cS c) (h36 : τ 55 36 = (i : Int)) (hv : v < 2) (h1 : wi (v : Int) = (v : Int)) {W : Nat → Nat} (hW : ∀ k, k < 4 → τ 85 k = (W k : Int)) : ∃ τ', X9_shown F τ (v : Int) = X9_settle F τ' ∧ (∀ m, m ≠ 85 → τ' m = τ m) ∧ (∀ k, k < 4 → τ' 85 k = τ 85 k) ∧ ∀ k, k < 4 → τ' 85 (4 + k) = (sv c i v W k : Int) := by
  have c4 := hc.1
  unfold X9_shown
  rw [f_in _ (v : Int) 0 1 h1 (by decide) (by decide), bp_some, b2_ifn, if_pos (by omega), hM.1, if_pos (by rw [wiN (by omega)]; omega)]
  refine lp_inv (fun n (y : sM × Int) => y.2 = (n : Int) ∧ (∀ m, m ≠ 85 → y.1 m = τ m) ∧ (∀ k, k < 4 → y.1 85 k = (W k : Int)) ∧ ∀ k, k < n → y.1 85 (4 + k) = (sv c i v W k : Int)) 4 (fun (r : Option (Int × sM)) => ∃ τ' : sM, r = X9_settle F τ' ∧ (∀ m, m ≠ 85 → τ' m = τ m) ∧ (∀ k, k < 4 → τ' 85 k = τ 85 k) ∧ ∀ k, k < 4 → τ' 85 (4 + k) = (sv c i v W k : Int)) (fun n y hn hI K => ?_) (fun y hI K => ?_) ⟨rfl, fun _ _ => rfl, hW, fun k hk => absurd hk (by omega)⟩ (by omega)
  · obtain ⟨τ1, u⟩ := y
    obtain ⟨hu, hf, hr, hr2⟩ := hI
    simp only [] at hu hf hr hr2 ⊢
    subst hu
    have hT := (hc.2.2.2.2.2.2.2.2 i (10 + n)).2 (by omega)
    have hM1 : RelM c τ1 := hM.congr (fun k b1 b2 => hf k (by omega))
    simp only [jn_def, nm_def]
    rw [if_neg (by rw [wiN (by omega)]; omega), hf 55 (by omega), h36, show (14 : Int) * (i : Int) + 10 + (n : Int) = ((14 * i + (10 + n) : Nat) : Int) by push_cast; omega, wiN (n := 14 * i + (10 + n)) (by omega), wiN (n := n) (by omega), show (4 : Int) + (n : Int) = ((4 + n : Nat) : Int) by omega, wiN (n := 4 + n) (by omega)]
    simp only [if_pos (show 0 ≤ ((14 * i + (10 + n) : Nat) : Int) ∧ ((14 * i + (10 + n) : Nat) : Int) < 112 by omega), if_pos (show 0 ≤ (n : Int) ∧ (n : Int) < 8 by omega), if_pos (show 0 ≤ ((4 + n : Nat) : Int) ∧ ((4 + n : Nat) : Int) < 8 by omega), Int.toNat_natCast]
    rw [hM1.2.2.2.2.2.2 i hi (10 + n) (by omega), wiN (n := cT c i (10 + n)) (by omega), hr n hn, h1]
    have fin : ∀ z : Nat, z = (if v = 1 then cT c i (10 + n) else 10 - cT c i (10 + n)) → ∃ x' : sM × Int, (x'.2 = ((n + 1 : Nat) : Int) ∧ (∀ m, m ≠ 85 → x'.1 m = τ m) ∧ (∀ k, k < 4 → x'.1 85 k = (W k : Int)) ∧ ∀ k, k < n + 1 → x'.1 85 (4 + k) = (sv c i v W k : Int)) ∧ K (sU τ1 85 (4 + n) ((W n : Int) * (z : Int)), (n : Int) + 1) = K x' := by
      intro z hz
      refine ⟨_, ⟨?_, fun m hm => ?_, fun k hk => ?_, fun k hk => ?_⟩, rfl⟩
      · simp only []; omega
      · simp only []; rw [sU_ne hm]; exact hf m hm
      · simp only []; rw [sUnj (by omega)]; exact hr k hk
      · simp only []
        by_cases y : k = n
        · subst y
          rw [sUv, ← Int.natCast_mul]
          unfold sv
          rw [hz]
        · rw [sUnj (by omega)]; exact hr2 k (by omega)
    rcases (show v = 0 ∨ v = 1 by omega) with e | e
    · subst e
      rw [if_pos (by decide), show (10 : Int) - (cT c i (10 + n) : Int) = ((10 - cT c i (10 + n) : Nat) : Int) by omega]
      exact fin _ (by rw [if_neg (by decide)])
    · subst e
      rw [if_neg (by decide)]
      exact fin _ (by rw [if_pos rfl])
  · obtain ⟨τ1, u⟩ := y
    obtain ⟨hu, hf, hr, hr2⟩ := hI
    simp only [] at hu hf hr hr2 ⊢
    subst hu
    rw [if_pos (by decide)]
    refine ⟨τ1, ?_, hf, fun k hk => by rw [hr k hk, hW k hk], hr2⟩
    cases X9_settle F τ1 with
    | none => rfl
    | some z => rfl
theorem sv_le {c : cC} (hc : OkC c) {i v : Nat} {W : Nat → Nat} (h : ∀ k, k < 4 → W k ≤ 1000000000000) {k : Nat} (hk : k < 4) : sv c i v W k ≤ 10000000000000 := by
  have hT := (hc.2.2.2.2.2.2.2.2 i (10 + k)).2 (by omega)
  have m : ∀ b : Nat, b ≤ 10 → W k * b ≤ 1000000000000 * 10 := fun b hb => Nat.mul_le_mul (h k hk) hb
  unfold sv
  split
  · have := m _ hT; omega
  · have := m (10 - cT c i (10 + k)) (by omega); omega
theorem sv_lt {c : cC} (hc : OkC c) {i v : Nat} {W : Nat → Nat} (h : ∀ k, k < 4 → W k ≤ 1000000000000) {k : Nat} (hk : k < 4) : sv c i v W k < 2 ^ 62 := by
  have := sv_le (i := i) (v := v) hc h hk
  omega
theorem s_shown {c : cC} {j : Nat} {q : qT} {x : List Nat} {t a s p F : Nat} {g k l : Int} {σ : sM} (h : Jn c j q x t a s p g k l σ) (hF : 200 ≤ F) (a1 : Int) (h1 : wi a1 = a1) : Stq j q x (X8_shown F σ a1) (fun τ => X9_shown F τ a1) := by
  obtain ⟨hc, hX, hM, hW, hm, hV, hT, hI, hE, hB', ⟨i, W, t1, t2, t3, t4, t5⟩, htr⟩ := id h
  have c4 := hc.1
  by_cases z : 0 ≤ a1 ∧ a1 ≤ 1
  · obtain ⟨v, rfl⟩ : ∃ i : Nat, a1 = i := ⟨a1.toNat, by omega⟩
    have ev : X8_shown F σ (v : Int) = bn (X6_see F σ (v : Int)) (fun r5 σ7 => some (r5, σ7)) := by
      unfold X8_shown
      rw [jn_def, wiN (n := v) (by omega), if_neg (by omega), if_pos (by omega)]
      rcases (show v = 0 ∨ v = 1 by omega) with e | e
      · subst e; rfl
      · subst e; rfl
    have eX : ∀ r τ, X6_see F σ (v : Int) = some (r, τ) → X8_shown F σ (v : Int) = some (r, τ) := fun r τ e => by rw [ev, e, bn_some]
    by_cases y : 0 < cS c
    · have hi : i < cS c := by omega
      have hle : ∀ k, k < 4 → W k ≤ 1000000000000 := fun k hk => (t4 k hk).2.2
      obtain ⟨σ1, e1, f1, r1⟩ := e_copy53 (fun k hk => (t4 k hk).1)
      have hX1 : RelX c σ1 := hX.congr hc (fun k b1 b2 => f1 k (by omega))
      obtain ⟨σ2, e2, f2, r2⟩ := e_rind (F := F) (o := 52) (i := i) (v := v) hc hX1 (by omega) (by omega) (by omega) hi r1
      have b0 := sv_le (i := i) (v := v) hc hle (show 0 < 4 by omega)
      have b1 := sv_le (i := i) (v := v) hc hle (show 1 < 4 by omega)
      have b2' := sv_le (i := i) (v := v) hc hle (show 2 < 4 by omega)
      have b3 := sv_le (i := i) (v := v) hc hle (show 3 < 4 by omega)
      have hsee : X6_see F σ (v : Int) = if tot (sv c i v W) = 0 then some (-2, σ2) else X6_takeTrial F σ2 := by
        unfold X6_see X1_isSort
        rw [t1, hX.1, wiN (n := i) (by omega), wiN (n := cS c) (by omega), if_neg (by omega), if_neg (by omega), bp_some, if_pos (by decide), e1, bn_some, f1 49 (by omega), t1, e2, bn_some, e_total r2, bp_some]
        by_cases y : tot (sv c i v W) = 0
        · rw [y, if_neg (by decide), if_pos rfl]
        · rw [if_neg y, lcmp0 (n := tot (sv c i v W)) (by unfold tot; omega), if_neg y, if_pos (by decide)]
          cases X6_takeTrial F σ2 with
          | none => rfl
          | some z => rfl
      by_cases y : tot (sv c i v W) = 0
      · rw [if_pos y] at hsee
        obtain ⟨τ', g1, g2, g3, g4⟩ := f_shownL (F := F) (τ := σ2) (v := v) hc (hM.congr (fun k b1 b2 => by rw [f2 k (by omega), f1 k (by omega)])) hF hi (by rw [f2 55 (by omega), f1 55 (by omega)]; exact t2) (by omega) h1 (fun k hk => by rw [f2 85 (by omega), f1 85 (by omega)]; exact (t4 k hk).2.1)
        have g5 := (f_settle (F := F) hF g4 (fun k hk => sv_lt hc hle hk)).1 y
        refine ⟨_, _, _, _, eX _ _ hsee, by show X9_shown F σ2 (v : Int) = _; rw [g1, g5], rfl, h.thk (fun k b1 b2 b3 b4 b5 => ?_) (fun jj hj => ?_) ⟨i, W, ?_, ?_, t3, fun k hk => ⟨?_, ?_, (t4 k hk).2.2⟩, t5⟩⟩
        · rw [g2 k b5, f2 k b3, f1 k b3]
        · rw [g2 55 (by omega), f2 55 (by omega), f1 55 (by omega)]
        · rw [g2 49 (by omega), f2 49 (by omega), f1 49 (by omega)]; exact t1
        · rw [g2 55 (by omega), f2 55 (by omega), f1 55 (by omega)]; exact t2
        · rw [g2 51 (by omega), f2 51 (by omega), f1 51 (by omega)]; exact (t4 k hk).1
        · rw [g3 k hk, f2 85 (by omega), f1 85 (by omega)]; exact (t4 k hk).2.1
      · rw [if_neg y] at hsee
        have key := s_settle (F := F) (σa := σ2) (V := sv c i v W) h hF hi ⟨t1, t2⟩ (fun k hk => sv_lt hc hle hk) (by omega) (fun m hm => by rw [f2 m hm, f1 m hm]) r2 (fun τ => X9_shown F τ (v : Int)) (fun τ hτ => f_shownL (F := F) (v := v) hc (hM.congr (fun k b1 b2 => hτ k (by omega) (by omega))) hF hi (by rw [hτ 55 (by omega) (by omega)]; exact t2) (by omega) h1 (fun k hk => by rw [hτ 85 (by omega) (by omega)]; exact (t4 k hk).2.1))
        obtain ⟨r, σ3, r', σ4, e3, e4, e5, e6⟩ := key
        exact ⟨r, σ3, r', σ4, eX _ _ (by rw [hsee, e3]), e4, e5, e6⟩
    · refine ⟨_, _, _, _, eX (-2) σ ?_, (?_ : X9_shown F σ (v : Int) = some (-2, σ)), rfl, h.inv⟩
      · unfold X6_see X1_isSort
        rw [t1, hX.1, wiN (n := i) (by omega), wiN (n := cS c) (by omega), if_neg (by omega), if_pos (by omega), bp_some, if_neg (by decide)]
      · unfold X9_shown
        rw [f_in _ (v : Int) 0 1 h1 (by decide) (by decide), bp_some, b2_ifn, if_pos (by omega), hM.1, if_neg (by rw [wiN (by omega)]; omega)]
  · refine ⟨_, _, _, _, (?_ : X8_shown F σ a1 = some (-1, σ)), (?_ : X9_shown F σ a1 = some (-1, σ)), rfl, h.inv⟩
    · unfold X8_shown
      rw [h1]
      by_cases z1 : a1 < 0
      · rw [if_pos z1]
      · rw [if_neg z1, if_neg (by omega)]
    · unfold X9_shown
      rw [f_in _ a1 0 1 h1 (by decide) (by decide), bp_some, b2_ifn, if_neg z]
