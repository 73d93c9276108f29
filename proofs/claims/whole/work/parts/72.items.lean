def RelY (d : cC) (σ : sM) : Prop := σ 12 5 = (d 0 0 : Int) ∧ σ 12 6 = (d 0 1 : Int) ∧ σ 12 7 = (d 0 2 : Int) ∧ σ 12 8 = (d 0 3 : Int) ∧ (∀ w, w < 3 → σ 19 w = (d 2 w : Int)) ∧ (∀ w, w < d 0 1 → σ 18 w = (d 1 w : Int)) ∧ (∀ t, t < 8 → σ 20 t = (d 3 t : Int) ∧ σ 21 t = (d 4 t : Int)) ∧ ∀ i, i < d 0 0 → ∀ k, k < 14 → σ (14 + i) k = (d (5 + i) k : Int)
def RelN (d : cC) (τ : sM) : Prop := τ 57 1 = (d 0 0 : Int) ∧ τ 58 1 = (d 0 1 : Int) ∧ τ 59 1 = (d 0 2 : Int) ∧ τ 60 1 = (d 0 3 : Int) ∧ (∀ w, w < d 0 1 → τ 62 (3 + w) = (d 1 w : Int) ∧ τ 63 (3 + w) = (d 2 w : Int)) ∧ (∀ t, t < 8 → τ 64 (8 + t) = (d 3 t : Int) ∧ τ 65 (8 + t) = (d 4 t : Int)) ∧ ∀ i, i < d 0 0 → ∀ k, k < 14 → τ 61 (56 + 14 * i + k) = (d (5 + i) k : Int)
theorem RelY.congr {d : cC} {σ σ' : sM} (h : RelY d σ) (hc : OkC d) (he : ∀ k, 12 ≤ k → k ≤ 21 → σ' k = σ k) : RelY d σ' := by
  obtain ⟨h1, h2, h3, h4, h5, h6, h7, h8⟩ := h
  have := hc.1
  refine ⟨by rw [he 12 (by omega) (by omega)]; exact h1, by rw [he 12 (by omega) (by omega)]; exact h2, by rw [he 12 (by omega) (by omega)]; exact h3, by rw [he 12 (by omega) (by omega)]; exact h4, fun w hw => by rw [he 19 (by omega) (by omega)]; exact h5 w hw, fun w hw => by rw [he 18 (by omega) (by omega)]; exact h6 w hw, fun t ht => by rw [he 20 (by omega) (by omega), he 21 (by omega) (by omega)]; exact h7 t ht, fun i hi k hk => ?_⟩
  have : d 0 0 ≤ 4 := hc.1
  rw [he (14 + i) (by omega) (by omega)]; exact h8 i hi k hk
theorem RelN.congr {d : cC} {τ τ' : sM} (h : RelN d τ) (he : ∀ k, 57 ≤ k → k ≤ 65 → τ' k = τ k) : RelN d τ' := by
  unfold RelN at *
  rw [he 57 (by omega) (by omega), he 58 (by omega) (by omega), he 59 (by omega) (by omega), he 60 (by omega) (by omega), he 61 (by omega) (by omega), he 62 (by omega) (by omega), he 63 (by omega) (by omega), he 64 (by omega) (by omega), he 65 (by omega) (by omega)]
  exact h
def dU (d : cC) (m x v : Nat) : cC := fun m' x' => if m' = m ∧ x' = x then v else d m' x'
theorem dU_ne {d : cC} {m x v m' x' : Nat} (h : m' ≠ m ∨ x' ≠ x) : dU d m x v m' x' = d m' x' := by unfold dU; rw [if_neg (by omega)]
theorem dU_v {d : cC} {m x v : Nat} : dU d m x v m x = v := by unfold dU; rw [if_pos ⟨rfl, rfl⟩]
/-- what reading may change in the class -/
def fCq (σ x : sM) : Prop := ∀ k, k < 12 ∨ k = 13 ∨ 26 ≤ k → x k = σ k
/-- the item's parse, its word read -/
def itB (F : Nat) (a1 : Int) (σ5 : sM) : Option (Int × sM) := jn (fun q7 : sM => jn (fun q9 : Int => bn (X9_due F q7 q9) (fun r11 σ13 => some (0, σ13))) (fun K10 => if ¬ wi (q7 55 14) = 11 then K10 0 else K10 1)) (fun K8 => if ¬ wi a1 = 1 then if ¬ wi a1 = 2 then if ¬ wi a1 = 6 then if ¬ wi a1 = 7 then bn (X9_number F σ5 0 7) (fun r19 σ21 => jn (fun q22 : Int => bn (X9_number F σ21 0 q22) (fun r24 σ26 => jn (fun q27 : Unit => if ¬ wi (σ26 55 16) = (-9) then K8 σ26 else if 0 ≤ wi (8 + r19) ∧ wi (8 + r19) < 16 then K8 (sU σ26 65 (wi (8 + r19)).toNat r24) else none) (fun K28 => if ¬ wi (σ26 55 16) = (-9) then K28 () else if ¬ wi a1 = 8 then K28 () else if 0 ≤ wi (8 + r19) ∧ wi (8 + r19) < 16 then K8 (sU σ26 64 (wi (8 + r19)).toNat r24) else none))) (fun K23 => if ¬ wi a1 = 8 then K23 99 else K23 5)) else bn (X9_number F σ5 1 3) (fun r35 σ37 => K8 (sU σ37 60 1 r35)) else bn (X9_number F σ5 0 ((σ5 57 1) - 1)) (fun r38 σ40 => if 0 ≤ wi (3 + (σ5 58 1)) ∧ wi (3 + (σ5 58 1)) < 6 then bn (X9_number F (sU σ40 62 (wi (3 + (σ5 58 1))).toNat r38) 1 3) (fun r42 σ44 => if 0 ≤ wi (3 + ((sU σ40 62 (wi (3 + (σ5 58 1))).toNat r38) 58 1)) ∧ wi (3 + ((sU σ40 62 (wi (3 + (σ5 58 1))).toNat r38) 58 1)) < 6 then nm (sU (sU σ44 63 (wi (3 + ((sU σ40 62 (wi (3 + (σ5 58 1))).toNat r38) 58 1))).toNat r42) 58 1 (((sU σ44 63 (wi (3 + ((sU σ40 62 (wi (3 + (σ5 58 1))).toNat r38) 58 1))).toNat r42) 58 1) + 1)) (fun σ46 => K8 σ46) else none) else none) else bn (X9_readSort F σ5) (fun r48 σ50 => K8 σ50) else bn (X9_number F σ5 1 8) (fun r51 σ53 => K8 (sU σ53 59 1 r51)))
def itA (F : Nat) (τ : sM) (a q1 : Int) : Option (Int × sM) := bn (X9_due F τ q1) (fun r3 σ5 => if wi (σ5 55 16) = (-9) then itB F a σ5 else some (0, σ5))
theorem itA0 {F : Nat} {b : Nat → Int} {n k : Nat} {τ : sM} (hb : Bt b n) (h : Rf b n k τ) (a : Int) : ∃ x, itA F τ a 0 = some (0, x) ∧ x 55 16 = (pP b n k : Int) ∧ fQq τ x := by
  obtain ⟨x, e, r1, r2⟩ := f_due0 (F := F) h
  refine ⟨x, ?_, r1, r2⟩
  unfold itA
  rw [e, bn_some, if_neg (flt hb r1)]
theorem itA1 {F : Nat} {b : Nat → Int} {n k : Nat} {τ : sM} (hF : 500 ≤ F) (hb : Bt b n) (h : Rf b n k τ) (a : Int) : ∃ x, itA F τ a 1 = itB F a x ∧ Rf b n (k + 1) x ∧ fQq τ x := by
  obtain ⟨x, e, r1, r2⟩ := f_due1 hF hb h
  refine ⟨x, ?_, r1, r2⟩
  unfold itA
  rw [e, bn_some, if_pos (by rw [r1.2.1]; decide)]
def nz (F m : Nat) (lo hi : Int) (x : sM) : Option (Int × sM) := bn (X9_number F x lo hi) (fun r σ => zz F (sU σ m 1 r))
theorem itB_1 (F : Nat) (x : sM) : itB F 1 x = nz F 59 1 8 x := by
  unfold itB; rw [jn_def, if_neg (show ¬ ¬ wi 1 = 1 by decide)]; rfl
theorem itB_7 (F : Nat) (x : sM) : itB F 7 x = nz F 60 1 3 x := by
  unfold itB; rw [jn_def, if_pos (show ¬ wi 7 = 1 by decide), if_pos (show ¬ wi 7 = 2 by decide), if_pos (show ¬ wi 7 = 6 by decide), if_neg (show ¬ ¬ wi 7 = 7 by decide)]; rfl
theorem nzY {F m : Nat} {b : Nat → Int} {n k : Nat} {τ : sM} (hF : 500 ≤ F) (hb : Bt b n) (hm : m = 59 ∨ m = 60) (h : Rf b n k τ) {lo hi : Int} (h1 : wi lo = lo) (h2 : wi hi = hi) (hg : Tk b n k = 1 ∧ lo ≤ (Tv b n k : Int) ∧ (Tv b n k : Int) ≤ hi) (hs : Tk b n (k + 1) = 2) : ∃ x, nz F m lo hi τ = some (0, x) ∧ fD τ x ∧ Rf b n (k + 2) x ∧ x m 1 = (Tv b n k : Int) ∧ ∀ i, i ≠ 55 → i ≠ m → x i = τ i := by
  obtain ⟨y, e, r1, r2⟩ := f_numY hF hb h h1 h2 hg
  obtain ⟨x, e2, s1, s2⟩ := zzY hF hb (r1.set (m := m) 1 (Tv b n k : Int) (by omega)) hs
  refine ⟨x, ?_, (r2.dD.set _ (by omega)).trans s2.dD, s1, ?_, fun i hi hi2 => ?_⟩
  · unfold nz; rw [e, bn_some, e2]
  · rw [s2.1 m (by omega), sUv]
  · rw [s2.1 i hi, sU_ne hi2, r2.1 i hi]
theorem nzN {F m : Nat} {b : Nat → Int} {n k : Nat} {τ : sM} (hF : 500 ≤ F) (hb : Bt b n) (hm : m = 59 ∨ m = 60) (h : Rf b n k τ) {lo hi : Int} (h1 : wi lo = lo) (h2 : wi hi = hi) {k' : Nat} (hg : ¬ (Tk b n k = 1 ∧ lo ≤ (Tv b n k : Int) ∧ (Tv b n k : Int) ≤ hi) ∧ k' = k ∨ (Tk b n k = 1 ∧ lo ≤ (Tv b n k : Int) ∧ (Tv b n k : Int) ≤ hi) ∧ ¬ Tk b n (k + 1) = 2 ∧ k' = k + 1) : ∃ x, nz F m lo hi τ = some (0, x) ∧ fD τ x ∧ x 55 16 = (pP b n k' : Int) := by
  rcases hg with ⟨hg, rfl⟩ | ⟨hg, hs, rfl⟩
  · obtain ⟨v, y, e, r1, r2⟩ := f_numN (F := F) h h1 h2 hg
    have q : (sU y m 1 v) 55 16 = (pP b n k' : Int) := by rw [sU_ne (by omega)]; exact r1
    refine ⟨sU y m 1 v, ?_, r2.dD.set _ (by omega), q⟩
    unfold nz; rw [e, bn_some, zzF hb q]
  · obtain ⟨y, e, r1, r2⟩ := f_numY hF hb h h1 h2 hg
    obtain ⟨x, e2, s1, s2⟩ := zzN (F := F) (r1.set (m := m) 1 (Tv b n k : Int) (by omega)) hs
    refine ⟨x, ?_, (r2.dD.set _ (by omega)).trans s2.dD, s1⟩
    unfold nz; rw [e, bn_some, e2]
/-- the class's item of one number -/
def rdA (lo hi : Int) (j : Nat) (σ : sM) : Option (Int × sM) := bn (X4_lookAt σ ((σ 22 6) + 1)) (fun r1 σ3 => bp (X4_isNumber σ3 lo hi) (fun r4 => if ¬ wi r4 = 0 then bn (X4_lookAt (sU σ3 12 j (σ3 22 8)) (((sU σ3 12 j (σ3 22 8)) 22 6) + 1)) (fun r7 σ9 => bn (X4_take σ9 2) (fun r10 σ12 => if wi r10 = 0 ∨ wi r10 = 1 then some (r10, σ12) else none)) else some (0, σ3)))
theorem rdA_Y {b : Nat → Int} {n N k j : Nat} {σ : sM} (hb : Bt b n) (h : Cq b n N k σ) (hk : Tk b n k ≠ 0) {lo hi : Int} (h1 : wi lo = lo) (h2 : wi hi = hi) (hg : Tk b n (k + 1) = 1 ∧ lo ≤ (Tv b n (k + 1) : Int) ∧ (Tv b n (k + 1) : Int) ≤ hi) (hs : Tk b n (k + 2) = 2) : ∃ σ1, rdA lo hi j σ = some (1, σ1) ∧ Cq b n N (k + 3) σ1 ∧ (∀ m, m ≠ 12 → m ≠ 22 → σ1 m = σ m) ∧ (∀ i, i ≠ j → σ1 12 i = σ 12 i) ∧ σ1 12 j = (Tv b n (k + 1) : Int) := by
  obtain ⟨x, e, r1, r2⟩ := e_nxt hb h hk
  obtain ⟨y, e2, s1, s2⟩ := e_nxt hb (r1.set (m := 12) j (x 22 8) (by omega)) (by omega)
  obtain ⟨z, e3, t1, t2⟩ := e_take1 (K := 2) hb s1 (by omega) hs
  refine ⟨z, ?_, t1, fun m a1 a2 => ?_, fun i hi => ?_, ?_⟩
  · unfold rdA
    rw [e, bn_some, e_isNum r1 h1 h2, bp_some, b2_t hg, if_pos (by decide), e2, bn_some, show ((2 : Nat) : Int) = 2 from rfl] at *
    rw [e3, bn_some, if_pos (by decide)]
  · rw [t2 m a2, s2 m a2, sU_ne a1, r2 m a2]
  · rw [t2 12 (by omega), s2 12 (by omega), sUnj hi, r2 12 (by omega)]
  · rw [t2 12 (by omega), s2 12 (by omega), sUv]; exact r1.2.2.2.2 hg.1
theorem rdA_N {b : Nat → Int} {n N k j : Nat} {σ : sM} (hb : Bt b n) (h : Cq b n N k σ) (hk : Tk b n k ≠ 0) {lo hi : Int} (h1 : wi lo = lo) (h2 : wi hi = hi) {k' : Nat} (hg : ¬ (Tk b n (k + 1) = 1 ∧ lo ≤ (Tv b n (k + 1) : Int) ∧ (Tv b n (k + 1) : Int) ≤ hi) ∧ k' = k + 1 ∨ (Tk b n (k + 1) = 1 ∧ lo ≤ (Tv b n (k + 1) : Int) ∧ (Tv b n (k + 1) : Int) ≤ hi) ∧ ¬ Tk b n (k + 2) = 2 ∧ k' = k + 2) : ∃ σ1, rdA lo hi j σ = some (0, σ1) ∧ Cq b n N k' σ1 ∧ ∀ m, m ≠ 12 → m ≠ 22 → σ1 m = σ m := by
  obtain ⟨x, e, r1, r2⟩ := e_nxt hb h hk
  rcases hg with ⟨hg, rfl⟩ | ⟨hg, hs, rfl⟩
  · refine ⟨x, ?_, r1, fun m a1 a2 => r2 m a2⟩
    unfold rdA
    rw [e, bn_some, e_isNum r1 h1 h2, bp_some, b2_f hg, if_neg (by decide)]
  · obtain ⟨y, e2, s1, s2⟩ := e_nxt hb (r1.set (m := 12) j (x 22 8) (by omega)) (by omega)
    have e3 := e_take0 (K := 2) s1 (by omega) hs
    refine ⟨y, ?_, s1, fun m a1 a2 => by rw [s2 m a2, sU_ne a1, r2 m a2]⟩
    unfold rdA
    rw [show ((2 : Nat) : Int) = 2 from rfl] at e3
    rw [e, bn_some, e_isNum r1 h1 h2, bp_some, b2_t hg, if_pos (by decide), e2, bn_some, e3, bn_some, if_pos (by decide)]
def OutY (b : Nat → Int) (n N k F : Nat) (d : cC) (it : Int) (σ1 : sM) : Prop := ∃ d' k', Cq b n N k' σ1 ∧ OkC d' ∧ RelY d' σ1 ∧ k + 2 ≤ k' ∧ ∀ τ, Rf b n k τ → RelN d τ → ∃ r x, X9_item F τ (mpK (Tk b n k) : Int) it = some (r, x) ∧ fD τ x ∧ Rf b n k' x ∧ RelN d' x
def OutN (b : Nat → Int) (n N k F : Nat) (d : cC) (it : Int) (σ1 : sM) : Prop := ∃ k', Cq b n N k' σ1 ∧ ∀ τ, Rf b n k τ → RelN d τ → ∃ r x, X9_item F τ (mpK (Tk b n k) : Int) it = some (r, x) ∧ fD τ x ∧ x 55 16 = (pP b n k' : Int)
def Out (b : Nat → Int) (n N k F : Nat) (d : cC) (it : Int) (σ : sM) (X : Option (Int × sM)) : Prop := ∃ σ1, fCq σ σ1 ∧ (X = some (1, σ1) ∧ OutY b n N k F d it σ1 ∨ X = some (0, σ1) ∧ OutN b n N k F d it σ1)
/-- refused at once -/
theorem out_no {b : Nat → Int} {n N k F : Nat} {d : cC} {it : Int} {σ : sM} (hb : Bt b n) (h : Cq b n N k σ) (hi : ∀ τ, Rf b n k τ → RelN d τ → X9_item F τ (mpK (Tk b n k) : Int) it = itA F τ (mpK (Tk b n k) : Int) 0) : Out b n N k F d it σ (some (0, σ)) := by
  refine ⟨σ, fun _ _ => rfl, Or.inr ⟨rfl, k, h, fun τ hR hN => ?_⟩⟩
  obtain ⟨x, e, r1, r2⟩ := itA0 (F := F) hb hR (mpK (Tk b n k) : Int)
  exact ⟨0, x, by rw [hi τ hR hN, e], r2.dD, r1⟩
theorem i_weeks {b : Nat → Int} {n N k F : Nat} {d : cC} {σ : sM} (hF : 500 ≤ F) (hb : Bt b n) (hc : OkC d) (h : Cq b n N k σ) (hy : RelY d σ) (hk : Tk b n k = 4) {it : Nat} (hit : it < 1000) : Out b n N k F d (it : Int) σ (X4_readItem F σ (if ¬ wi (it : Int) = 0 then 0 else 1)) := by
  rw [wiN (by omega)]
  have hT := h.2.2.2.1
  rw [hk] at hT
  have hI : ∀ τ, X9_item F τ (mpK (Tk b n k) : Int) (it : Int) = if ¬ wi (it : Int) = 0 then itA F τ 1 0 else itA F τ 1 1 := fun τ => by
    rw [hk]; unfold X9_item; rw [jn_def, show ((mpK 4 : Nat) : Int) = 1 from rfl, if_neg (show ¬ ¬ wi 1 = 1 by decide)]; rfl
  by_cases q : it = 0
  · subst q
    rw [if_neg (by decide)]
    unfold X4_readItem
    rw [hT, if_pos (by decide), if_neg (by decide)]
    have hI2 : ∀ τ, X9_item F τ (mpK (Tk b n k) : Int) ((0 : Nat) : Int) = itA F τ 1 1 := fun τ => by rw [hI τ, if_neg (by decide)]
    by_cases g1 : (Tk b n (k + 1) = 1 ∧ 1 ≤ (Tv b n (k + 1) : Int) ∧ (Tv b n (k + 1) : Int) ≤ 8) ∧ Tk b n (k + 2) = 2
    · obtain ⟨σ1, e, r1, r2, r3, r4⟩ := rdA_Y (j := 7) hb h (by omega) (by decide) (by decide) g1.1 g1.2
      rw [show X4_readWeeks σ = rdA 1 8 7 σ from rfl, e, bn_some, if_neg (by decide)]
      refine ⟨σ1, fun m hm => r2 m (by omega) (by omega), Or.inl ⟨rfl, dU d 0 2 (Tv b n (k + 1)), k + 3, r1, ?_, ?_, by omega, fun τ hR hN => ?_⟩⟩
      · obtain ⟨c1, c2, c3, c4, c5, c6, c7, c8, c9⟩ := hc
        refine ⟨c1, c2, ?_, c4, c5, c6, c7, c8, fun i x => ?_⟩
        · have := g1.1.2
          show 1 ≤ Tv b n (k + 1) ∧ Tv b n (k + 1) ≤ 8
          omega
        · show dU d 0 2 (Tv b n (k + 1)) (5 + i) x ≤ 99 ∧ (4 ≤ x → dU d 0 2 (Tv b n (k + 1)) (5 + i) x ≤ 10)
          rw [dU_ne (by omega)]; exact c9 i x
      · obtain ⟨y1, y2, y3, y4, y5, y6, y7, y8⟩ := hy
        have c1 : d 0 0 ≤ 4 := hc.1
        refine ⟨?_, ?_, ?_, ?_, fun w hw => ?_, fun w hw => ?_, fun t ht => ?_, fun i hi x hx => ?_⟩
        · rw [r3 5 (by omega)]; exact y1
        · rw [r3 6 (by omega)]; exact y2
        · rw [r4]; exact congrArg Int.ofNat dU_v.symm
        · rw [r3 8 (by omega)]; exact y4
        · rw [r2 19 (by omega) (by omega)]; exact y5 w hw
        · rw [r2 18 (by omega) (by omega)]; exact y6 w hw
        · rw [r2 20 (by omega) (by omega), r2 21 (by omega) (by omega)]; exact y7 t ht
        · rw [dU_ne (by omega)]
          have hi' : i < d 0 0 := hi
          rw [r2 (14 + i) (by omega) (by omega)]; exact y8 i hi x hx
      · obtain ⟨x, f1, f2, f3⟩ := itA1 hF hb hR 1
        obtain ⟨z, z1, z2, z3, z4, z5⟩ := nzY hF hb (Or.inl rfl) f2 (by decide) (by decide) g1.1 g1.2
        refine ⟨0, z, by rw [hI2, f1, itB_1, z1], f3.dD.trans z2, z3, ?_⟩
        have zz5 : ∀ i, i ≠ 55 → i ≠ 59 → z i = τ i := fun i a1 a2 => by rw [z5 i a1 a2, f3.1 i a1]
        obtain ⟨y1, y2, y3, y4, y5, y6, y7⟩ := hN
        refine ⟨?_, ?_, ?_, ?_, fun w hw => ?_, fun t ht => ?_, fun i hi x hx => ?_⟩
        · rw [zz5 57 (by omega) (by omega)]; exact y1
        · rw [zz5 58 (by omega) (by omega)]; exact y2
        · rw [z4]; exact congrArg Int.ofNat dU_v.symm
        · rw [zz5 60 (by omega) (by omega)]; exact y4
        · rw [zz5 62 (by omega) (by omega), zz5 63 (by omega) (by omega)]; exact y5 w hw
        · rw [zz5 64 (by omega) (by omega), zz5 65 (by omega) (by omega)]; exact y6 t ht
        · rw [dU_ne (by omega), zz5 61 (by omega) (by omega)]; exact y7 i hi x hx
    · have hg : ∃ k', ¬ (Tk b n (k + 1) = 1 ∧ 1 ≤ (Tv b n (k + 1) : Int) ∧ (Tv b n (k + 1) : Int) ≤ 8) ∧ k' = k + 1 ∨ (Tk b n (k + 1) = 1 ∧ 1 ≤ (Tv b n (k + 1) : Int) ∧ (Tv b n (k + 1) : Int) ≤ 8) ∧ ¬ Tk b n (k + 2) = 2 ∧ k' = k + 2 := by
        by_cases g2 : Tk b n (k + 1) = 1 ∧ 1 ≤ (Tv b n (k + 1) : Int) ∧ (Tv b n (k + 1) : Int) ≤ 8
        · exact ⟨k + 2, Or.inr ⟨g2, fun z => g1 ⟨g2, z⟩, rfl⟩⟩
        · exact ⟨k + 1, Or.inl ⟨g2, rfl⟩⟩
      obtain ⟨k', hg⟩ := hg
      obtain ⟨σ1, e, r1, r2⟩ := rdA_N (j := 7) hb h (by omega) (by decide) (by decide) hg
      rw [show X4_readWeeks σ = rdA 1 8 7 σ from rfl, e, bn_some, if_pos (by decide)]
      refine ⟨σ1, fun m hm => r2 m (by omega) (by omega), Or.inr ⟨rfl, k', r1, fun τ hR hN => ?_⟩⟩
      obtain ⟨x, f1, f2, f3⟩ := itA1 hF hb hR 1
      obtain ⟨z, z1, z2, z3⟩ := nzN (m := 59) hF hb (Or.inl rfl) f2 (by decide) (by decide) hg
      exact ⟨0, z, by rw [hI2, f1, itB_1, z1], f3.dD.trans z2, z3⟩
  · rw [if_pos (by omega)]
    have e : X4_readItem F σ 0 = some (0, σ) := by
      unfold X4_readItem
      rw [hT, if_pos (by decide), if_pos (by decide)]
    rw [e]
    refine out_no hb h (fun τ hR hN => ?_)
    rw [hI τ, if_pos (by rw [wiN (by omega)]; omega), hk]; rfl
