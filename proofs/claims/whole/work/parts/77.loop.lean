theorem itB_2 (F : Nat) (x : sM) : itB F 2 x = bn (X9_readSort F x) (fun r48 σ50 => zz F σ50) := by
  unfold itB; rw [jn_def, if_pos (show ¬ wi 2 = 1 by decide), if_neg (show ¬ ¬ wi 2 = 2 by decide)]; rfl
def dS (b : Nat → Int) (n k : Nat) (d : cC) : cC := fun m x => if m = 0 ∧ x = 0 then d 0 0 + 1 else if m = 5 + d 0 0 then (if x < 14 then Tv b n (k + 1 + ps x) else 0) else d m x
theorem dS_ne {b : Nat → Int} {n k : Nat} {d : cC} {m x : Nat} (h : m ≠ 0 ∨ x ≠ 0) (h2 : m ≠ 5 + d 0 0) : dS b n k d m x = d m x := by unfold dS; rw [if_neg (by omega), if_neg h2]
theorem dS_v {b : Nat → Int} {n k : Nat} {d : cC} {x : Nat} (h : x < 14) : dS b n k d (5 + d 0 0) x = Tv b n (k + 1 + ps x) := by unfold dS; rw [if_neg (by omega), if_pos rfl, if_pos h]
theorem dS_0 {b : Nat → Int} {n k : Nat} {d : cC} : dS b n k d 0 0 = d 0 0 + 1 := by unfold dS; rw [if_pos ⟨rfl, rfl⟩]
theorem i_sort {b : Nat → Int} {n N k F : Nat} {d : cC} {σ : sM} (hF : 500 ≤ F) (hb : Bt b n) (hc : OkC d) (h : Cq b n N k σ) (hy : RelY d σ) (hk : Tk b n k = 5) (it a : Int) : Out b n N k F d it σ (X4_readItem F σ a) := by
  have hT := h.2.2.2.1
  rw [hk] at hT
  have c1 : d 0 0 ≤ 4 := hc.1
  have hI : ∀ τ, τ 57 1 = (d 0 0 : Int) → X9_item F τ (mpK (Tk b n k) : Int) it = if 4 ≤ d 0 0 then itA F τ 2 0 else itA F τ 2 1 := fun τ hW => by
    rw [hk]; unfold X9_item; rw [jn_def, show ((mpK 5 : Nat) : Int) = 2 from rfl, if_pos (show ¬ wi 2 = 1 by decide), if_neg (show ¬ ¬ wi 2 = 2 by decide), hW, wiN (by omega)]
    by_cases q : 4 ≤ d 0 0
    · rw [if_pos q, if_pos (by omega)]; rfl
    · rw [if_neg q, if_neg (by omega)]; rfl
  unfold X4_readItem
  rw [hT, if_neg (by decide), if_pos (by decide), hy.1, wiN (by omega)]
  by_cases q : 4 ≤ d 0 0
  · rw [if_pos (by omega)]
    refine out_no hb h (fun τ hR hN => ?_)
    rw [hI τ hN.1, if_pos q, hk]; rfl
  rw [if_neg (by omega)]
  have hI2 : ∀ τ, τ 57 1 = (d 0 0 : Int) → X9_item F τ (mpK (Tk b n k) : Int) it = itA F τ 2 1 := fun τ hW => by rw [hI τ hW, if_neg q]
  rcases e_readSort hF (show d 0 0 < 4 by omega) hb h hk hy.1 with ⟨y, e, P⟩ | ⟨y, e, f, hf, P1, P2, P3, P4⟩
  · rw [e, bn_some, if_neg (by decide)]
    obtain ⟨P1, P2, P3, P4⟩ := P
    have tv : ∀ x, x < 14 → Tv b n (k + 1 + ps x) ≤ 99 ∧ (4 ≤ x → Tv b n (k + 1 + ps x) ≤ 10) := fun x hx => by
      obtain ⟨-, -, -, -, p5, p6, -, p8⟩ := ps_ne x hx
      have g := (P4 (ps x) (by omega)).2 p5
      rw [p6] at g
      by_cases w : 4 ≤ x
      · rw [if_pos w] at g; omega
      · rw [if_neg w] at g; omega
    refine ⟨sU y 12 5 ((d 0 0 + 1 : Nat) : Int), fun m hm => by rw [sU_ne (by omega)]; exact P2 m (by omega) (by omega), Or.inl ⟨rfl, dS b n k d, k + 19, P1.set 5 _ (by omega), ?_, ?_, by omega, fun τ hR hN => ?_⟩⟩
    · obtain ⟨-, c2, c3, c4, c5, c6, c7, c8, c9⟩ := hc
      have n1 : ∀ m x, m < 5 → (m ≠ 0 ∨ x ≠ 0) → dS b n k d m x = d m x := fun m x h1 h2 => dS_ne h2 (by omega)
      refine ⟨?_, ?_, ?_, ?_, fun w hw => ?_, fun w hw => ?_, fun t => ?_, fun t ht => ?_, fun i x => ?_⟩
      · show dS b n k d 0 0 ≤ 4; rw [dS_0]; omega
      · show dS b n k d 0 1 ≤ 3; rw [n1 0 1 (by omega) (by omega)]; exact c2
      · show 1 ≤ dS b n k d 0 2 ∧ dS b n k d 0 2 ≤ 8; rw [n1 0 2 (by omega) (by omega)]; exact c3
      · show 1 ≤ dS b n k d 0 3 ∧ dS b n k d 0 3 ≤ 3; rw [n1 0 3 (by omega) (by omega)]; exact c4
      · have hw' : w < dS b n k d 0 1 := hw
        rw [n1 0 1 (by omega) (by omega)] at hw'
        show dS b n k d 1 w < dS b n k d 0 0 ∧ 1 ≤ dS b n k d 2 w ∧ dS b n k d 2 w ≤ 3
        rw [n1 1 w (by omega) (by omega), n1 2 w (by omega) (by omega), dS_0]
        have z : d 1 w < d 0 0 ∧ 1 ≤ d 2 w ∧ d 2 w ≤ 3 := c5 w hw'
        omega
      · have hw' : dS b n k d 0 1 ≤ w := hw
        rw [n1 0 1 (by omega) (by omega)] at hw'
        show dS b n k d 2 w = 0
        rw [n1 2 w (by omega) (by omega)]; exact c6 w hw'
      · show dS b n k d 3 t ≤ 5 ∧ dS b n k d 4 t ≤ 99
        rw [n1 3 t (by omega) (by omega), n1 4 t (by omega) (by omega)]; exact c7 t
      · show dS b n k d 3 t = 0 ∧ dS b n k d 4 t = 0
        rw [n1 3 t (by omega) (by omega), n1 4 t (by omega) (by omega)]; exact c8 t ht
      · show dS b n k d (5 + i) x ≤ 99 ∧ (4 ≤ x → dS b n k d (5 + i) x ≤ 10)
        by_cases w : i = d 0 0
        · subst w
          by_cases w2 : x < 14
          · rw [dS_v w2]; exact tv x w2
          · unfold dS; rw [if_neg (by omega), if_pos rfl, if_neg w2]; omega
        · rw [dS_ne (by omega) (by omega)]; exact c9 i x
    · obtain ⟨y1, y2, y3, y4, y5, y6, y7, y8⟩ := hy
      have n1 : ∀ m x, m < 5 → (m ≠ 0 ∨ x ≠ 0) → dS b n k d m x = d m x := fun m x h1 h2 => dS_ne h2 (by omega)
      refine ⟨?_, ?_, ?_, ?_, fun w hw => ?_, fun w hw => ?_, fun t ht => ?_, fun i hi x hx => ?_⟩
      · rw [sUv, dS_0]
      · rw [sUnj (by omega), P2 12 (by omega) (by omega), n1 0 1 (by omega) (by omega)]; exact y2
      · rw [sUnj (by omega), P2 12 (by omega) (by omega), n1 0 2 (by omega) (by omega)]; exact y3
      · rw [sUnj (by omega), P2 12 (by omega) (by omega), n1 0 3 (by omega) (by omega)]; exact y4
      · rw [sU_ne (by omega), P2 19 (by omega) (by omega), n1 2 w (by omega) (by omega)]; exact y5 w hw
      · rw [n1 0 1 (by omega) (by omega)] at hw
        rw [sU_ne (by omega), P2 18 (by omega) (by omega), n1 1 w (by omega) (by omega)]; exact y6 w hw
      · rw [sU_ne (by omega), sU_ne (by omega), P2 20 (by omega) (by omega), P2 21 (by omega) (by omega), n1 3 t (by omega) (by omega), n1 4 t (by omega) (by omega)]; exact y7 t ht
      · rw [dS_0] at hi
        rw [sU_ne (by omega)]
        by_cases w : i = d 0 0
        · subst w; rw [dS_v hx]
          exact P3 x hx (by have := ps_ne x hx; omega)
        · rw [dS_ne (by omega) (by omega), P2 (14 + i) (by omega) (by omega)]; exact y8 i (by omega) x hx
    · obtain ⟨x, f1, f2, f3⟩ := itA1 hF hb hR 2
      obtain ⟨y1, y2, y3, y4, y5, y6, y7⟩ := hN
      obtain ⟨z, z1, z2, z3, z4⟩ := f_readSort (f := 18) hF hb (show d 0 0 < 4 by omega) (by rw [f3.1 57 (by omega)]; exact y1) (fun i hi _ => P4 i (by omega)) (fun w => absurd w (by omega)) f2
      have hz : Rf b n (k + 1 + 17) z := by
        rcases z2 with ⟨-, w⟩ | ⟨w, -⟩
        · exact w
        · exact absurd w (by omega)
      obtain ⟨u, u1, u2, u3⟩ := zzY hF hb (hz.set (m := 57) 1 ((d 0 0 + 1 : Nat) : Int) (by omega)) (P4 17 (by omega)).1
      have z5 := z4 (by omega)
      have n1 : ∀ m x, m < 5 → (m ≠ 0 ∨ x ≠ 0) → dS b n k d m x = d m x := fun m x h1 h2 => dS_ne h2 (by omega)
      have v1 : ∀ i, i ≠ 55 → i ≠ 57 → i ≠ 61 → u i = τ i := fun i a1 a2 a3 => by rw [u3.1 i a1, sU_ne a2, z3.1 i a1 a3, f3.1 i a1]
      refine ⟨0, u, by rw [hI2 τ y1, f1, itB_2, z1, bn_some, u1], (f3.dD.trans (z3.dD.set _ (by omega))).trans u3.dD, u2, ?_⟩
      refine ⟨?_, ?_, ?_, ?_, fun w hw => ?_, fun t ht => ?_, fun i hi x hx => ?_⟩
      · rw [u3.1 57 (by omega), sUv, dS_0]
      · rw [v1 58 (by omega) (by omega) (by omega), n1 0 1 (by omega) (by omega)]; exact y2
      · rw [v1 59 (by omega) (by omega) (by omega), n1 0 2 (by omega) (by omega)]; exact y3
      · rw [v1 60 (by omega) (by omega) (by omega), n1 0 3 (by omega) (by omega)]; exact y4
      · rw [n1 0 1 (by omega) (by omega)] at hw
        rw [v1 62 (by omega) (by omega) (by omega), v1 63 (by omega) (by omega) (by omega), n1 1 w (by omega) (by omega), n1 2 w (by omega) (by omega)]; exact y5 w hw
      · rw [v1 64 (by omega) (by omega) (by omega), v1 65 (by omega) (by omega) (by omega), n1 3 t (by omega) (by omega), n1 4 t (by omega) (by omega)]; exact y6 t ht
      · rw [dS_0] at hi
        rw [u3.1 61 (by omega), sU_ne (by omega)]
        by_cases w : i = d 0 0
        · subst w; rw [dS_v hx]; exact z5 x hx
        · rw [dS_ne (by omega) (by omega), z3.2.2 _ (by omega), f3.1 61 (by omega)]; exact y7 i (by omega) x hx
  · rw [e, bn_some, if_pos (by decide)]
    refine ⟨y, fun m hm => P2 m (by omega) (by omega), Or.inr ⟨rfl, k + 1 + f, P1, fun τ hR hN => ?_⟩⟩
    obtain ⟨x, f1, f2, f3⟩ := itA1 hF hb hR 2
    obtain ⟨z, z1, z2, z3, z4⟩ := f_readSort (f := f) hF hb (show d 0 0 < 4 by omega) (by rw [f3.1 57 (by omega)]; exact hN.1) (fun i hi h2 => P3 i h2) (fun _ => P4) f2
    rcases z2 with ⟨w1, w2⟩ | ⟨w1, w2⟩
    · have e17 : f = 17 := by omega
      subst e17
      obtain ⟨u, u1, u2, u3⟩ := zzN (F := F) (w2.set (m := 57) 1 ((d 0 0 + 1 : Nat) : Int) (by omega)) (fun w => P4 ⟨w, fun w' => absurd w' (by decide)⟩)
      exact ⟨0, u, by rw [hI2 τ hN.1, f1, itB_2, z1, bn_some, u1], (f3.dD.trans (z3.dD.set _ (by omega))).trans u3.dD, u2⟩
    · have w3 : (sU z 57 1 ((d 0 0 + 1 : Nat) : Int)) 55 16 = (pP b n (k + 1 + f) : Int) := by rw [sU_ne (by omega)]; exact w2
      exact ⟨0, _, by rw [hI2 τ hN.1, f1, itB_2, z1, bn_some, zzF hb w3], f3.dD.trans (z3.dD.set _ (by omega)), w3⟩
theorem i_oth {b : Nat → Int} {n N k F : Nat} {d : cC} {σ : sM} (hb : Bt b n) (h : Cq b n N k σ) (hk : Tk b n k = 1 ∨ Tk b n k = 2 ∨ Tk b n k = 3 ∨ Tk b n k = 6 ∨ Tk b n k = 7 ∨ Tk b n k = 8) (it a : Int) : Out b n N k F d it σ (X4_readItem F σ a) := by
  have hT := h.2.2.2.1
  have e : X4_readItem F σ a = some (0, σ) := by
    unfold X4_readItem
    rw [hT]
    rcases hk with hk | hk | hk | hk | hk | hk <;> rw [hk]
    · rw [if_neg (by decide), if_neg (by decide), if_neg (by decide), if_neg (by decide), if_neg (by decide), if_neg (by decide), if_neg (by decide), if_neg (by decide), if_neg (by decide)]
    · rw [if_neg (by decide), if_neg (by decide), if_neg (by decide), if_neg (by decide), if_neg (by decide), if_neg (by decide), if_neg (by decide), if_neg (by decide), if_neg (by decide)]
    · rw [if_neg (by decide), if_neg (by decide), if_neg (by decide), if_neg (by decide), if_neg (by decide), if_neg (by decide), if_neg (by decide), if_neg (by decide), if_neg (by decide)]
    · rw [if_neg (by decide), if_neg (by decide), if_pos (by decide)]
    · rw [if_neg (by decide), if_neg (by decide), if_neg (by decide), if_pos (by decide)]
    · rw [if_neg (by decide), if_neg (by decide), if_neg (by decide), if_neg (by decide), if_pos (by decide)]
  rw [e]
  refine out_no hb h (fun τ hR hN => ?_)
  have gate : ∀ v : Int, wi v ≠ 1 → wi v ≠ 2 → wi v ≠ 6 → wi v ≠ 7 → wi v ≠ 8 → wi v ≠ 9 → X9_item F τ v it = itA F τ v 0 := by
    intro v h1 h2 h3 h4 h5 h6
    unfold X9_item
    rw [jn_def, if_pos h1, if_pos h2, if_pos h3, jn_def, if_neg h4, if_neg h5, if_pos h6]
    rfl
  rcases hk with hk | hk | hk | hk | hk | hk <;> rw [hk] <;> exact gate _ (by decide) (by decide) (by decide) (by decide) (by decide) (by decide)
theorem i_any {b : Nat → Int} {n N k F : Nat} {d : cC} {σ : sM} (hF : 500 ≤ F) (hb : Bt b n) (hc : OkC d) (h : Cq b n N k σ) (hy : RelY d σ) (hk : Tk b n k ≠ 0) {it : Nat} (hit : it < 1000) : Out b n N k F d (it : Int) σ (X4_readItem F σ (if ¬ wi (it : Int) = 0 then 0 else 1)) := by
  have := Tk_le b n k
  rcases (show Tk b n k = 4 ∨ Tk b n k = 5 ∨ Tk b n k = 9 ∨ Tk b n k = 10 ∨ Tk b n k = 11 ∨ Tk b n k = 12 ∨ (Tk b n k = 1 ∨ Tk b n k = 2 ∨ Tk b n k = 3 ∨ Tk b n k = 6 ∨ Tk b n k = 7 ∨ Tk b n k = 8) by omega) with q | q | q | q | q | q | q
  · exact i_weeks hF hb hc h hy q hit
  · exact i_sort hF hb hc h hy q _ _
  · exact i_wheel hF hb hc h hy q _ _
  · exact i_open hF hb hc h hy q _ _
  · exact i_warm hF hb hc h hy q _ _
  · exact i_price hF hb hc h hy q _ _
  · exact i_oth hb h q _ _
/-- the class's loop over items -/
def clA (F : Nat) (K13 : sM × Int → Option (Int × sM)) (q12 : sM × Int) : Option (Int × sM) := jn (fun q14 : sM => if 0 ≤ wi (q14 22 6) ∧ wi (q14 22 6) < 401 then some ((-10) - (q14 25 (wi (q14 22 6)).toNat), q14) else none) (fun K15 => if 400 ≤ wi q12.2 then K15 q12.1 else if ¬ wi (q12.1 22 7) = 0 then jn (fun q19 : Int => bn (X4_readItem F q12.1 q19) (fun r21 σ23 => if ¬ wi r21 = 0 then K13 (σ23, q12.2 + 1) else K15 σ23)) (fun K20 => if ¬ wi q12.2 = 0 then K20 0 else K20 1) else some (q12.2, q12.1))
theorem clA_i {F it : Nat} {b : Nat → Int} {n N k : Nat} {σ : sM} (K : sM × Int → Option (Int × sM)) (hi : it < 400) (h : Cq b n N k σ) (hk : Tk b n k ≠ 0) : clA F K (σ, (it : Int)) = bn (X4_readItem F σ (if ¬ wi (it : Int) = 0 then 0 else 1)) (fun r21 σ23 => if ¬ wi r21 = 0 then K (σ23, (it : Int) + 1) else if 0 ≤ wi (σ23 22 6) ∧ wi (σ23 22 6) < 401 then some ((-10) - (σ23 25 (wi (σ23 22 6)).toNat), σ23) else none) := by
  have := Tk_le b n k
  unfold clA
  simp only []
  rw [jn_def, if_neg (show ¬ 400 ≤ wi (it : Int) by rw [wiN (by omega)]; omega), h.2.2.2.1, if_pos (by rw [wiN (by omega)]; omega), jn_def]
  by_cases q : ¬ wi (it : Int) = 0
  · rw [if_pos q, if_pos q]
  · rw [if_neg q, if_neg q]
theorem clA_e {F it : Nat} {b : Nat → Int} {n N k : Nat} {σ : sM} (K : sM × Int → Option (Int × sM)) (hi : it < 400) (h : Cq b n N k σ) (hk : Tk b n k = 0) : clA F K (σ, (it : Int)) = some ((it : Int), σ) := by
  unfold clA
  simp only []
  rw [jn_def, if_neg (show ¬ 400 ≤ wi (it : Int) by rw [wiN (by omega)]; omega), h.2.2.2.1, hk, if_neg (by decide)]
theorem loopJ {F : Nat} {b : Nat → Int} {n N : Nat} (hF : 500 ≤ F) (hb : Bt b n) {B : (sM × Int → Option (Int × sM)) → sM × Int → Option (Int × sM)} (hB : ∀ K k τ it, Rf b n k τ → Tk b n k ≠ 0 → B K (τ, it) = bn (X9_item F τ (τ 55 14) it) (fun r45 σ47 => K (σ47, it + 1))) : ∀ M k it d σ, N - k = M → 2 * it ≤ k → Cq b n N k σ → OkC d → RelY d σ →
    (∃ (σ1 : sM) (d' : cC) (it' : Nat), (∀ F1, N - k < F1 → lp (clA F) F1 (σ, (it : Int)) = some ((it' : Int), σ1)) ∧ it' ≤ 400 ∧ fCq σ σ1 ∧ OkC d' ∧ RelY d' σ1 ∧ ∀ τ, Rf b n k τ → RelN d τ → ∃ τ', fD τ τ' ∧ τ' 55 16 = -9 ∧ τ' 55 14 = 0 ∧ RelN d' τ' ∧ ∀ F2, N - k < F2 → ∃ K, lp B F2 (τ, (it : Int)) = B K (τ', ((it' : Nat) : Int))) ∨
    ∃ (σ1 : sM) (k' : Nat), (∀ F1, N - k < F1 → lp (clA F) F1 (σ, (it : Int)) = some ((-10) - (pP b n k' : Int), σ1)) ∧ fCq σ σ1 ∧ ∀ τ, Rf b n k τ → RelN d τ → ∃ (τ' : sM) (it' : Int), fD τ τ' ∧ τ' 55 16 = (pP b n k' : Int) ∧ ∀ F2, N - k < F2 → ∃ K, lp B F2 (τ, (it : Int)) = B K (τ', it') := by
  intro M
  induction M using Nat.strongRecOn with
  | _ M ih =>
    intro k it d σ hM hik h hc hy
    have hkN := h.2.1
    have hN := h.1.1
    have hn := hb.1
    by_cases q : Tk b n k = 0
    · left
      refine ⟨σ, d, it, fun F1 hF1 => ?_, by omega, fun _ _ => rfl, hc, hy, fun τ hR hD => ⟨τ, fD.refl τ, hR.2.1, ?_, hD, fun F2 hF2 => ?_⟩⟩
      · obtain ⟨F1, rfl⟩ : ∃ f, F1 = f + 1 := ⟨F1 - 1, by omega⟩
        rw [lp_succ]
        by_cases q2 : it < 400
        · exact clA_e _ q2 h q
        · exact absurd (show it < 400 by omega) q2
      · rw [hR.knd, q]; rfl
      · obtain ⟨F2, rfl⟩ : ∃ f, F2 = f + 1 := ⟨F2 - 1, by omega⟩
        exact ⟨_, lp_succ _ _ _⟩
    · have hlt := h.lt q
      obtain ⟨σ1, f1, hO⟩ := i_any (it := it) hF hb hc h hy q (by omega)
      rcases hO with ⟨e, d', k', g1, g2, g3, g4, g5⟩ | ⟨e, k', g1, g5⟩
      · have hk' := g1.2.1
        rcases ih (N - k') (by omega) k' (it + 1) d' σ1 rfl (by omega) g1 g2 g3 with ⟨σ2, d2, it2, a1, a2, a3, a4, a5, a6⟩ | ⟨σ2, k2, a1, a3, a6⟩
        · left
          refine ⟨σ2, d2, it2, fun F1 hF1 => ?_, a2, fun m hm => by rw [a3 m hm, f1 m hm], a4, a5, fun τ hR hD => ?_⟩
          · obtain ⟨F1, rfl⟩ : ∃ f, F1 = f + 1 := ⟨F1 - 1, by omega⟩
            rw [lp_succ, clA_i _ (by omega) h q, e, bn_some, if_pos (by decide)]
            exact a1 F1 (by omega)
          · obtain ⟨r, x, b1, b2', b3, b4⟩ := g5 τ hR hD
            obtain ⟨τ', t1, t2, t3, t4, t5⟩ := a6 x b3 b4
            refine ⟨τ', b2'.trans t1, t2, t3, t4, fun F2 hF2 => ?_⟩
            obtain ⟨F2, rfl⟩ : ∃ f, F2 = f + 1 := ⟨F2 - 1, by omega⟩
            rw [lp_succ, hB _ k τ _ hR q, hR.knd, b1, bn_some]
            exact t5 F2 (by omega)
        · right
          refine ⟨σ2, k2, fun F1 hF1 => ?_, fun m hm => by rw [a3 m hm, f1 m hm], fun τ hR hD => ?_⟩
          · obtain ⟨F1, rfl⟩ : ∃ f, F1 = f + 1 := ⟨F1 - 1, by omega⟩
            rw [lp_succ, clA_i _ (by omega) h q, e, bn_some, if_pos (by decide)]
            exact a1 F1 (by omega)
          · obtain ⟨r, x, b1, b2', b3, b4⟩ := g5 τ hR hD
            obtain ⟨τ', it', t1, t2, t5⟩ := a6 x b3 b4
            refine ⟨τ', it', b2'.trans t1, t2, fun F2 hF2 => ?_⟩
            obtain ⟨F2, rfl⟩ : ∃ f, F2 = f + 1 := ⟨F2 - 1, by omega⟩
            rw [lp_succ, hB _ k τ _ hR q, hR.knd, b1, bn_some]
            exact t5 F2 (by omega)
      · right
        have hk' := g1.2.1
        refine ⟨σ1, k', fun F1 hF1 => ?_, f1, fun τ hR hD => ?_⟩
        · obtain ⟨F1, rfl⟩ : ∃ f, F1 = f + 1 := ⟨F1 - 1, by omega⟩
          rw [lp_succ, clA_i _ (by omega) h q, e, bn_some, if_neg (by decide), g1.2.2.1, wiN (by omega), if_pos (by omega), Int.toNat_natCast, g1.1.plc hk']
        · obtain ⟨r, x, b1, b2', b3⟩ := g5 τ hR hD
          refine ⟨x, (it : Int) + 1, b2', b3, fun F2 hF2 => ?_⟩
          obtain ⟨F2, rfl⟩ : ∃ f, F2 = f + 2 := ⟨F2 - 2, by omega⟩
          rw [lp_succ, hB _ k τ _ hR q, hR.knd, b1, bn_some]
          exact ⟨_, lp_succ _ _ _⟩
