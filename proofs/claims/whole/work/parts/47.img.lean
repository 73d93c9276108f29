theorem e_like {o o' t a s p : Nat} {g k l : Int} {σ : sM} (ho : o ≠ o') (ha : a < 2) (h : WX o' t a s p g k l σ) : ∃ σ1, X7_becomeLike o o' σ = some (0, σ1) ∧ (∀ m, m ≠ o → σ1 m = σ m) ∧ WX o t a s p g k l σ1 ∧ ∀ j, 7 ≤ j → σ1 o j = σ o j := by
  obtain ⟨w1, w2, w3, w4, w5, w6, w7⟩ := h
  have ho' : o' ≠ o := fun h => ho h.symm
  unfold X7_becomeLike
  simp only [nm_def, sU_ne ho', w1, w2, w3, w4, w5, w6, w7]
  rw [if_pos (by rw [wiN (by omega)]; omega)]
  refine ⟨_, rfl, fun m hm => ?_, ⟨?_, ?_, ?_, ?_, ?_, ?_, ?_⟩, fun j hj => ?_⟩
  · rw [sU_ne hm, sU_ne hm, sU_ne hm, sU_ne hm, sU_ne hm, sU_ne hm, sU_ne hm]
  · rw [sUnj (by omega), sUnj (by omega), sUnj (by omega), sUnj (by omega), sUnj (by omega), sUnj (by omega), sUv]
  · rw [sUnj (by omega), sUnj (by omega), sUnj (by omega), sUnj (by omega), sUnj (by omega), sUv]
  · rw [sUnj (by omega), sUnj (by omega), sUnj (by omega), sUnj (by omega), sUv]
  · rw [sUnj (by omega), sUnj (by omega), sUnj (by omega), sUv]
  · rw [sUnj (by omega), sUnj (by omega), sUv]
  · rw [sUnj (by omega), sUv]
  · rw [sUv]
  · rw [sUnj (by omega), sUnj (by omega), sUnj (by omega), sUnj (by omega), sUnj (by omega), sUnj (by omega), sUnj (by omega)]
/-- what a copy to place i may change -/
def fC (i : Nat) (σ σ' : sM) : Prop := ∀ k j, (k < 66 ∨ 73 < k ∨ (k ≤ 70 ∧ j ≠ i) ∨ (71 ≤ k ∧ (j < 3 * i ∨ 3 * i + 3 ≤ j))) → σ' k j = σ k j
theorem f_copy {c : cC} {i i' t a s p F : Nat} {g k l : Int} {σ : sM} (hc : OkC c) (hi : i < 3) (hi' : i' < 3) (hne : i ≠ i') (ha : a < 2) (h : WM c i t a s p g k l σ) (hF : 10 ≤ F) : ∃ σ2, X9_copy F σ (i : Int) (i' : Int) = some (0, σ2) ∧ fC i' σ σ2 ∧ WM c i' t a s p g k l σ2 := by
  have c3 := hc.2.1
  obtain ⟨w1, w2, w3, w4, w5, w6⟩ := h
  have qa : q_z (a : Int) = (a : Int) := by
    rcases (show a = 0 ∨ a = 1 by omega) with rfl | rfl
    · exact q_z01.1
    · exact q_z01.2
  unfold X9_copy
  simp only [nm_def]
  rw [wiN (n := i) (by omega), wiN (n := i') (by omega)]
  simp only [if_pos (show 0 ≤ (i : Int) ∧ (i : Int) < 3 by omega), if_pos (show 0 ≤ (i' : Int) ∧ (i' : Int) < 3 by omega), Int.toNat_natCast]
  simp (disch := omega) only [sU_ne, w1, w2, w3, w4, w5, qa]
  refine lp_inv (fun w (x : sM × Int) => x.2 = (w : Int) ∧ fC i' σ x.1 ∧ x.1 66 i' = (t : Int) ∧ x.1 67 i' = (a : Int) ∧ x.1 68 i' = g ∧ x.1 69 i' = k ∧ x.1 70 i' = l ∧ ∀ v, v < w → v < cW c → x.1 71 (3 * i' + v) = (sp s v : Int) ∧ x.1 72 (3 * i' + v) = (po s v : Int) ∧ x.1 73 (3 * i' + v) = (stp p v : Int)) 3 (fun (o : Option (Int × sM)) => ∃ σ2 : sM, o = some (0, σ2) ∧ fC i' σ σ2 ∧ WM c i' t a s p g k l σ2) (fun w x hw hI K => ?_) (fun x hI K => ?_) ⟨rfl, fun m j hm => ?_, ?_, ?_, ?_, ?_, ?_, fun v hv => absurd hv (by omega)⟩ (by omega)
  · obtain ⟨τ, u⟩ := x
    obtain ⟨hu, hf, x1, x2, x3, x4, x5, x6⟩ := hI
    simp only [] at hu hf x1 x2 x3 x4 x5 x6 ⊢
    subst hu
    rw [show (3 : Int) * (i : Int) + (w : Int) = ((3 * i + w : Nat) : Int) by omega, show (3 : Int) * (i' : Int) + (w : Int) = ((3 * i' + w : Nat) : Int) by omega]
    simp (disch := omega) only [b2_if0, b2_ifn, b2_if1, jn_def, nm_def, bp_some, bn_some, wiZ, wlZ, wiD, if_pos, if_neg, if_true, if_false, not_true_eq_false, not_false_eq_true, Int.toNat_natCast]
    refine ⟨_, ⟨?_, fun m j hm => ?_, ?_, ?_, ?_, ?_, ?_, fun v hv hv2 => ?_⟩, rfl⟩
    · simp only []; omega
    · simp only []
      by_cases y : m = 73
      · rw [y, sUnj (by omega), sU_ne (by omega), sU_ne (by omega)]; rw [y] at hm; exact hf 73 j hm
      · rw [sU_ne y]
        by_cases y2 : m = 72
        · rw [y2, sUnj (by omega), sU_ne (by omega)]; rw [y2] at hm; exact hf 72 j hm
        · rw [sU_ne y2]
          by_cases y3 : m = 71
          · rw [y3, sUnj (by omega)]; rw [y3] at hm; exact hf 71 j hm
          · rw [sU_ne y3]; exact hf m j hm
    · simp only []; rw [sU_ne (by omega), sU_ne (by omega), sU_ne (by omega)]; exact x1
    · simp only []; rw [sU_ne (by omega), sU_ne (by omega), sU_ne (by omega)]; exact x2
    · simp only []; rw [sU_ne (by omega), sU_ne (by omega), sU_ne (by omega)]; exact x3
    · simp only []; rw [sU_ne (by omega), sU_ne (by omega), sU_ne (by omega)]; exact x4
    · simp only []; rw [sU_ne (by omega), sU_ne (by omega), sU_ne (by omega)]; exact x5
    · simp only []
      by_cases y : v = w
      · subst y
        obtain ⟨z1, z2, z3⟩ := w6 v hv2
        refine ⟨?_, ?_, ?_⟩
        · rw [sU_ne (by omega), sU_ne (by omega), sUv, hf 71 _ (by omega)]; exact z1
        · rw [sU_ne (by omega), sUv, hf 72 _ (by omega)]; exact z2
        · have hst := stp_lt p v
          rw [sUv, hf 73 _ (by omega), z3]
          rcases (show stp p v = 0 ∨ stp p v = 1 by omega) with e | e
          · rw [e]; exact q_z01.1
          · rw [e]; exact q_z01.2
      · rw [sU_ne (by omega), sU_ne (by omega), sUnj (by omega), sU_ne (k' := 72) (by omega), sUnj (by omega), sU_ne (k' := 72) (by omega), sUnj (by omega), sU_ne (k' := 73) (by omega), sU_ne (k' := 73) (by omega)]
        exact x6 v (by omega) hv2
  · obtain ⟨τ, u⟩ := x
    obtain ⟨hu, hf, x1, x2, x3, x4, x5, x6⟩ := hI
    simp only [] at hu hf x1 x2 x3 x4 x5 x6 ⊢
    subst hu
    rw [if_pos (by decide)]
    exact ⟨_, rfl, hf, x1, x2, x3, x4, x5, fun v hv => x6 v (by omega) hv⟩
  · simp only []
    by_cases y : m = 70
    · rw [y, sUnj (by omega)]; simp (disch := omega) only [sU_ne]
    · rw [sU_ne y]
      by_cases y : m = 69
      · rw [y, sUnj (by omega)]; simp (disch := omega) only [sU_ne]
      · rw [sU_ne y]
        by_cases y : m = 68
        · rw [y, sUnj (by omega)]; simp (disch := omega) only [sU_ne]
        · rw [sU_ne y]
          by_cases y : m = 67
          · rw [y, sUnj (by omega)]; simp (disch := omega) only [sU_ne]
          · rw [sU_ne y]
            by_cases y : m = 66
            · rw [y, sUnj (by omega)]
            · rw [sU_ne y]
  · simp only []; simp (disch := omega) only [sU_ne, sUv]
  · simp only []; simp (disch := omega) only [sU_ne, sUv]
  · simp only []; simp (disch := omega) only [sU_ne, sUv]
  · simp only []; simp (disch := omega) only [sU_ne, sUv]
  · simp only []; simp (disch := omega) only [sU_ne, sUv]
theorem s_keep {c : cC} {j : Nat} {q : qT} {x : List Nat} {t a s p F : Nat} {g k l : Int} {σ : sM} (h : Jn c j q x t a s p g k l σ) (hF : 10 ≤ F) (a1 : Int) (h1 : wi a1 = a1) : Stq j q x (X8_keep σ a1) (fun τ => X9_keep F τ a1) := by
  obtain ⟨hc, hX, hM, hW, hm, hV, hT, hI, hE, hB', hTh, htr⟩ := id h
  have b1 := rng h1
  have c3 := hc.2.1
  have ha : a < 2 := by have := hV.2.2.2; omega
  by_cases q1 : 0 ≤ a1 ∧ a1 < 2
  · obtain ⟨i, rfl⟩ : ∃ i : Nat, a1 = i := ⟨a1.toNat, by omega⟩
    obtain ⟨σ1, e1, f1, v1, v7⟩ := e_like (o := 27 + i) (o' := 26) (by omega) ha hW
    have e0 : X8_keep σ (i : Int) = some ((t : Int), sU σ1 (27 + i) 7 1) := by
      unfold X8_keep X8_imageOf
      rcases (show i = 0 ∨ i = 1 by omega) with z | z
      · subst z
        rw [show ((0 : Nat) : Int) = 0 from rfl, if_neg (by decide), if_pos (by decide), if_neg (by decide), bp_some, if_pos (by decide)]
        rw [show 27 + 0 = 27 from rfl] at e1 f1
        rw [e1, bn_some, sU_ne (by omega), f1 26 (by omega), hW.1]
      · subst z
        rw [show ((1 : Nat) : Int) = 1 from rfl, if_neg (by decide), if_pos (by decide), if_pos (by decide), bp_some, if_neg (by decide), if_pos (by decide)]
        rw [show 27 + 1 = 28 from rfl] at e1 f1
        rw [e1, bn_some, sU_ne (by omega), f1 26 (by omega), hW.1]
    have fr1 : ∀ m, m ≠ 27 + i → sU σ1 (27 + i) 7 1 m = σ m := fun m hm => by rw [sU_ne hm, f1 m hm]
    have hm1 : WM c 0 t a s p g k l (sU σ1 (27 + i) 7 1) := hm.row hc (fun m b1 b2 => fr1 m (by omega))
    obtain ⟨σ2, e2, f2, w2⟩ := f_copy (i := 0) (i' := 1 + i) hc (by omega) (by omega) (by omega) ha hm1 hF
    have e3 : X9_keep F (sU σ1 (27 + i) 7 1) (i : Int) = some ((t : Int), sU σ2 74 i 1) := by
      unfold X9_keep
      rw [f_in _ (i : Int) 0 1 h1 (by decide) (by decide), bp_some, b2_ifn, if_pos (by omega)]
      rw [show ((0 : Nat) : Int) = 0 from rfl, show ((1 + i : Nat) : Int) = 1 + (i : Int) by omega] at e2
      rw [e2, bn_some, q_z01.2]
      simp (disch := omega) only [b2_if0, b2_ifn, b2_if1, jn_def, nm_def, bp_some, bn_some, wiZ, wlZ, wiD, if_pos, if_neg, if_true, if_false, not_true_eq_false, not_false_eq_true, Int.toNat_natCast]
      rw [sU_ne (by omega), f2 66 0 (by omega), hm1.1]
    have fr2 : ∀ m, (m < 66 ∨ 74 < m) → sU σ2 74 i 1 m = sU σ1 (27 + i) 7 1 m := fun m hm => by rw [sU_ne (by omega)]; exact funext fun jj => f2 m jj (by omega)
    have fr : ∀ m, (m < 66 ∨ 74 < m) → m ≠ 27 + i → sU σ2 74 i 1 m = σ m := fun m hm h2 => by rw [fr2 m hm, fr1 m h2]
    refine ⟨_, _, _, _, e0, e3, rfl, c, t, a, s, p, g, k, l, hc, hX.congr hc (fun k b1 b2 => fr k (by omega) (by omega)), hM.congr (fun k b1 b2 => fr k (by omega) (by omega)), hW.congr (fr 26 (by omega) (by omega)), ?_, hV, hT.congr (fr 0 (by omega) (by omega)) (fr 1 (by omega) (by omega)) (by rw [fr 55 (by omega) (by omega)]) (fr 56 (by omega) (by omega)), ?_, hE.congr hc (fun k hk => fr k (by omega) (by omega)), hB'.congr (fr 37 (by omega) (by omega)) (fr 46 (by omega) (by omega)), hTh.congr (fr 49 (by omega) (by omega)) (by rw [fr 55 (by omega) (by omega)]) (fr 51 (by omega) (by omega)) (fr 85 (by omega) (by omega)), by rw [fr 54 (by omega) (by omega), fr 55 (by omega) (by omega)]; exact htr⟩
    · exact hm1.congr hc (fun m b1 b2 => by rw [sU_ne (by omega)]; exact f2 m 0 (by omega)) (fun m w b1 b2 b3 => by rw [sU_ne (by omega)]; exact f2 m _ (by omega))
    · intro i' hi'
      by_cases y : i' = i
      · subst y
        refine ⟨1, ?_, ?_, Or.inr ⟨rfl, t, a, s, p, g, k, l, ?_, ?_, hV⟩⟩
        · rw [fr2 _ (by omega), sUv]; rfl
        · rw [sUv]; rfl
        · obtain ⟨v1, v2, v3, v4, v5, v6, v7'⟩ := v1
          refine ⟨?_, ?_, ?_, ?_, ?_, ?_, ?_⟩
          · rw [fr2 _ (by omega), sUnj (by omega)]; exact v1
          · rw [fr2 _ (by omega), sUnj (by omega)]; exact v2
          · rw [fr2 _ (by omega), sUnj (by omega)]; exact v3
          · rw [fr2 _ (by omega), sUnj (by omega)]; exact v4
          · rw [fr2 _ (by omega), sUnj (by omega)]; exact v5
          · rw [fr2 _ (by omega), sUnj (by omega)]; exact v6
          · rw [fr2 _ (by omega), sUnj (by omega)]; exact v7'
        · exact w2.row hc (fun m b1 b2 => by rw [sU_ne (by omega)])
      · obtain ⟨b, g1, g2, g3⟩ := hI i' hi'
        refine ⟨b, ?_, ?_, ?_⟩
        · rw [fr _ (by omega) (by omega)]; exact g1
        · rw [sUnj y, f2 74 _ (by omega), fr1 74 (by omega)]; exact g2
        · rcases g3 with g3 | ⟨g3, t', a', s', p', g', k', l', y1, y2, y3⟩
          · exact Or.inl g3
          · refine Or.inr ⟨g3, t', a', s', p', g', k', l', y1.congr (fr _ (by omega) (by omega)), y2.congr hc (fun m b1 b2 => ?_) (fun m w b1 b2 b3 => ?_), y3⟩
            · rw [sU_ne (by omega), f2 m _ (by omega), fr1 m (by omega)]
            · rw [sU_ne (by omega), f2 m _ (by omega), fr1 m (by omega)]
  · refine ⟨_, _, _, _, (?_ : X8_keep σ a1 = some (-1, σ)), (?_ : X9_keep F σ a1 = some (-1, σ)), rfl, h.inv⟩
    · unfold X8_keep
      by_cases z : a1 < 0
      · simp (disch := omega) only [b2_if0, b2_ifn, b2_if1, jn_def, nm_def, bp_some, bn_some, wiZ, wlZ, wiD, if_pos, if_neg, if_true, if_false, not_true_eq_false, not_false_eq_true, Int.toNat_natCast]
      · simp (disch := omega) only [b2_if0, b2_ifn, b2_if1, jn_def, nm_def, bp_some, bn_some, wiZ, wlZ, wiD, if_pos, if_neg, if_true, if_false, not_true_eq_false, not_false_eq_true, Int.toNat_natCast]
    · unfold X9_keep
      rw [f_in _ a1 0 1 h1 (by decide) (by decide)]
      simp (disch := omega) only [b2_if0, b2_ifn, b2_if1, jn_def, nm_def, bp_some, bn_some, wiZ, wlZ, wiD, if_pos, if_neg, if_true, if_false, not_true_eq_false, not_false_eq_true, Int.toNat_natCast]
theorem s_back {c : cC} {j : Nat} {q : qT} {x : List Nat} {t a s p F : Nat} {g k l : Int} {σ : sM} (h : Jn c j q x t a s p g k l σ) (hF : 10 ≤ F) (a1 : Int) (h1 : wi a1 = a1) : Stq j q x (X8_back σ a1) (fun τ => X9_back F τ a1) := by
  obtain ⟨hc, hX, hM, hW, hm, hV, hT, hI, hE, hB', hTh, htr⟩ := id h
  have b1 := rng h1
  by_cases q1 : 0 ≤ a1 ∧ a1 < 2
  · obtain ⟨i, rfl⟩ : ∃ i : Nat, a1 = i := ⟨a1.toNat, by omega⟩
    obtain ⟨b, g1, g2, g3⟩ := hI i (by omega)
    rcases g3 with g3 | ⟨g3, t', a', s', p', g', k', l', y1, y2, y3⟩
    · subst g3
      refine ⟨_, _, _, _, (?_ : X8_back σ (i : Int) = some (-2, σ)), (?_ : X9_back F σ (i : Int) = some (-2, σ)), rfl, h.inv⟩
      · unfold X8_back X8_imageOf
        rcases (show i = 0 ∨ i = 1 by omega) with z | z
        · subst z
          rw [show 27 + 0 = 27 from rfl] at g1
          rw [g1]
          rfl
        · subst z
          rw [show 27 + 1 = 28 from rfl] at g1
          rw [g1]
          rfl
      · unfold X9_back
        rw [f_in _ (i : Int) 0 1 h1 (by decide) (by decide)]
        simp (disch := omega) only [b2_if0, b2_ifn, b2_if1, jn_def, nm_def, bp_some, bn_some, wiZ, wlZ, wiD, if_pos, if_neg, if_true, if_false, not_true_eq_false, not_false_eq_true, Int.toNat_natCast]
    · subst g3
      have ha' : a' < 2 := by have := y3.2.2.2; omega
      obtain ⟨σ1, e1, f1, v1, v7⟩ := e_like (o := 26) (o' := 27 + i) (by omega) ha' y1
      have e0 : X8_back σ (i : Int) = some ((t' : Int), σ1) := by
        unfold X8_back X8_imageOf
        rcases (show i = 0 ∨ i = 1 by omega) with z | z
        · subst z
          rw [show 27 + 0 = 27 from rfl] at g1 e1
          rw [g1, show ((0 : Nat) : Int) = 0 from rfl, if_neg (by decide), if_pos (by decide), if_neg (by decide), bp_some, if_pos (by decide), if_pos (by decide), e1, bn_some, v1.1]
        · subst z
          rw [show 27 + 1 = 28 from rfl] at g1 e1
          rw [g1, show ((1 : Nat) : Int) = 1 from rfl, if_neg (by decide), if_pos (by decide), if_pos (by decide), bp_some, if_neg (by decide), if_pos (by decide), if_pos (by decide), e1, bn_some, v1.1]
      have m1 : WM c (1 + i) t' a' s' p' g' k' l' σ1 := y2.row hc (fun m b1 b2 => f1 m (by omega))
      obtain ⟨σ2, e2, f2, w2⟩ := f_copy (i := 1 + i) (i' := 0) hc (by omega) (by omega) (by omega) ha' m1 hF
      have e3 : X9_back F σ1 (i : Int) = some ((t' : Int), σ2) := by
        unfold X9_back
        rw [f_in _ (i : Int) 0 1 h1 (by decide) (by decide)]
        simp (disch := omega) only [b2_if0, b2_ifn, b2_if1, jn_def, nm_def, bp_some, bn_some, wiZ, wlZ, wiD, if_pos, if_neg, if_true, if_false, not_true_eq_false, not_false_eq_true, Int.toNat_natCast]
        rw [f1 74 (by omega), g2]
        rw [show ((0 : Nat) : Int) = 0 from rfl, show ((1 + i : Nat) : Int) = 1 + (i : Int) by omega] at e2
        simp (disch := omega) only [b2_if0, b2_ifn, b2_if1, jn_def, nm_def, bp_some, bn_some, wiZ, wlZ, wiD, if_pos, if_neg, if_true, if_false, not_true_eq_false, not_false_eq_true, Int.toNat_natCast, e2]
        rw [w2.1]
      exact ⟨_, _, _, _, e0, e3, rfl, h.win f1 (fun k jj hk => f2 k jj (by omega)) v1 w2 y3⟩
  · refine ⟨_, _, _, _, (?_ : X8_back σ a1 = some (-1, σ)), (?_ : X9_back F σ a1 = some (-1, σ)), rfl, h.inv⟩
    · unfold X8_back
      by_cases z : a1 < 0
      · simp (disch := omega) only [b2_if0, b2_ifn, b2_if1, jn_def, nm_def, bp_some, bn_some, wiZ, wlZ, wiD, if_pos, if_neg, if_true, if_false, not_true_eq_false, not_false_eq_true, Int.toNat_natCast]
      · simp (disch := omega) only [b2_if0, b2_ifn, b2_if1, jn_def, nm_def, bp_some, bn_some, wiZ, wlZ, wiD, if_pos, if_neg, if_true, if_false, not_true_eq_false, not_false_eq_true, Int.toNat_natCast]
    · unfold X9_back
      rw [f_in _ a1 0 1 h1 (by decide) (by decide)]
      simp (disch := omega) only [b2_if0, b2_ifn, b2_if1, jn_def, nm_def, bp_some, bn_some, wiZ, wlZ, wiD, if_pos, if_neg, if_true, if_false, not_true_eq_false, not_false_eq_true, Int.toNat_natCast]
