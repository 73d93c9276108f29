theorem i_warm {b : Nat → Int} {n N k F : Nat} {d : cC} {σ : sM} (hF : 500 ≤ F) (hb : Bt b n) (hc : OkC d) (h : Cq b n N k σ) (hy : RelY d σ) (hk : Tk b n k = 11) (it a : Int) : Out b n N k F d it σ (X4_readItem F σ a) := by
  have hT := h.2.2.2.1
  rw [hk] at hT
  have hI2 : ∀ τ, X9_item F τ (mpK (Tk b n k) : Int) it = itA F τ 8 1 := fun τ => by
    rw [hk]; unfold X9_item; rw [jn_def, show ((mpK 11 : Nat) : Int) = 8 from rfl, if_pos (show ¬ wi 8 = 1 by decide), if_pos (show ¬ wi 8 = 2 by decide), if_pos (show ¬ wi 8 = 6 by decide), jn_def, if_neg (show ¬ wi 8 = 7 by decide), if_pos (show wi 8 = 8 by decide)]; rfl
  unfold X4_readItem
  rw [hT, if_neg (by decide), if_neg (by decide), if_neg (by decide), if_neg (by decide), if_neg (by decide), if_neg (by decide), if_neg (by decide), if_pos (by decide)]
  rcases GB3 b n (k + 1) 0 7 0 5 with g | ⟨k', g⟩
  · obtain ⟨σ1, e, r1, r2, r3, r4⟩ := e_owY (o := 20) hb (by omega) h (by omega) (by decide) g
    rw [e, bn_some, if_pos (by decide)]
    have g1 := g.1.2
    have g2 := g.2.1.2
    refine ⟨σ1, fun m hm => r2 m (by omega) (by omega), Or.inl ⟨rfl, dU d 3 (Tv b n (k + 1)) (Tv b n (k + 2)), k + 4, r1, ?_, ?_, by omega, fun τ hR hN => ?_⟩⟩
    · obtain ⟨c1, c2, c3, c4, c5, c6, c7, c8, c9⟩ := hc
      have g3 : Tv b n (k + 2) ≤ 5 := by have e3 : k + 1 + 1 = k + 2 := rfl; rw [e3] at g2; omega
      refine ⟨c1, c2, c3, c4, c5, c6, fun t => ?_, fun t ht => ?_, fun i x => ?_⟩
      · by_cases q : t = Tv b n (k + 1)
        · subst q
          exact ⟨by show dU d 3 _ _ 3 _ ≤ 5; rw [dU_v]; exact g3, (c7 _).2⟩
        · show dU d 3 (Tv b n (k + 1)) (Tv b n (k + 2)) 3 t ≤ 5 ∧ dU d 3 (Tv b n (k + 1)) (Tv b n (k + 2)) 4 t ≤ 99
          rw [dU_ne (Or.inr q), dU_ne (Or.inr q)]; exact c7 t
      · show dU d 3 (Tv b n (k + 1)) (Tv b n (k + 2)) 3 t = 0 ∧ dU d 3 (Tv b n (k + 1)) (Tv b n (k + 2)) 4 t = 0
        rw [dU_ne (Or.inr (by omega)), dU_ne (Or.inr (by omega))]; exact c8 t ht
      · show dU d 3 (Tv b n (k + 1)) (Tv b n (k + 2)) (5 + i) x ≤ 99 ∧ (4 ≤ x → dU d 3 (Tv b n (k + 1)) (Tv b n (k + 2)) (5 + i) x ≤ 10)
        rw [dU_ne (by omega)]; exact c9 i x
    · obtain ⟨y1, y2, y3, y4, y5, y6, y7, y8⟩ := hy
      have c1 : d 0 0 ≤ 4 := hc.1
      refine ⟨?_, ?_, ?_, ?_, fun w hw => ?_, fun w hw => ?_, fun t ht => ?_, fun i hi x hx => ?_⟩
      · rw [r2 12 (by omega) (by omega)]; exact y1
      · rw [r2 12 (by omega) (by omega)]; exact y2
      · rw [r2 12 (by omega) (by omega)]; exact y3
      · rw [r2 12 (by omega) (by omega)]; exact y4
      · rw [r2 19 (by omega) (by omega)]; exact y5 w hw
      · rw [r2 18 (by omega) (by omega)]; exact y6 w hw
      · rw [r2 21 (by omega) (by omega)]
        by_cases q : t = Tv b n (k + 1)
        · subst q
          rw [r4, dU_v, dU_ne (Or.inl (by omega))]; exact ⟨rfl, (y7 _ ht).2⟩
        · rw [r3 t q, dU_ne (Or.inr q), dU_ne (Or.inr q)]; exact y7 t ht
      · rw [dU_ne (by omega)]
        have hi' : i < d 0 0 := hi
        rw [r2 (14 + i) (by omega) (by omega)]; exact y8 i hi x hx
    · obtain ⟨x, f1, f2, f3⟩ := itA1 hF hb hR 8
      obtain ⟨z, z1, z2, z3, z4, z6, z5⟩ := owY (o := 64) hF hb (by omega) f2 (by decide) g
      refine ⟨0, z, by rw [hI2, f1, itB_8, z1], f3.dD.trans z2, z3, ?_⟩
      have zz5 : ∀ i, i ≠ 55 → i ≠ 64 → z i = τ i := fun i a1 a2 => by rw [z5 i a1 a2, f3.1 i a1]
      obtain ⟨y1, y2, y3, y4, y5, y6, y7⟩ := hN
      refine ⟨?_, ?_, ?_, ?_, fun w hw => ?_, fun t ht => ?_, fun i hi x hx => ?_⟩
      · rw [zz5 57 (by omega) (by omega)]; exact y1
      · rw [zz5 58 (by omega) (by omega)]; exact y2
      · rw [zz5 59 (by omega) (by omega)]; exact y3
      · rw [zz5 60 (by omega) (by omega)]; exact y4
      · rw [zz5 62 (by omega) (by omega), zz5 63 (by omega) (by omega)]; exact y5 w hw
      · rw [zz5 65 (by omega) (by omega)]
        by_cases q : t = Tv b n (k + 1)
        · subst q
          rw [z4, dU_v, dU_ne (Or.inl (by omega))]; exact ⟨rfl, (y6 _ ht).2⟩
        · rw [z6 (8 + t) (by omega), f3.1 64 (by omega), dU_ne (Or.inr q), dU_ne (Or.inr q)]; exact y6 t ht
      · rw [dU_ne (by omega), zz5 61 (by omega) (by omega)]; exact y7 i hi x hx
  · obtain ⟨σ1, e, r1, r2⟩ := e_owN (o := 20) hb (by omega) h (by omega) (by decide) g
    rw [e, bn_some, if_pos (by decide)]
    refine ⟨σ1, fun m hm => r2 m (by omega) (by omega), Or.inr ⟨rfl, k', r1, fun τ hR hN => ?_⟩⟩
    obtain ⟨x, f1, f2, f3⟩ := itA1 hF hb hR 8
    obtain ⟨z, z1, z2, z3⟩ := owN (o := 64) hF hb (by omega) f2 (by decide) g
    exact ⟨0, z, by rw [hI2, f1, itB_8, z1], f3.dD.trans z2, z3⟩
theorem i_price {b : Nat → Int} {n N k F : Nat} {d : cC} {σ : sM} (hF : 500 ≤ F) (hb : Bt b n) (hc : OkC d) (h : Cq b n N k σ) (hy : RelY d σ) (hk : Tk b n k = 12) (it a : Int) : Out b n N k F d it σ (X4_readItem F σ a) := by
  have hT := h.2.2.2.1
  rw [hk] at hT
  have hI2 : ∀ τ, X9_item F τ (mpK (Tk b n k) : Int) it = itA F τ 9 1 := fun τ => by
    rw [hk]; unfold X9_item; rw [jn_def, show ((mpK 12 : Nat) : Int) = 9 from rfl, if_pos (show ¬ wi 9 = 1 by decide), if_pos (show ¬ wi 9 = 2 by decide), if_pos (show ¬ wi 9 = 6 by decide), jn_def, if_neg (show ¬ wi 9 = 7 by decide), if_neg (show ¬ wi 9 = 8 by decide), if_neg (show ¬ ¬ wi 9 = 9 by decide)]; rfl
  unfold X4_readItem
  rw [hT, if_neg (by decide), if_neg (by decide), if_neg (by decide), if_neg (by decide), if_neg (by decide), if_neg (by decide), if_neg (by decide), if_neg (by decide), if_pos (by decide)]
  rcases GB3 b n (k + 1) 0 7 0 99 with g | ⟨k', g⟩
  · obtain ⟨σ1, e, r1, r2, r3, r4⟩ := e_owY (o := 21) hb (by omega) h (by omega) (by decide) g
    rw [e, bn_some, if_pos (by decide)]
    have g1 := g.1.2
    have g2 := g.2.1.2
    refine ⟨σ1, fun m hm => r2 m (by omega) (by omega), Or.inl ⟨rfl, dU d 4 (Tv b n (k + 1)) (Tv b n (k + 2)), k + 4, r1, ?_, ?_, by omega, fun τ hR hN => ?_⟩⟩
    · obtain ⟨c1, c2, c3, c4, c5, c6, c7, c8, c9⟩ := hc
      have g3 : Tv b n (k + 2) ≤ 99 := by have e3 : k + 1 + 1 = k + 2 := rfl; rw [e3] at g2; omega
      refine ⟨c1, c2, c3, c4, c5, c6, fun t => ?_, fun t ht => ?_, fun i x => ?_⟩
      · by_cases q : t = Tv b n (k + 1)
        · subst q
          exact ⟨(c7 _).1, by show dU d 4 _ _ 4 _ ≤ 99; rw [dU_v]; exact g3⟩
        · show dU d 4 (Tv b n (k + 1)) (Tv b n (k + 2)) 3 t ≤ 5 ∧ dU d 4 (Tv b n (k + 1)) (Tv b n (k + 2)) 4 t ≤ 99
          rw [dU_ne (Or.inr q), dU_ne (Or.inr q)]; exact c7 t
      · show dU d 4 (Tv b n (k + 1)) (Tv b n (k + 2)) 3 t = 0 ∧ dU d 4 (Tv b n (k + 1)) (Tv b n (k + 2)) 4 t = 0
        rw [dU_ne (Or.inr (by omega)), dU_ne (Or.inr (by omega))]; exact c8 t ht
      · show dU d 4 (Tv b n (k + 1)) (Tv b n (k + 2)) (5 + i) x ≤ 99 ∧ (4 ≤ x → dU d 4 (Tv b n (k + 1)) (Tv b n (k + 2)) (5 + i) x ≤ 10)
        rw [dU_ne (by omega)]; exact c9 i x
    · obtain ⟨y1, y2, y3, y4, y5, y6, y7, y8⟩ := hy
      have c1 : d 0 0 ≤ 4 := hc.1
      refine ⟨?_, ?_, ?_, ?_, fun w hw => ?_, fun w hw => ?_, fun t ht => ?_, fun i hi x hx => ?_⟩
      · rw [r2 12 (by omega) (by omega)]; exact y1
      · rw [r2 12 (by omega) (by omega)]; exact y2
      · rw [r2 12 (by omega) (by omega)]; exact y3
      · rw [r2 12 (by omega) (by omega)]; exact y4
      · rw [r2 19 (by omega) (by omega)]; exact y5 w hw
      · rw [r2 18 (by omega) (by omega)]; exact y6 w hw
      · rw [r2 20 (by omega) (by omega)]
        by_cases q : t = Tv b n (k + 1)
        · subst q
          rw [r4, dU_v, dU_ne (Or.inl (by omega))]; exact ⟨(y7 _ ht).1, rfl⟩
        · rw [r3 t q, dU_ne (Or.inr q), dU_ne (Or.inr q)]; exact y7 t ht
      · rw [dU_ne (by omega)]
        have hi' : i < d 0 0 := hi
        rw [r2 (14 + i) (by omega) (by omega)]; exact y8 i hi x hx
    · obtain ⟨x, f1, f2, f3⟩ := itA1 hF hb hR 9
      obtain ⟨z, z1, z2, z3, z4, z6, z5⟩ := owY (o := 65) hF hb (by omega) f2 (by decide) g
      refine ⟨0, z, by rw [hI2, f1, itB_9, z1], f3.dD.trans z2, z3, ?_⟩
      have zz5 : ∀ i, i ≠ 55 → i ≠ 65 → z i = τ i := fun i a1 a2 => by rw [z5 i a1 a2, f3.1 i a1]
      obtain ⟨y1, y2, y3, y4, y5, y6, y7⟩ := hN
      refine ⟨?_, ?_, ?_, ?_, fun w hw => ?_, fun t ht => ?_, fun i hi x hx => ?_⟩
      · rw [zz5 57 (by omega) (by omega)]; exact y1
      · rw [zz5 58 (by omega) (by omega)]; exact y2
      · rw [zz5 59 (by omega) (by omega)]; exact y3
      · rw [zz5 60 (by omega) (by omega)]; exact y4
      · rw [zz5 62 (by omega) (by omega), zz5 63 (by omega) (by omega)]; exact y5 w hw
      · rw [zz5 64 (by omega) (by omega)]
        by_cases q : t = Tv b n (k + 1)
        · subst q
          rw [z4, dU_v, dU_ne (Or.inl (by omega))]; exact ⟨(y6 _ ht).1, rfl⟩
        · rw [z6 (8 + t) (by omega), f3.1 65 (by omega), dU_ne (Or.inr q), dU_ne (Or.inr q)]; exact y6 t ht
      · rw [dU_ne (by omega), zz5 61 (by omega) (by omega)]; exact y7 i hi x hx
  · obtain ⟨σ1, e, r1, r2⟩ := e_owN (o := 21) hb (by omega) h (by omega) (by decide) g
    rw [e, bn_some, if_pos (by decide)]
    refine ⟨σ1, fun m hm => r2 m (by omega) (by omega), Or.inr ⟨rfl, k', r1, fun τ hR hN => ?_⟩⟩
    obtain ⟨x, f1, f2, f3⟩ := itA1 hF hb hR 9
    obtain ⟨z, z1, z2, z3⟩ := owN (o := 65) hF hb (by omega) f2 (by decide) g
    exact ⟨0, z, by rw [hI2, f1, itB_9, z1], f3.dD.trans z2, z3⟩
def whq (F : Nat) (x : sM) : Option (Int × sM) := bn (X9_number F x 0 ((x 57 1) - 1)) (fun r38 σ40 => if 0 ≤ wi (3 + (x 58 1)) ∧ wi (3 + (x 58 1)) < 6 then bn (X9_number F (sU σ40 62 (wi (3 + (x 58 1))).toNat r38) 1 3) (fun r42 σ44 => if 0 ≤ wi (3 + ((sU σ40 62 (wi (3 + (x 58 1))).toNat r38) 58 1)) ∧ wi (3 + ((sU σ40 62 (wi (3 + (x 58 1))).toNat r38) 58 1)) < 6 then nm (sU (sU σ44 63 (wi (3 + ((sU σ40 62 (wi (3 + (x 58 1))).toNat r38) 58 1))).toNat r42) 58 1 (((sU σ44 63 (wi (3 + ((sU σ40 62 (wi (3 + (x 58 1))).toNat r38) 58 1))).toNat r42) 58 1) + 1)) (fun σ46 => zz F σ46) else none) else none)
theorem itB_6 (F : Nat) (x : sM) : itB F 6 x = whq F x := by
  unfold itB; rw [jn_def, if_pos (show ¬ wi 6 = 1 by decide), if_pos (show ¬ wi 6 = 2 by decide), if_neg (show ¬ ¬ wi 6 = 6 by decide)]; rfl
theorem whY {F S W : Nat} {b : Nat → Int} {n k : Nat} {τ : sM} (hF : 500 ≤ F) (hb : Bt b n) (h : Rf b n k τ) (hS : τ 57 1 = (S : Int)) (hW : τ 58 1 = (W : Int)) (hw : W < 3) (hS4 : S ≤ 4) (hg : G3 b n k 0 ((S : Int) - 1) 1 3) : ∃ x, whq F τ = some (0, x) ∧ fD τ x ∧ Rf b n (k + 3) x ∧ x 62 (3 + W) = (Tv b n k : Int) ∧ x 63 (3 + W) = (Tv b n (k + 1) : Int) ∧ x 58 1 = ((W + 1 : Nat) : Int) ∧ (∀ j, j ≠ 3 + W → x 62 j = τ 62 j ∧ x 63 j = τ 63 j) ∧ ∀ i, i ≠ 55 → i ≠ 58 → i ≠ 62 → i ≠ 63 → x i = τ i := by
  obtain ⟨g1, g2, g3⟩ := hg
  obtain ⟨x, e, r1, r2⟩ := f_numY hF hb h (by decide) (wi_id (by omega) (by omega)) g1
  obtain ⟨y, e2, s1, s2⟩ := f_numY hF hb (r1.set (m := 62) (3 + W) (Tv b n k : Int) (by omega)) (by decide) (by decide) g2
  obtain ⟨z, e3, t1, t2⟩ := zzY hF hb ((s1.set (m := 63) (3 + W) (Tv b n (k + 1) : Int) (by omega)).set (m := 58) 1 ((W + 1 : Nat) : Int) (by omega)) g3
  have w1 : (sU x 62 (3 + W) (Tv b n k : Int)) 58 1 = (W : Int) := by rw [sU_ne (by omega), r2.1 58 (by omega)]; exact hW
  have w2 : (sU y 63 (3 + W) (Tv b n (k + 1) : Int)) 58 1 = (W : Int) := by rw [sU_ne (by omega), s2.1 58 (by omega)]; exact w1
  refine ⟨z, ?_, ((((r2.dD).set _ (by omega)).trans s2.dD).set _ (by omega)).set _ (by omega) |>.trans t2.dD, t1, ?_, ?_, ?_, fun j hj => ⟨?_, ?_⟩, fun i a1 a2 a3 a4 => ?_⟩
  · unfold whq
    rw [hS, hW, e, bn_some, show (3 : Int) + (W : Int) = ((3 + W : Nat) : Int) by omega, wiN (by omega), if_pos (by omega), Int.toNat_natCast, e2, bn_some, w1, show (3 : Int) + (W : Int) = ((3 + W : Nat) : Int) by omega, wiN (by omega), if_pos (by omega), Int.toNat_natCast, nm_def, w2, show (W : Int) + 1 = ((W + 1 : Nat) : Int) by omega, e3]
  · rw [t2.1 62 (by omega), sU_ne (by omega), sU_ne (by omega), s2.1 62 (by omega), sUv]
  · rw [t2.1 63 (by omega), sU_ne (by omega), sUv]
  · rw [t2.1 58 (by omega), sUv]
  · rw [t2.1 62 (by omega), sU_ne (by omega), sU_ne (by omega), s2.1 62 (by omega), sUnj hj, r2.1 62 (by omega)]
  · rw [t2.1 63 (by omega), sU_ne (by omega), sUnj hj, s2.1 63 (by omega), sU_ne (by omega), r2.1 63 (by omega)]
  · rw [t2.1 i a1, sU_ne a2, sU_ne a4, s2.1 i a1, sU_ne a3, r2.1 i a1]
theorem whN {F S W : Nat} {b : Nat → Int} {n k k' : Nat} {τ : sM} (hF : 500 ≤ F) (hb : Bt b n) (h : Rf b n k τ) (hS : τ 57 1 = (S : Int)) (hW : τ 58 1 = (W : Int)) (hw : W < 3) (hS4 : S ≤ 4) (hg : B3 b n k 0 ((S : Int) - 1) 1 3 k') : ∃ x, whq F τ = some (0, x) ∧ fD τ x ∧ x 55 16 = (pP b n k' : Int) := by
  have key : ∀ (v v2 : Int) (x y : sM), X9_number F τ 0 ((S : Int) - 1) = some (v, x) → fQq τ x → X9_number F (sU x 62 (3 + W) v) 1 3 = some (v2, y) → fQq (sU x 62 (3 + W) v) y → whq F τ = zz F (sU (sU y 63 (3 + W) v2) 58 1 ((W + 1 : Nat) : Int)) ∧ fD τ (sU (sU y 63 (3 + W) v2) 58 1 ((W + 1 : Nat) : Int)) := by
    intro v v2 x y e r2 e2 s2
    have w1 : (sU x 62 (3 + W) v) 58 1 = (W : Int) := by rw [sU_ne (by omega), r2.1 58 (by omega)]; exact hW
    have w2 : (sU y 63 (3 + W) v2) 58 1 = (W : Int) := by rw [sU_ne (by omega), s2.1 58 (by omega)]; exact w1
    refine ⟨?_, ((((r2.dD).set _ (by omega)).trans s2.dD).set _ (by omega)).set _ (by omega)⟩
    unfold whq
    rw [hS, hW, e, bn_some, show (3 : Int) + (W : Int) = ((3 + W : Nat) : Int) by omega, wiN (by omega), if_pos (by omega), Int.toNat_natCast, e2, bn_some, w1, show (3 : Int) + (W : Int) = ((3 + W : Nat) : Int) by omega, wiN (by omega), if_pos (by omega), Int.toNat_natCast, nm_def, w2, show (W : Int) + 1 = ((W + 1 : Nat) : Int) by omega]
  rcases hg with ⟨g1, rfl⟩ | ⟨g1, g2, rfl⟩ | ⟨g1, g2, g3, rfl⟩
  · obtain ⟨v, x, e, r1, r2⟩ := f_numN (F := F) h (by decide) (wi_id (by omega) (by omega)) g1
    have q : (sU x 62 (3 + W) v) 55 16 = (pP b n k' : Int) := by rw [sU_ne (by omega)]; exact r1
    obtain ⟨a1, a2⟩ := key v _ x _ e r2 (f_numF hb q 1 3) (fQq.refl _)
    have q2 : (sU (sU (sU x 62 (3 + W) v) 63 (3 + W) ((sU x 62 (3 + W) v) 55 15)) 58 1 ((W + 1 : Nat) : Int)) 55 16 = (pP b n k' : Int) := by rw [sU_ne (by omega), sU_ne (by omega)]; exact q
    exact ⟨_, by rw [a1, zzF hb q2], a2, q2⟩
  · obtain ⟨x, e, r1, r2⟩ := f_numY hF hb h (by decide) (wi_id (by omega) (by omega)) g1
    obtain ⟨v, y, e2, s1, s2⟩ := f_numN (F := F) (r1.set (m := 62) (3 + W) (Tv b n k : Int) (by omega)) (by decide) (by decide) g2
    obtain ⟨a1, a2⟩ := key _ v x y e r2 e2 s2
    have q2 : (sU (sU y 63 (3 + W) v) 58 1 ((W + 1 : Nat) : Int)) 55 16 = (pP b n (k + 1) : Int) := by rw [sU_ne (by omega), sU_ne (by omega)]; exact s1
    exact ⟨_, by rw [a1, zzF hb q2], a2, q2⟩
  · obtain ⟨x, e, r1, r2⟩ := f_numY hF hb h (by decide) (wi_id (by omega) (by omega)) g1
    obtain ⟨y, e2, s1, s2⟩ := f_numY hF hb (r1.set (m := 62) (3 + W) (Tv b n k : Int) (by omega)) (by decide) (by decide) g2
    obtain ⟨a1, a2⟩ := key _ _ x y e r2 e2 s2
    obtain ⟨z, e3, t1, t2⟩ := zzN (F := F) ((s1.set (m := 63) (3 + W) (Tv b n (k + 1) : Int) (by omega)).set (m := 58) 1 ((W + 1 : Nat) : Int) (by omega)) g3
    exact ⟨z, by rw [a1, e3], a2.trans t2.dD, t1⟩
theorem e_whY {S W : Nat} {b : Nat → Int} {n N k : Nat} {σ : sM} (hb : Bt b n) (h : Cq b n N k σ) (hk : Tk b n k ≠ 0) (hS : σ 12 5 = (S : Int)) (hW : σ 12 6 = (W : Int)) (hw : W < 3) (hS4 : S ≤ 4) (hg : G3 b n (k + 1) 0 ((S : Int) - 1) 1 3) : ∃ σ1, X4_readWheel σ = some (1, σ1) ∧ Cq b n N (k + 4) σ1 ∧ σ1 18 W = (Tv b n (k + 1) : Int) ∧ σ1 19 W = (Tv b n (k + 2) : Int) ∧ σ1 12 6 = ((W + 1 : Nat) : Int) ∧ (∀ j, j ≠ 6 → σ1 12 j = σ 12 j) ∧ (∀ j, j ≠ W → σ1 18 j = σ 18 j ∧ σ1 19 j = σ 19 j) ∧ ∀ m, m ≠ 12 → m ≠ 18 → m ≠ 19 → m ≠ 22 → σ1 m = σ m := by
  obtain ⟨g1, g2, g3⟩ := hg
  obtain ⟨x, e, r1, r2⟩ := e_nxt hb h hk
  have hx := r1.2.2.2.2 g1.1
  have x5 : x 12 5 = (S : Int) := by rw [r2 12 (by omega)]; exact hS
  obtain ⟨y, e2, s1, s2⟩ := e_nxt hb (r1.set (m := 18) W (Tv b n (k + 1) : Int) (by omega)) (by omega)
  have hy := s1.2.2.2.2 g2.1
  have y6 : (sU y 19 W (Tv b n (k + 1 + 1) : Int)) 12 6 = (W : Int) := by rw [sU_ne (by omega), s2 12 (by omega), sU_ne (by omega), r2 12 (by omega)]; exact hW
  obtain ⟨z, e3, t1, t2⟩ := e_nxt hb ((s1.set (m := 19) W (Tv b n (k + 1 + 1) : Int) (by omega)).set (m := 12) 6 ((W + 1 : Nat) : Int) (by omega)) (by omega)
  obtain ⟨u, e4, u1, u2⟩ := e_take1 (K := 2) hb t1 (by omega) g3
  rw [show ((2 : Nat) : Int) = 2 from rfl] at e4
  refine ⟨u, ?_, u1, ?_, ?_, ?_, fun j hj => ?_, fun j hj => ⟨?_, ?_⟩, fun m a1 a2 a3 a4 => ?_⟩
  · unfold X4_readWheel
    rw [e, bn_some, hW, wiN (by omega), if_neg (by omega), if_neg (by omega), x5, e_isNum r1 (by decide) (wi_id (by omega) (by omega)), bp_some, b2_t g1, if_pos (by decide), if_pos (by omega), Int.toNat_natCast, hx, e2, bn_some, e_isNum s1 (by decide) (by decide), bp_some, b2_t g2, if_pos (by decide), if_pos (by omega), hy, nm_def, y6, show (W : Int) + 1 = ((W + 1 : Nat) : Int) by omega, e3, bn_some, e4, bn_some, if_pos (by decide)]
  · rw [u2 18 (by omega), t2 18 (by omega), sU_ne (by omega), sU_ne (by omega), s2 18 (by omega), sUv]
  · rw [u2 19 (by omega), t2 19 (by omega), sU_ne (by omega), sUv]
  · rw [u2 12 (by omega), t2 12 (by omega), sUv]
  · rw [u2 12 (by omega), t2 12 (by omega), sUnj hj, sU_ne (by omega), s2 12 (by omega), sU_ne (by omega), r2 12 (by omega)]
  · rw [u2 18 (by omega), t2 18 (by omega), sU_ne (by omega), sU_ne (by omega), s2 18 (by omega), sUnj hj, r2 18 (by omega)]
  · rw [u2 19 (by omega), t2 19 (by omega), sU_ne (by omega), sUnj hj, s2 19 (by omega), sU_ne (by omega), r2 19 (by omega)]
  · rw [u2 m a4, t2 m a4, sU_ne a1, sU_ne a3, s2 m a4, sU_ne a2, r2 m a4]
theorem e_whN {S W : Nat} {b : Nat → Int} {n N k k' : Nat} {σ : sM} (hb : Bt b n) (h : Cq b n N k σ) (hk : Tk b n k ≠ 0) (hS : σ 12 5 = (S : Int)) (hW : σ 12 6 = (W : Int)) (hw : W < 3) (hS4 : S ≤ 4) (hg : B3 b n (k + 1) 0 ((S : Int) - 1) 1 3 k') : ∃ σ1, X4_readWheel σ = some (0, σ1) ∧ Cq b n N k' σ1 ∧ ∀ m, m ≠ 12 → m ≠ 18 → m ≠ 19 → m ≠ 22 → σ1 m = σ m := by
  obtain ⟨x, e, r1, r2⟩ := e_nxt hb h hk
  have x5 : x 12 5 = (S : Int) := by rw [r2 12 (by omega)]; exact hS
  rcases hg with ⟨g1, rfl⟩ | ⟨g1, g2, rfl⟩ | ⟨g1, g2, g3, rfl⟩
  · refine ⟨x, ?_, r1, fun m a1 a2 a3 a4 => r2 m a4⟩
    unfold X4_readWheel
    rw [e, bn_some, hW, wiN (by omega), if_neg (by omega), if_neg (by omega), x5, e_isNum r1 (by decide) (wi_id (by omega) (by omega)), bp_some, b2_f g1, if_neg (by decide)]
  · have hx := r1.2.2.2.2 g1.1
    obtain ⟨y, e2, s1, s2⟩ := e_nxt hb (r1.set (m := 18) W (Tv b n (k + 1) : Int) (by omega)) (by omega)
    refine ⟨y, ?_, s1, fun m a1 a2 a3 a4 => by rw [s2 m a4, sU_ne a2, r2 m a4]⟩
    unfold X4_readWheel
    rw [e, bn_some, hW, wiN (by omega), if_neg (by omega), if_neg (by omega), x5, e_isNum r1 (by decide) (wi_id (by omega) (by omega)), bp_some, b2_t g1, if_pos (by decide), if_pos (by omega), Int.toNat_natCast, hx, e2, bn_some, e_isNum s1 (by decide) (by decide), bp_some, b2_f g2, if_neg (by decide)]
  · have hx := r1.2.2.2.2 g1.1
    obtain ⟨y, e2, s1, s2⟩ := e_nxt hb (r1.set (m := 18) W (Tv b n (k + 1) : Int) (by omega)) (by omega)
    have hy := s1.2.2.2.2 g2.1
    have y6 : (sU y 19 W (Tv b n (k + 1 + 1) : Int)) 12 6 = (W : Int) := by rw [sU_ne (by omega), s2 12 (by omega), sU_ne (by omega), r2 12 (by omega)]; exact hW
    obtain ⟨z, e3, t1, t2⟩ := e_nxt hb ((s1.set (m := 19) W (Tv b n (k + 1 + 1) : Int) (by omega)).set (m := 12) 6 ((W + 1 : Nat) : Int) (by omega)) (by omega)
    have e4 := e_take0 (K := 2) t1 (by omega) g3
    rw [show ((2 : Nat) : Int) = 2 from rfl] at e4
    refine ⟨z, ?_, t1, fun m a1 a2 a3 a4 => by rw [t2 m a4, sU_ne a1, sU_ne a3, s2 m a4, sU_ne a2, r2 m a4]⟩
    unfold X4_readWheel
    rw [e, bn_some, hW, wiN (by omega), if_neg (by omega), if_neg (by omega), x5, e_isNum r1 (by decide) (wi_id (by omega) (by omega)), bp_some, b2_t g1, if_pos (by decide), if_pos (by omega), Int.toNat_natCast, hx, e2, bn_some, e_isNum s1 (by decide) (by decide), bp_some, b2_t g2, if_pos (by decide), if_pos (by omega), hy, nm_def, y6, show (W : Int) + 1 = ((W + 1 : Nat) : Int) by omega, e3, bn_some, e4, bn_some, if_pos (by decide)]
theorem i_wheel {b : Nat → Int} {n N k F : Nat} {d : cC} {σ : sM} (hF : 500 ≤ F) (hb : Bt b n) (hc : OkC d) (h : Cq b n N k σ) (hy : RelY d σ) (hk : Tk b n k = 9) (it a : Int) : Out b n N k F d it σ (X4_readItem F σ a) := by
  have hT := h.2.2.2.1
  rw [hk] at hT
  have c1 : d 0 0 ≤ 4 := hc.1
  have c2 : d 0 1 ≤ 3 := hc.2.1
  have hI : ∀ τ, τ 58 1 = (d 0 1 : Int) → X9_item F τ (mpK (Tk b n k) : Int) it = if 3 ≤ d 0 1 then itA F τ 6 0 else itA F τ 6 1 := fun τ hW => by
    rw [hk]; unfold X9_item; rw [jn_def, show ((mpK 9 : Nat) : Int) = 6 from rfl, if_pos (show ¬ wi 6 = 1 by decide), if_pos (show ¬ wi 6 = 2 by decide), if_neg (show ¬ ¬ wi 6 = 6 by decide), hW, wiN (by omega)]
    by_cases q : 3 ≤ d 0 1
    · rw [if_pos q, if_pos (by omega)]; rfl
    · rw [if_neg q, if_neg (by omega)]; rfl
  unfold X4_readItem
  rw [hT, if_neg (by decide), if_neg (by decide), if_neg (by decide), if_neg (by decide), if_neg (by decide), if_pos (by decide), hy.2.1, wiN (by omega)]
  by_cases q : 3 ≤ d 0 1
  · rw [if_pos (by omega)]
    refine out_no hb h (fun τ hR hN => ?_)
    rw [hI τ hN.2.1, if_pos q, hk]; rfl
  rw [if_neg (by omega)]
  have hI2 : ∀ τ, τ 58 1 = (d 0 1 : Int) → X9_item F τ (mpK (Tk b n k) : Int) it = itA F τ 6 1 := fun τ hW => by rw [hI τ hW, if_neg q]
  rcases GB3 b n (k + 1) 0 ((d 0 0 : Int) - 1) 1 3 with g | ⟨k', g⟩
  · obtain ⟨σ1, e, r1, r2, r3, r4, r5, r6, r7⟩ := e_whY hb h (by omega) hy.1 hy.2.1 (by omega) c1 g
    rw [e, bn_some, if_neg (by decide)]
    have g1 := g.1.2
    have g2 := g.2.1.2
    rw [show k + 1 + 1 = k + 2 from rfl] at g2
    refine ⟨σ1, fun m hm => r7 m (by omega) (by omega) (by omega) (by omega), Or.inl ⟨rfl, dU (dU (dU d 1 (d 0 1) (Tv b n (k + 1))) 2 (d 0 1) (Tv b n (k + 2))) 0 1 (d 0 1 + 1), k + 4, r1, ?_, ?_, by omega, fun τ hR hN => ?_⟩⟩
    · obtain ⟨-, -, c3, c4, c5, c6, c7, c8, c9⟩ := hc
      refine ⟨c1, ?_, c3, c4, fun w hw => ?_, fun w hw => ?_, c7, c8, fun i x => ?_⟩
      · show d 0 1 + 1 ≤ 3; omega
      · have hw' : w < d 0 1 + 1 := hw
        show dU (dU (dU d 1 (d 0 1) (Tv b n (k + 1))) 2 (d 0 1) (Tv b n (k + 2))) 0 1 (d 0 1 + 1) 1 w < d 0 0 ∧ 1 ≤ dU (dU (dU d 1 (d 0 1) (Tv b n (k + 1))) 2 (d 0 1) (Tv b n (k + 2))) 0 1 (d 0 1 + 1) 2 w ∧ dU (dU (dU d 1 (d 0 1) (Tv b n (k + 1))) 2 (d 0 1) (Tv b n (k + 2))) 0 1 (d 0 1 + 1) 2 w ≤ 3
        rw [dU_ne (by omega), dU_ne (by omega), dU_ne (m := 0) (by omega)]
        by_cases y : w = d 0 1
        · subst y; rw [dU_v, dU_v]; omega
        · rw [dU_ne (by omega), dU_ne (by omega), dU_ne (by omega)]; exact c5 w (by show w < d 0 1; omega)
      · have hw' : d 0 1 + 1 ≤ w := hw
        show dU (dU (dU d 1 (d 0 1) (Tv b n (k + 1))) 2 (d 0 1) (Tv b n (k + 2))) 0 1 (d 0 1 + 1) 2 w = 0
        rw [dU_ne (by omega), dU_ne (by omega), dU_ne (by omega)]; exact c6 w (by show d 0 1 ≤ w; omega)
      · show dU (dU (dU d 1 (d 0 1) (Tv b n (k + 1))) 2 (d 0 1) (Tv b n (k + 2))) 0 1 (d 0 1 + 1) (5 + i) x ≤ 99 ∧ (4 ≤ x → dU (dU (dU d 1 (d 0 1) (Tv b n (k + 1))) 2 (d 0 1) (Tv b n (k + 2))) 0 1 (d 0 1 + 1) (5 + i) x ≤ 10)
        rw [dU_ne (by omega), dU_ne (by omega), dU_ne (by omega)]; exact c9 i x
    · obtain ⟨y1, y2, y3, y4, y5, y6, y7, y8⟩ := hy
      refine ⟨?_, ?_, ?_, ?_, fun w hw => ?_, fun w hw => ?_, fun t ht => ?_, fun i hi x hx => ?_⟩
      · rw [r5 5 (by omega)]; exact y1
      · rw [r4]; exact congrArg Int.ofNat dU_v.symm
      · rw [r5 7 (by omega)]; exact y3
      · rw [r5 8 (by omega)]; exact y4
      · rw [dU_ne (by omega)]
        by_cases y : w = d 0 1
        · subst y; rw [dU_v]; exact r3
        · rw [dU_ne (by omega), dU_ne (by omega), (r6 w y).2]; exact y5 w hw
      · have hw' : w < d 0 1 + 1 := hw
        rw [dU_ne (by omega), dU_ne (by omega)]
        by_cases y : w = d 0 1
        · subst y; rw [dU_v]; exact r2
        · rw [dU_ne (by omega), (r6 w y).1]; exact y6 w (by omega)
      · rw [r7 20 (by omega) (by omega) (by omega) (by omega), r7 21 (by omega) (by omega) (by omega) (by omega)]; exact y7 t ht
      · rw [dU_ne (by omega), dU_ne (by omega), dU_ne (by omega)]
        have hi' : i < d 0 0 := hi
        rw [r7 (14 + i) (by omega) (by omega) (by omega) (by omega)]; exact y8 i hi x hx
    · obtain ⟨x, f1, f2, f3⟩ := itA1 hF hb hR 6
      obtain ⟨y1, y2, y3, y4, y5, y6, y7⟩ := hN
      obtain ⟨z, z1, z2, z3, z4, z5, z6, z7, z8⟩ := whY (S := d 0 0) (W := d 0 1) hF hb f2 (by rw [f3.1 57 (by omega)]; exact y1) (by rw [f3.1 58 (by omega)]; exact y2) (by omega) c1 g
      refine ⟨0, z, by rw [hI2 τ y2, f1, itB_6, z1], f3.dD.trans z2, z3, ?_⟩
      have zz5 : ∀ i, i ≠ 55 → i ≠ 58 → i ≠ 62 → i ≠ 63 → z i = τ i := fun i a1 a2 a3 a4 => by rw [z8 i a1 a2 a3 a4, f3.1 i a1]
      refine ⟨?_, ?_, ?_, ?_, fun w hw => ?_, fun t ht => ?_, fun i hi x hx => ?_⟩
      · rw [zz5 57 (by omega) (by omega) (by omega) (by omega)]; exact y1
      · rw [z6]; exact congrArg Int.ofNat dU_v.symm
      · rw [zz5 59 (by omega) (by omega) (by omega) (by omega)]; exact y3
      · rw [zz5 60 (by omega) (by omega) (by omega) (by omega)]; exact y4
      · have hw' : w < d 0 1 + 1 := hw
        rw [dU_ne (by omega), dU_ne (by omega), dU_ne (m := 0) (by omega)]
        by_cases y : w = d 0 1
        · subst y; rw [dU_v, dU_v]; exact ⟨z4, z5⟩
        · rw [dU_ne (by omega), dU_ne (by omega), dU_ne (by omega), (z7 (3 + w) (by omega)).1, (z7 (3 + w) (by omega)).2, f3.1 62 (by omega), f3.1 63 (by omega)]; exact y5 w (by omega)
      · rw [zz5 64 (by omega) (by omega) (by omega) (by omega), zz5 65 (by omega) (by omega) (by omega) (by omega)]; exact y6 t ht
      · rw [dU_ne (by omega), dU_ne (by omega), dU_ne (by omega), zz5 61 (by omega) (by omega) (by omega) (by omega)]; exact y7 i hi x hx
  · obtain ⟨σ1, e, r1, r2⟩ := e_whN hb h (by omega) hy.1 hy.2.1 (by omega) c1 g
    rw [e, bn_some, if_pos (by decide)]
    refine ⟨σ1, fun m hm => r2 m (by omega) (by omega) (by omega) (by omega), Or.inr ⟨rfl, k', r1, fun τ hR hN => ?_⟩⟩
    obtain ⟨x, f1, f2, f3⟩ := itA1 hF hb hR 6
    obtain ⟨z, z1, z2, z3⟩ := whN (S := d 0 0) (W := d 0 1) hF hb f2 (by rw [f3.1 57 (by omega)]; exact hN.1) (by rw [f3.1 58 (by omega)]; exact hN.2.1) (by omega) c1 g
    exact ⟨0, z, by rw [hI2 τ hN.2.1, f1, itB_6, z1], f3.dD.trans z2, z3⟩
