theorem e_bgn {σ : sM} (v : Int) : ∃ σ1, X7_beginAnew σ v = some (0, σ1) ∧ (∀ k, k ≠ 26 → σ1 k = σ k) ∧ σ1 26 0 = 0 ∧ σ1 26 1 = 0 ∧ σ1 26 2 = v ∧ σ1 26 3 = 0 ∧ σ1 26 4 = 0 ∧ σ1 26 5 = 0 ∧ σ1 26 6 = σ 26 6 := by
  unfold X7_beginAnew
  refine ⟨_, rfl, fun k hk => ?_, ?_, ?_, ?_, ?_, ?_, ?_, ?_⟩
  · rw [sU_ne hk, sU_ne hk, sU_ne hk, sU_ne hk, sU_ne hk, sU_ne hk]
  · rw [sUnj (by omega), sUnj (by omega), sUnj (by omega), sUnj (by omega), sUnj (by omega), sUv]
  · rw [sUnj (by omega), sUnj (by omega), sUnj (by omega), sUnj (by omega), sUv]
  · rw [sUnj (by omega), sUnj (by omega), sUnj (by omega), sUv]
  · rw [sUnj (by omega), sUnj (by omega), sUv]
  · rw [sUnj (by omega), sUv]
  · rw [sUv]
  · rw [sUnj (by omega), sUnj (by omega), sUnj (by omega), sUnj (by omega), sUnj (by omega), sUnj (by omega)]
theorem Ent_new {σ y : sM} {P n st : Nat} {S S' : Nat → Nat → Prop} (h : Ent σ P n st S) (e : y P = σ P) : Ent y P n (st + 1) S' := by
  intro i hi
  obtain ⟨a, b, h1, h2, h3, h4⟩ := h i hi
  exact ⟨a, b, by rw [e]; exact h1, h2, by omega, fun z => absurd z (by omega)⟩
theorem MO_new {c c' : cC} {j r p st o P : Nat} {x : List Nat} {σ y : sM} (h : MO c j r p st o P x σ) (hX : RelX c' y) (h1 : y o 1 = σ o 1) (h2 : y o 2 = σ o 2) (h3 : y o 4 = ((un c' 3 : Nat) : Int)) (hS : Shr c' (shC o) y) (h4 : y o 5 = σ o 5 + 1) (p0 : y P = σ P) (p1 : y (P + 1) = σ (P + 1)) (p2 : y (P + 2) = σ (P + 2)) : MO c' (j + 1) r p (st + 1) o P x y := by
  obtain ⟨m1, m2, m3, m4, m5, m6, m7, n1, n2, n3, n4, n5, n6, n7, n8⟩ := h
  exact ⟨m1, m2, by omega, m4, m5, m6, m7, hX, by rw [h1]; exact n2, by rw [h2]; exact n3, ⟨h3, hS⟩, by rw [h4, n5]; omega, Ent_new n6 p0, Ent_new n7 p1, Ent_new n8 p2⟩
theorem s_cellar {c : cC} {j : Nat} {q : qT} {x : List Nat} {t a s p F : Nat} {g k l : Int} {σ : sM} (h : Jn c j q x t a s p g k l σ) (hF : 500 ≤ F) : Stq (j + 20) q x (X8_cellar F σ) (fun τ => X9_cellar F τ) := by
  obtain ⟨hc, hX, hM, hW, hm, hV, hT, hI, hE, hB', hTh, htr⟩ := id h
  obtain ⟨n, hn, ht1, ht2, hb⟩ := hT
  have hBt : Bt (σ 1) n := ⟨hn, fun i hi => (hb i hi).2⟩
  obtain ⟨σa, N, e1, hC, hY, hf⟩ := e_readPre (F := F) (b := σ 1) (n := n) (σ := σ) hF hBt (fun i hi => rfl)
  have hN : N ≤ n := hC.1.1
  rcases loopJ (B := rfB F) hF hBt (fun K k τ it => rfB_i K k τ it) _ 0 0 d0 σa rfl (by omega) hC d0_ok hY with ⟨σ1, d', it', A1, A2, A3, A4, A5, A6⟩ | ⟨σ1, k', A1, A3, A6⟩
  · have B1 := A1 F (by omega)
    obtain ⟨σ2, e2, X2, f2⟩ := e_becomeLike (σ := sU σ1 0 1 0) hF A4 (A5.congr A4 (fun k a1 a2 => sU_ne (by omega)))
    have e3 := e_startStand (F := F) (by omega) A4 X2
    generalize hs0 : en (cZ d' 0) 0 (cZ d' 1) 0 (cZ d' 2) 0 = s0 at e3
    obtain ⟨σ3, e4, f3, w0, w1, w2, w3, w4, w5, w6⟩ := e_bgn (σ := σ2) (s0 : Int)
    obtain ⟨σ5, e5, f5, th1, th2⟩ := e_beginT (F := F) (σ := sU (sU σ3 27 7 0) 28 7 0) 0 (by omega)
    have X5 : RelX d' σ5 := X2.congr A4 (fun k a1 a2 => by rw [f5 k (by omega) (by omega), sU_ne (by omega), sU_ne (by omega), f3 k (by omega)])
    obtain ⟨σ6, e6, f6', o1, o2, o3, o4, oS⟩ := e_fgt (F := F) (o := 29) A4 X5 (by omega) (by omega)
    have f6 : ∀ k, k ≠ 29 → k ≠ 86 → σ6 k = σ5 k := f6'
    have X6 : RelX d' σ6 := X5.congr A4 (fun k a1 a2 => f6 k (by omega) (by omega))
    obtain ⟨σ7, e7, f7', u1, u2, u3, u4, uS⟩ := e_fgt (F := F) (o := 33) A4 X6 (by omega) (by omega)
    have f7 : ∀ k, k ≠ 33 → k ≠ 87 → σ7 k = σ6 k := f7'
    have eX : X8_cellar F σ = some ((it' : Int), sU σ7 37 11 0) := by
      unfold X8_cellar
      rw [ht1, e1, B1, bn_some, if_pos (by rw [wiN (by omega)]; omega), e2, bn_some, e3, bp_some, e4, bn_some, e5, bn_some, e6, bn_some, e7, bn_some]
      unfold X0_forgetAll
      rw [bn_some]
    -- frames of the class
    have g2 : ∀ k, k = 1 ∨ 26 ≤ k → σ2 k = σ k := fun k hk => by rw [f2 k (by omega), sU_ne (by omega), A3 k (by omega), hf k (by omega)]
    have g5 : ∀ k, k ≠ 26 → k ≠ 27 → k ≠ 28 → k ≠ 49 → k ≠ 51 → σ5 k = σ2 k := fun k a1 a2 a3 a4 a5 => by rw [f5 k a4 a5, sU_ne a3, sU_ne a2, f3 k a1]
    have g7 : ∀ k, k ≠ 26 → k ≠ 27 → k ≠ 28 → k ≠ 29 → k ≠ 33 → k ≠ 37 → k ≠ 49 → k ≠ 51 → k ≠ 86 → k ≠ 87 → (sU σ7 37 11 0) k = σ2 k := fun k a1 a2 a3 a4 a5 a6 a7 a8 a9 b1 => by rw [sU_ne a6, f7 k a5 b1, f6 k a4 a9, g5 k a1 a2 a3 a7 a8]
    generalize hsx : sU σ7 37 11 0 = σx at eX g7
    have x26 : σx 26 = σ3 26 := by rw [← hsx, sU_ne (by omega), f7 26 (by omega) (by omega), f6 26 (by omega) (by omega), f5 26 (by omega) (by omega), sU_ne (by omega), sU_ne (by omega)]
    have x27 : σx 27 7 = 0 := by rw [← hsx, sU_ne (by omega), f7 27 (by omega) (by omega), f6 27 (by omega) (by omega), f5 27 (by omega) (by omega), sU_ne (by omega), sUv]
    have x28 : σx 28 7 = 0 := by rw [← hsx, sU_ne (by omega), f7 28 (by omega) (by omega), f6 28 (by omega) (by omega), f5 28 (by omega) (by omega), sUv]
    have x29 : σx 29 = σ6 29 := by rw [← hsx, sU_ne (by omega), f7 29 (by omega) (by omega)]
    have x33 : σx 33 = σ7 33 := by rw [← hsx, sU_ne (by omega)]
    have x37 : σx 37 11 = 0 := by rw [← hsx, sUv]
    have x49 : σx 49 = σ5 49 := by rw [← hsx, sU_ne (by omega), f7 49 (by omega) (by omega), f6 49 (by omega) (by omega)]
    have x51 : σx 51 = σ5 51 := by rw [← hsx, sU_ne (by omega), f7 51 (by omega) (by omega), f6 51 (by omega) (by omega)]
    have y29 : σ5 29 = σ 29 := by rw [g5 29 (by omega) (by omega) (by omega) (by omega) (by omega), g2 29 (by omega)]
    have y33 : σ6 33 = σ 33 := by rw [f6 33 (by omega) (by omega), g5 33 (by omega) (by omega) (by omega) (by omega) (by omega), g2 33 (by omega)]
    have x86 : σx 86 = σ6 86 := by rw [← hsx, sU_ne (by omega), f7 86 (by omega) (by omega)]
    have x87 : σx 87 = σ7 87 := by rw [← hsx, sU_ne (by omega)]
    have xo : ∀ k, k = 1 ∨ 30 ≤ k → k ≠ 33 → k ≠ 37 → k ≠ 49 → k ≠ 51 → k ≠ 86 → k ≠ 87 → σx k = σ k := fun k hk a1 a2 a3 a4 a5 a6 => by rw [g7 k (by omega) (by omega) (by omega) (by omega) a1 a2 a3 a4 a5 a6, g2 k (by omega)]
    have x0 : σx 0 1 = 0 := by rw [g7 0 (by omega) (by omega) (by omega) (by omega) (by omega) (by omega) (by omega) (by omega) (by omega) (by omega), f2 0 (by omega), sUv]
    clear hsx
    -- the reference
    have hRt : Rt (σ 1) n σx := ⟨by rw [xo 55 (by omega) (by omega) (by omega) (by omega) (by omega) (by omega) (by omega)]; exact ht2, fun i hi => by rw [xo 56 (by omega) (by omega) (by omega) (by omega) (by omega) (by omega) (by omega)]; exact (hb i hi).1.symm⟩
    obtain ⟨r0, m1, m2, m3, m4⟩ := f_readPre (F := F) hF hBt hRt
    obtain ⟨τ', t1, t2, t3, t4, t5⟩ := A6 r0 m2 m3
    obtain ⟨K, hK⟩ := t5 F (by omega)
    obtain ⟨y, yE, y1, y2, y3, y4, y5, y6, y7, y8, y9, y10, y11, y12, y13, y14⟩ := f_rfC (it' : Int) hF A4 t4
    have eY : X9_cellar F σx = some ((it' : Int), y) := by rw [m1, hK, rfB_y K τ' _ t2 t3, yE]
    have fy : ∀ k, k < 55 ∨ 86 ≤ k → y k = σx k := fun k hk => by
      rw [y14 k hk]; exact funext fun j => by rw [t1 k j (by omega), m4 k j (by omega)]
    have fy2 : ∀ k j, 66 ≤ k → τ' k j = σx k j := fun k j hk => by rw [t1 k j (by omega), m4 k j (by omega)]
    have hXy : RelX d' y := X2.congr A4 (fun k a1 a2 => by rw [fy k (by omega), g7 k (by omega) (by omega) (by omega) (by omega) (by omega) (by omega) (by omega) (by omega) (by omega) (by omega)])
    have zc0 := cZ_lt A4 0
    have zc1 := cZ_lt A4 1
    have zc2 := cZ_lt A4 2
    obtain ⟨v1, v2, v3, v4, v5, v6⟩ := en_po zc0 (show 0 < 4 by omega) zc1 (show 0 < 4 by omega) zc2 (show 0 < 4 by omega)
    rw [hs0] at v1 v2 v3 v4 v5 v6
    have pz : ∀ w, w < 3 → po s0 w = cZ d' w ∧ sp s0 w = 0 := fun w hw => by
      rcases (show w = 0 ∨ w = 1 ∨ w = 2 by omega) with rfl | rfl | rfl
      · exact ⟨v1, v2⟩
      · exact ⟨v3, v4⟩
      · exact ⟨v5, v6⟩
    have cW3 := A4.2.1
    have cK1 := A4.2.2.1
    refine ⟨_, _, _, _, eX, eY, rfl, d', 0, 0, s0, 0, 0, 0, l, A4, hXy, y1, ?_, ?_, ⟨⟨?_, fun w hw => by rw [(pz w hw).1]; omega⟩, by omega, by omega, Or.inl rfl⟩, ⟨0, by omega, ?_, y11, fun i hi => absurd hi (by omega)⟩, ?_, ?_, ?_, ?_, ?_⟩
    · unfold WX
      rw [fy 26 (by omega), x26]
      exact ⟨w0, w1, w2, w3, w4, w5, by rw [w6, g2 26 (by omega)]; exact hW.2.2.2.2.2.2⟩
    · refine ⟨y2, y3, y4, y5, ?_, fun w hw => ?_⟩
      · rw [y13, fy2 70 0 (by omega), xo 70 (by omega) (by omega) (by omega) (by omega) (by omega) (by omega) (by omega)]; exact hm.2.2.2.2.1
      · obtain ⟨z1, z2, z3⟩ := y6 w hw
        have hw3 : w < 3 := by omega
        rw [show 3 * 0 + w = w by omega, (pz w hw3).1, (pz w hw3).2]
        refine ⟨z1, z2, ?_⟩
        rw [z3]; unfold stp; rw [Nat.zero_div]; rfl
    · rw [← hs0]
      unfold en
      have k0 := A4.2.2.2.2.2.1 0
      have k1 := A4.2.2.2.2.2.1 1
      have k2 := A4.2.2.2.2.2.1 2
      rcases (show cW d' = 0 ∨ cW d' = 1 ∨ cW d' = 2 ∨ cW d' = 3 by omega) with w | w | w | w
      · have := k0 (by omega); have := k1 (by omega); have := k2 (by omega)
        rw [w]; show _ < 1; omega
      · have := k1 (by omega); have := k2 (by omega)
        rw [w]; show _ < 16; omega
      · have := k2 (by omega)
        rw [w]; show _ < 256; omega
      · rw [w]; show _ < 4096; omega
    · rw [fy 0 (by omega)]; exact x0
    · intro i hi
      rcases (show i = 0 ∨ i = 1 by omega) with rfl | rfl
      · exact ⟨0, by rw [fy 27 (by omega)]; exact x27, y7, Or.inl rfl⟩
      · exact ⟨0, by rw [show 27 + 1 = 28 from rfl, fy 28 (by omega)]; exact x28, y8, Or.inl rfl⟩
    · obtain ⟨r, p', st, r', p'', st', P, P', b1, b2', b3, b4, b5, b6⟩ := hE
      have q1 := b2'.2.2.2.1
      have q2 := b3.2.2.2.1
      have yo : ∀ k, 30 ≤ k ∧ k ≤ 32 ∨ 34 ≤ k ∧ k ≤ 36 ∨ 88 ≤ k → y k = σ k := fun k hk => by rw [fy k (by omega), xo k (by omega) (by omega) (by omega) (by omega) (by omega) (by omega) (by omega)]
      refine ⟨r, p', st + 1, r', p'', st' + 1, P, P', b1, (MO_new b2' hXy ?_ ?_ ?_ ?_ ?_ (yo _ (by omega)) (yo _ (by omega)) (yo _ (by omega))).mono (by omega), (MO_new b3 hXy ?_ ?_ ?_ ?_ ?_ (yo _ (by omega)) (yo _ (by omega)) (yo _ (by omega))).mono (by omega), b4, b5, b6⟩
      · rw [fy 29 (by omega), x29, o1, y29]
      · rw [fy 29 (by omega), x29, o2, y29]
      · rw [fy 29 (by omega), x29, o3]
      · exact oS.congr (show y 86 = σ6 86 by rw [fy 86 (by omega), x86])
      · rw [fy 29 (by omega), x29, o4, y29]
      · rw [fy 33 (by omega), x33, u1, y33]
      · rw [fy 33 (by omega), x33, u2, y33]
      · rw [fy 33 (by omega), x33, u3]
      · exact uS.congr (show y 87 = σ7 87 by rw [fy 87 (by omega), x87])
      · rw [fy 33 (by omega), x33, u4, y33]
    · exact Or.inl (by rw [fy 37 (by omega)]; exact x37)
    · refine Th_new 0 ?_ ?_ y9 (fun k hk => ?_) y10
      · by_cases w : 0 < cS d'
        · exact Or.inl w
        · exact Or.inr ⟨rfl, by omega⟩
      · rw [fy 49 (by omega), x49]; exact th1
      · rw [fy 51 (by omega), x51]; exact th2 k hk
    · rw [fy 54 (by omega), y12, t1 55 0 (by omega), m4 55 0 (by omega), xo 54 (by omega) (by omega) (by omega) (by omega) (by omega) (by omega) (by omega), xo 55 (by omega) (by omega) (by omega) (by omega) (by omega) (by omega) (by omega)]
      exact htr
  · have B1 := A1 F (by omega)
    have hp := pP_le (σ 1) n k'
    have eX : X8_cellar F σ = some ((-10) - (pP (σ 1) n k' : Int), σ1) := by
      unfold X8_cellar
      rw [ht1, e1, B1, bn_some, if_neg (by rw [wi_id (by omega) (by omega)]; omega)]
    have xo : ∀ k, k < 12 ∨ k = 13 ∨ 26 ≤ k → σ1 k = σ k := fun k hk => by rw [A3 k hk, hf k hk]
    have hRt : Rt (σ 1) n σ1 := ⟨by rw [xo 55 (by omega)]; exact ht2, fun i hi => by rw [xo 56 (by omega)]; exact (hb i hi).1.symm⟩
    obtain ⟨r0, m1, m2, m3, m4⟩ := f_readPre (F := F) hF hBt hRt
    obtain ⟨τ', it', t1, t2, t5⟩ := A6 r0 m2 m3
    obtain ⟨K, hK⟩ := t5 F (by omega)
    have eY : X9_cellar F σ1 = some ((-10) - (pP (σ 1) n k' : Int), τ') := by rw [m1, hK, rfB_n hBt K τ' _ t2]
    refine ⟨_, _, _, _, eX, eY, rfl, (h.rdg (fun k j hk => ?_)).mono (by omega)⟩
    rw [t1 k j (by omega), m4 k j (by omega), xo k (by omega)]
