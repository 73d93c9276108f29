theorem uPd_pos {c : cC} {G : Nat → Nat → Nat → Nat} {f n : Nat} (m : Nat) : ∀ (s : Nat) (cu : Nat → Nat) (sum : Nat) (pa : Nat → Nat) (b : Int × (Nat → Nat)), 0 ≤ (uPd c G f n m s cu sum pa b).1 := by
  induction m with
  | zero =>
    intro s cu sum pa b
    show 0 ≤ (if b.1 < (sum : Int) then ((sum : Int), pa) else b).1
    by_cases y : b.1 < (sum : Int)
    · rw [if_pos y]; simp only []; omega
    · rw [if_neg y]; omega
  | succ m ih => intro s cu sum pa b; rw [uPd_suc]; exact ih _ _ _ _ _
theorem Tbw.congr {c : cC} {p s t w : Nat} {σ σ' : sM} (hc : OkC c) (h : Tbw c p s t w σ) (he : ∀ i, w * 64 ≤ i → i < w * 64 + 64 → σ' 42 i = σ 42 i) : Tbw c p s t w σ' := by
  have c5 := hc.2.2.1
  refine ⟨fun h1 u h2 h3 => ?_, fun h1 cu u h2 h3 h4 => ?_⟩
  · rw [he _ (by omega) (by omega)]; exact h.1 h1 u h2 h3
  · rw [he _ (by omega) (by omega)]; exact h.2 h1 cu u h2 h3 h4
theorem Nd_0 {c : cC} (s f : Nat) (hv : Vs c s) (hc : OkC c) : Nd c s f f s (cu0 c s) := by
  have c3 := hc.2.1
  intro w hw
  have := hv.2 w (by omega)
  unfold cu0
  refine ⟨Nat.le_refl _, ?_⟩
  by_cases y : po s w < cZ c w
  · rw [if_pos y]; exact Or.inr (Or.inl ⟨rfl, y⟩)
  · rw [if_neg y]; exact Or.inl ⟨rfl, by omega, by omega⟩
theorem e_lookFrom {c : cC} {t a s p F : Nat} {g k l : Int} {σ : sM} (hc : OkC c) (hX : RelX c σ) (hW : WX 26 t a s p g k l σ) (hV : VW c t a s p) (hBl : Bl c σ) (hF : 200 ≤ F) : ∃ σ1, X0_lookFrom F σ = some (0, σ1) ∧ (∀ k, k < 37 ∨ 46 < k → σ1 k = σ k) ∧ Bl c σ1 ∧ BlOk c t a s p σ1 := by
  have c3 := hc.2.1
  have c5 := hc.2.2.1
  have hs := hV.1.lt hc
  have hp := hV.2.1
  have ht := hV.2.2.1
  have ha : a < 2 := by have := hV.2.2.2; omega
  have hfk : t + a ≤ cK c := by have := hV.2.2.2; omega
  obtain ⟨w1, w2, w3, w4, w5, w6, w7⟩ := hW
  -- the work itself
  have work : ∀ σ8 : sM, (∀ k, k ≠ 37 → σ8 k = σ k) → σ8 37 11 = 1 → σ8 37 12 = (t : Int) → σ8 37 13 = (a : Int) → σ8 37 14 = (s : Int) → σ8 37 15 = (p : Int) → σ8 37 10 = ((t + a : Nat) : Int) → σ8 37 9 = ((cK c - (t + a) : Nat) : Int) → ∃ σ1, bn (J7_fill_53178 F 42 192 σ8 0) (fun r10 σ12 => lp (fun K14 (q13 : sM × Int) => if wi (q13.1 2 6) ≤ wi q13.2 then bn (X0_tellMost F q13.1) (fun r17 σ19 => bn (SEA F 12 0 (sU σ19 37 8 (-1)) ((sU σ19 37 8 (-1)) 37 10) (σ19 26 2) 0) (fun r20 σ22 => some ((0 : Int), σ22))) else if 3 ≤ wi q13.2 then bn (X0_tellMost F q13.1) (fun r17 σ19 => bn (SEA F 12 0 (sU σ19 37 8 (-1)) ((sU σ19 37 8 (-1)) 37 10) (σ19 26 2) 0) (fun r20 σ22 => some ((0 : Int), σ22))) else bn (X0_tellMeans F q13.1 q13.2) (fun r25 σ27 => K14 (σ27, q13.2 + 1))) F (σ12, 0)) = some ((0 : Int), σ1) ∧ (∀ k, k < 37 ∨ 46 < k → σ1 k = σ k) ∧ Bl c σ1 ∧ BlOk c t a s p σ1 := by
    intro σ8 h8 h11 h12 h13 h14 h15 h10 h9
    obtain ⟨σ9, e9, f9, z9, -⟩ := e_fill (F := F) (o := 42) (n := 192) (σ := σ8) 0 hF (by omega)
    rw [e9, bn_some]
    have hX9 : RelX c σ9 := hX.congr hc (fun k b1 b2 => by rw [f9 k (by omega), h8 k (by omega)])
    refine lp_inv (x := (σ9, 0)) (fun i (y : sM × Int) => y.2 = (i : Int) ∧ (∀ k, k ≠ 39 → k ≠ 41 → k ≠ 42 → k ≠ 44 → y.1 k = σ9 k) ∧ Mn y.1 ∧ ∀ w, w < i → 0 < po s w → Tbw c p s t w y.1 ∧ y.1 44 w = (if po s w < cZ c w then (t : Int) else -1)) (cW c) (fun (r : Option (Int × sM)) => ∃ σ1 : sM, r = some (0, σ1) ∧ (∀ k, k < 37 ∨ 46 < k → σ1 k = σ k) ∧ Bl c σ1 ∧ BlOk c t a s p σ1) (fun i y hi hI K => ?_) (fun y hI K => ?_) ⟨rfl, fun _ _ _ _ _ => rfl, fun i hi => ⟨0, z9 i hi, by omega⟩, fun w (hw : w < 0) => absurd hw (by omega)⟩ (by omega)
    · obtain ⟨τ, v⟩ := y
      obtain ⟨hv, hf, hmn, htb⟩ := hI
      simp only [] at hv hf hmn htb ⊢
      subst hv
      have hXτ : RelX c τ := hX9.congr hc (fun k b1 b2 => hf k (by omega) (by omega) (by omega) (by omega))
      have h37 : τ 37 = σ8 37 := by rw [hf 37 (by omega) (by omega) (by omega) (by omega), f9 37 (by omega)]
      obtain ⟨σ2, e2, f2, m2, t2, o2, q2⟩ := e_tellMeans (F := F) (t := t) (s := s) (p := p) hc hXτ (by omega) hi hV.1 hp ht (by rw [h37]; exact h12) (by rw [h37]; exact h14) (by rw [h37]; exact h15) hmn
      rw [hXτ.2.1, wiN (n := cW c) (by omega), wiN (n := i) (by omega), if_neg (by omega), if_neg (by omega), e2, bn_some]
      refine ⟨_, ⟨?_, fun k a1 a2 a3 a4 => ?_, m2, fun w hw hpw => ?_⟩, rfl⟩
      · simp only []; omega
      · simp only []; rw [f2 k a1 a2 a3 a4]; exact hf k a1 a2 a3 a4
      · simp only []
        by_cases y : w = i
        · subst y; exact t2 hpw
        · obtain ⟨u1, u2⟩ := htb w (by omega) hpw
          exact ⟨u1.congr hc (fun i' b1 b2 => o2 i' (by omega)), by rw [q2 w y]; exact u2⟩
    · obtain ⟨τ, v⟩ := y
      obtain ⟨hv, hf, hmn, htb⟩ := hI
      simp only [] at hv hf hmn htb ⊢
      subst hv
      have hXτ : RelX c τ := hX9.congr hc (fun k b1 b2 => hf k (by omega) (by omega) (by omega) (by omega))
      obtain ⟨σ10, Mf, e10, f10, r10, hMf⟩ := e_tellMost (F := F) hF hmn
      have h37 : σ10 37 = σ8 37 := by rw [f10 37 (by omega), hf 37 (by omega) (by omega) (by omega) (by omega), f9 37 (by omega)]
      rw [hXτ.2.1, if_pos (by omega), e10, bn_some, sUnj (by omega), h37, h10, f10 26 (by omega), hf 26 (by omega) (by omega) (by omega) (by omega), f9 26 (by omega), h8 26 (by omega), w3]
      have hS : Sst c p s t (t + a) Mf (sU σ10 37 8 (-1)) := by
        refine ⟨hXτ.congr hc (fun k b1 b2 => by rw [sU_ne (by omega), f10 k (by omega)]), by rw [sUnj (by omega), h37]; exact h10, fun w hw hpw => ?_, fun u hu => by rw [sU_ne (by omega)]; exact r10 u hu, ?_⟩
        · exact (htb w hw hpw).1.congr hc (fun i b1 b2 => by rw [sU_ne (by omega), f10 42 (by omega)])
        · unfold MfO at *
          rw [sU_ne (by omega), f10 42 (by omega)]
          exact hMf
      have hGM : ∀ u s' cu w, t + a ≤ u → u < (t + a) + (cK c - (t + a)) → Nd c s (t + a) u s' cu → mE c s' w → gn c p s t w (cuE cu w u w) u + Mf (u + 1) ≤ Mf u := by
        intro u s' cu w h1 h2 hN hm
        have hww := hm.1
        have hNw := hN w hww
        have hp0 : 0 < po s w := by have := hm.2.1; omega
        obtain ⟨en, -, hen2, -, hcs⟩ := enc_ok (t := t) (u := u) (w := w) (cu := cu) (f := t + a) (by omega) (by omega) (show cu w = 9 ∨ cu w = 8 ∨ cu w < 8 by omega)
        have hT := (htb w hww hp0).1
        refine hMf.2.2 u w en _ (by omega) (by omega) (by omega) ?_
        rcases hcs with q | q | q
        · rw [q.2.1, q.2.2]
          exact hT.2 (by omega) u u (by omega) (Nat.le_refl _) (by omega)
        · rw [q.2.1, q.2.2]
          exact hT.1 (by omega) u (by omega) (by omega)
        · rw [q.2.1, q.2.2]
          exact hT.2 (by omega) (cu w) u (by omega) (by omega) (by omega)
      have key := e_search (F := F) hc hV.1 (show t ≤ t + a by omega) (by omega) (show (t + a) + (cK c - (t + a)) = cK c by omega) hF hGM (cK c - (t + a)) 12 s (cu0 c s) 0 (fun _ => 0) (-1, fun _ => 0) (sU σ10 37 8 (-1)) (Nat.le_refl _) (by omega) hV.1 (by rw [Nat.sub_self, Nat.add_zero]; exact Nd_0 s (t + a) hV.1 hc) (by omega) (by decide) (by decide) hS (fun w hw hpw => by
        rw [sU_ne (by omega), f10 44 (by omega), (htb w hw hpw).2]
        unfold cu0 encX
        by_cases y : po s w < cZ c w
        · rw [if_pos y, if_pos y, if_neg (by decide), if_pos rfl]
        · rw [if_neg y, if_neg y, if_pos rfl]) (fun i hi => by omega) ⟨sUv, Or.inl rfl⟩
      rw [Nat.sub_self, Nat.add_zero] at key
      obtain ⟨σ', e', f', g44, g45, gB⟩ := key
      rw [show ((0 : Nat) : Int) = 0 from rfl] at e'
      rw [e', bn_some]
      have hpos := uPd_pos (c := c) (G := gn c p s t) (f := t + a) (n := cK c - (t + a)) (cK c - (t + a)) s (cu0 c s) 0 (fun _ => 0) (-1, fun _ => 0)
      have e37 : ∀ j, j ≠ 8 → σ' 37 j = σ8 37 j := fun j hj => by rw [f' 37 j (Or.inr hj) (by omega) (by omega) (by omega), sUnj hj, h37]
      have hok : BlOk c t a s p σ' := by
        refine ⟨by rw [e37 9 (by omega)]; exact h9, gB.1, ?_⟩
        rcases gB.2 with y | y
        · rw [y] at hpos; exact absurd hpos (by decide)
        · exact y
      refine ⟨σ', rfl, fun k hk => ?_, Or.inr ⟨by rw [e37 11 (by omega)]; exact h11, t, a, s, p, by rw [e37 12 (by omega)]; exact h12, by rw [e37 13 (by omega)]; exact h13, by rw [e37 14 (by omega)]; exact h14, by rw [e37 15 (by omega)]; exact h15, hV, hok⟩, hok⟩
      rw [f'.row (by omega), sU_ne (by omega), f10 k (by omega), hf k (by omega) (by omega) (by omega) (by omega), f9 k (by omega), h8 k (by omega)]
  unfold X0_lookFrom
  rw [jn_def]
  by_cases hkn : σ 37 11 = 1 ∧ σ 37 12 = (t : Int) ∧ σ 37 13 = (a : Int) ∧ σ 37 14 = (s : Int) ∧ σ 37 15 = (p : Int)
  · obtain ⟨k1, k2, k3, k4, k5⟩ := hkn
    rw [if_neg (show ¬ wi (σ 37 11) = 0 by rw [k1]; decide), if_neg (show ¬ ¬ wi (σ 37 12) = wi (σ 26 0) from fun h => h (by rw [k2, w1])), if_neg (show ¬ ¬ wi (σ 37 13) = wi (σ 26 1) from fun h => h (by rw [k3, w2])), if_neg (show ¬ ¬ wi (σ 37 14) = wi (σ 26 2) from fun h => h (by rw [k4, w3])), if_neg (show ¬ ¬ wi (σ 37 15) = wi (σ 26 3) from fun h => h (by rw [k5, w4]))]
    refine ⟨σ, rfl, fun _ _ => rfl, hBl, ?_⟩
    rcases hBl with hB | ⟨hB, t', a', s', p', b1, b2', b3, b4, b5, b6⟩
    · rw [hB] at k1; exact absurd k1 (by decide)
    · have y1 : t' = t := by rw [b1] at k2; omega
      have y2 : a' = a := by rw [b2'] at k3; omega
      have y3 : s' = s := by rw [b3] at k4; omega
      have y4 : p' = p := by rw [b4] at k5; omega
      subst y1 y2 y3 y4
      exact b6
  · have hch : ∀ (K : Option (Int × sM)), (if wi (σ 37 11) = 0 then K else if ¬ wi (σ 37 12) = wi (σ 26 0) then K else if ¬ wi (σ 37 13) = wi (σ 26 1) then K else if ¬ wi (σ 37 14) = wi (σ 26 2) then K else if ¬ wi (σ 37 15) = wi (σ 26 3) then K else some (0, σ)) = K := by
      intro K
      rcases hBl with hB | ⟨hB, t', a', s', p', b1, b2', b3, b4, b5, b6⟩
      · rw [if_pos (by rw [hB]; decide)]
      · have hs' := b5.1.lt hc
        have hp' := b5.2.1
        have ht' := b5.2.2.1
        have ha' : a' < 2 := by have := b5.2.2.2; omega
        rw [if_neg (show ¬ wi (σ 37 11) = 0 by rw [hB]; decide), b1, b2', b3, b4, w1, w2, w3, w4, wiN (n := t') (by omega), wiN (n := t) (by omega), wiN (n := a') (by omega), wiN (n := a) (by omega), wiN (n := s') (by omega), wiN (n := s) (by omega), wiN (n := p') (by omega), wiN (n := p) (by omega)]
        by_cases y1 : t' = t
        · rw [if_neg (fun h => h (by omega))]
          by_cases y2 : a' = a
          · rw [if_neg (fun h => h (by omega))]
            by_cases y3 : s' = s
            · rw [if_neg (fun h => h (by omega))]
              by_cases y4 : p' = p
              · exact absurd ⟨hB, by rw [b1, y1], by rw [b2', y2], by rw [b3, y3], by rw [b4, y4]⟩ hkn
              · rw [if_pos (by omega)]
            · rw [if_pos (by omega)]
          · rw [if_pos (by omega)]
        · rw [if_pos (by omega)]
    rw [hch]
    simp (disch := omega) only [jn_def, nm_def, sU_ne, sUv, w1, w2, w3, w4, hX.2.2.1]
    rw [if_pos (by rw [wiN (by omega)]; omega)]
    have nn : ∀ q6 : Int, q6 = ((t + a : Nat) : Int) → (if wi 0 < wi ((cK c : Int) - q6) then (cK c : Int) - q6 else 0) = ((cK c - (t + a) : Nat) : Int) := by
      intro q6 h
      subst h
      rw [wi_0, wi_id (z := (cK c : Int) - ((t + a : Nat) : Int)) (by omega) (by omega)]
      by_cases y : t + a < cK c
      · rw [if_pos (by omega)]; omega
      · rw [if_neg (by omega)]; omega
    rcases (show a = 0 ∨ a = 1 by omega) with z | z
    · rw [if_pos (by rw [z]; decide), nn (t : Int) (by omega)]
      refine work _ (fun k hk => ?_) ?_ ?_ ?_ ?_ ?_ ?_ ?_
      · simp (disch := omega) only [sU_ne]
      · simp (disch := omega) only [sUnj, sUv]
      · simp (disch := omega) only [sUnj, sUv]
      · simp (disch := omega) only [sUnj, sUv]
      · simp (disch := omega) only [sUnj, sUv]
      · simp (disch := omega) only [sUnj, sUv]
      · simp (disch := omega) only [sUnj, sUv]; omega
      · simp (disch := omega) only [sUv]
    · rw [if_neg (by rw [z]; decide), nn ((t : Int) + 1) (by omega)]
      refine work _ (fun k hk => ?_) ?_ ?_ ?_ ?_ ?_ ?_ ?_
      · simp (disch := omega) only [sU_ne]
      · simp (disch := omega) only [sUnj, sUv]
      · simp (disch := omega) only [sUnj, sUv]
      · simp (disch := omega) only [sUnj, sUv]
      · simp (disch := omega) only [sUnj, sUv]
      · simp (disch := omega) only [sUnj, sUv]
      · simp (disch := omega) only [sUnj, sUv]; omega
      · simp (disch := omega) only [sUv]
