theorem f_age {c : cC} {σ : sM} {F w p u b : Nat} (hc : OkC c) (hM : RelM c σ) (hP : RelP c p σ) (hF : 10 ≤ F) (hw : w < cW c) (hu : u < 1000) (hb : b < 2) {W : Nat → Nat} (hW : Wt 84 W σ) : ∃ σ1, X9_age F σ (w : Int) (b : Int) (u : Int) = some (0, σ1) ∧ (∀ m, m ≠ 84 → σ1 m = σ m) ∧ Wt 84 (ag (xr c p w (if b = 0 then 7 else 4) u) W) σ1 := by
  have c3 := hc.2.1
  have c4 := hc.1
  obtain ⟨hO, hz1, hz3⟩ := hc.2.2.2.2.1 w hw
  have hst := stp_lt p w
  have hle : ∀ k, xr c p w (if b = 0 then 7 else 4) u k ≤ 10 := fun k => xr_le _ _ _ _ _ _
  unfold X9_age
  refine lp_inv (fun m (y : sM × Int) => y.2 = 3 - (m : Int) ∧ (∀ k, k ≠ 84 → y.1 k = σ k) ∧ Wt 84 (fun k => if m = 0 then W k else ag1 (xr c p w (if b = 0 then 7 else 4) u) W (m - 1) k) y.1) 4 (fun (r : Option (Int × sM)) => ∃ σ1 : sM, r = some (0, σ1) ∧ (∀ m, m ≠ 84 → σ1 m = σ m) ∧ Wt 84 (ag (xr c p w (if b = 0 then 7 else 4) u) W) σ1) (fun m y hm' hJ K2 => ?_) (fun y hJ K2 => ?_) ⟨rfl, fun _ _ => rfl, hW⟩ (by omega)
  · obtain ⟨τ2, v⟩ := y
    obtain ⟨hv, hf2, hw2⟩ := hJ
    simp only [] at hv hf2 hw2 ⊢
    obtain ⟨k, hk⟩ : ∃ k, 3 - m = k := ⟨_, rfl⟩
    have hv' : v = (k : Int) := by omega
    subst hv'
    have hM2 : RelM c τ2 := hM.congr (fun k b1 b2 => hf2 k (by omega))
    have hP2 : RelP c p τ2 := hP.congr (hf2 73 (by omega))
    have h73 : τ2 73 w = (stp p w : Int) := hP2 w hw
    obtain ⟨h62, h63⟩ := hM2.2.2.2.2.1 w hw
    have hH := cH_le hc u
    have hl := hle k
    -- what goes
    have go : ∀ (J : Int → Option (Int × sM)), (jn (fun q4 : Int => bp (X9_goes τ2 (w : Int) (k : Int) q4 (u : Int)) (fun r6 => if 0 ≤ wi (w : Int) ∧ wi (w : Int) < 9 then jn (fun q9 : Int => jn (fun q11 : Int => jn (fun q13 : Int => J q13) (fun K14 => if wi (b : Int) = 0 then K14 q11 else K14 r6)) (fun K12 => if ¬ wi q9 = 0 then bp (X9_warmth τ2 (u : Int)) (fun r27 => if wi (q9 + r27) ≤ 10 then bp (X9_warmth τ2 (u : Int)) (fun r30 => K12 (q9 + r30)) else K12 10) else K12 0)) (fun K10 => jn (fun q32 : Unit => K10 0) (fun K33 => if ¬ wi (τ2 73 (wi (w : Int)).toNat) = 0 then K33 () else if ¬ wi (k : Int) = 3 then if 0 ≤ wi (w : Int) ∧ wi (w : Int) < 6 then if 0 ≤ wi (((14 * (τ2 62 (wi (w : Int)).toNat)) + 7) + (k : Int)) ∧ wi (((14 * (τ2 62 (wi (w : Int)).toNat)) + 7) + (k : Int)) < 112 then K10 (τ2 61 (wi (((14 * (τ2 62 (wi (w : Int)).toNat)) + 7) + (k : Int))).toNat) else none else none else K33 ())) else none)) (fun K5 => if wi (b : Int) = 0 then K5 0 else if 0 ≤ wi (w : Int) ∧ wi (w : Int) < 6 then K5 (τ2 63 (wi (w : Int)).toNat) else none)) = J (xr c p w (if b = 0 then 7 else 4) u k : Int) := by
      intro J
      simp only [jn_def]
      rw [wiN (n := w) (by omega), Int.toNat_natCast, h73, h62, h63, wiN (n := stp p w) (by omega), wiN (n := k) (by omega)]
      have hT := cT_le hc (cO c w) (7 + k)
      have hY : ∀ (J' : Int → Option (Int × sM)), (if ¬ ((stp p w : Nat) : Int) = 0 then (if ¬ wi 0 = 0 then bp (X9_warmth τ2 (u : Int)) (fun r27 => if wi (0 + r27) ≤ 10 then bp (X9_warmth τ2 (u : Int)) (fun r30 => J' (0 + r30)) else J' 10) else J' 0) else if ¬ (k : Int) = 3 then if 0 ≤ (w : Int) ∧ (w : Int) < 6 then if 0 ≤ wi (((14 * ((cO c w : Nat) : Int)) + 7) + (k : Int)) ∧ wi (((14 * ((cO c w : Nat) : Int)) + 7) + (k : Int)) < 112 then (if ¬ wi (τ2 61 (wi (((14 * ((cO c w : Nat) : Int)) + 7) + (k : Int))).toNat) = 0 then bp (X9_warmth τ2 (u : Int)) (fun r27 => if wi ((τ2 61 (wi (((14 * ((cO c w : Nat) : Int)) + 7) + (k : Int))).toNat) + r27) ≤ 10 then bp (X9_warmth τ2 (u : Int)) (fun r30 => J' ((τ2 61 (wi (((14 * ((cO c w : Nat) : Int)) + 7) + (k : Int))).toNat) + r30)) else J' 10) else J' 0) else none else none else (if ¬ wi 0 = 0 then bp (X9_warmth τ2 (u : Int)) (fun r27 => if wi (0 + r27) ≤ 10 then bp (X9_warmth τ2 (u : Int)) (fun r30 => J' (0 + r30)) else J' 10) else J' 0)) = J' (xr c p w 7 u k : Int) := by
        intro J'
        unfold xr
        by_cases q1 : stp p w = 1
        · rw [if_pos (by omega), if_neg (by decide), if_pos (Or.inl q1)]; rfl
        · rw [if_neg (by omega)]
          by_cases q2 : k = 3
          · rw [if_neg (by omega), if_neg (by decide), if_pos (Or.inr (by omega))]; rfl
          · rw [if_pos (by omega), if_pos (by omega), show (14 : Int) * ((cO c w : Nat) : Int) + 7 + (k : Int) = ((14 * cO c w + (7 + k) : Nat) : Int) by push_cast; omega, wiN (n := 14 * cO c w + (7 + k)) (by omega), if_pos (by omega), Int.toNat_natCast, hM2.2.2.2.2.2.2 _ hO (7 + k) (by omega), wiN (n := cT c (cO c w) (7 + k)) (by omega), f_warmth hM2 hc hu, bp_some, bp_some, if_neg (show ¬ (stp p w = 1 ∨ 3 ≤ k) by omega)]
            unfold tq
            by_cases q3 : cT c (cO c w) (7 + k) = 0
            · rw [if_neg (by omega), if_pos q3]; rfl
            · rw [if_pos (by omega), if_neg q3, wi_id (z := (cT c (cO c w) (7 + k) : Int) + (cH c u : Int)) (by omega) (by omega)]
              by_cases q4 : cT c (cO c w) (7 + k) + cH c u ≤ 10
              · rw [if_pos (by omega)]; congr 1; omega
              · rw [if_neg (by omega)]; congr 1; omega
      rcases (show b = 0 ∨ b = 1 by omega) with e | e
      · subst e
        have g0 := f_goes hM2 hc hP2 hw (k := k) (b := 0) (t := u) (by omega) (by omega) hu
        rw [show ((0 : Nat) : Int) = 0 from rfl] at g0
        rw [if_pos (by decide), g0, bp_some, if_pos (by omega), if_pos rfl]
        simp only [if_pos (show wi ((0 : Nat) : Int) = 0 by decide)]
        exact hY J
      · subst e
        have g0 := f_goes hM2 hc hP2 hw (k := k) (b := cZ c w) (t := u) (by omega) (by omega) hu
        rw [if_neg (by decide), if_pos (by omega), g0, bp_some, if_pos (by omega), if_neg (show ¬ (1 : Nat) = 0 by decide)]
        simp only [if_neg (show ¬ wi ((1 : Nat) : Int) = 0 by decide)]
        rw [hY (fun _ => J (rg c p w k (cZ c w) u : Int))]
        congr 2
        unfold rg xr
        by_cases q1 : stp p w = 1 ∨ 3 ≤ k
        · rw [if_pos (by omega), if_pos q1]
        · rw [if_neg (by omega), if_neg q1, if_pos rfl]
    rw [if_neg (show ¬ wi (k : Int) < 0 by rw [wiN (by omega)]; omega)]
    have g1 := go (fun q13 => jn (fun q15 : sM => if 0 ≤ wi (k : Int) ∧ wi (k : Int) < 4 then if 0 ≤ wi (k : Int) ∧ wi (k : Int) < 4 then K2 ((sU q15 84 (wi (k : Int)).toNat ((q15 84 (wi (k : Int)).toNat) * (wi (10 - q13)))), (k : Int) + (-1)) else none else none) (fun K16 => if 3 ≤ wi (k : Int) then K16 τ2 else if 0 ≤ wi ((k : Int) + 1) ∧ wi ((k : Int) + 1) < 4 then if 0 ≤ wi (k : Int) ∧ wi (k : Int) < 4 then if 0 ≤ wi ((k : Int) + 1) ∧ wi ((k : Int) + 1) < 4 then nm (sU τ2 84 (wi ((k : Int) + 1)).toNat ((τ2 84 (wi ((k : Int) + 1)).toNat) + ((τ2 84 (wi (k : Int)).toNat) * (wi q13)))) (fun σ23 => K16 σ23) else none else none else none))
    rw [g1]
    simp only [jn_def, nm_def]
    rw [wiN (n := k) (by omega), wiN (n := xr c p w (if b = 0 then 7 else 4) u k) (by omega), show (10 : Int) - (xr c p w (if b = 0 then 7 else 4) u k : Int) = ((10 - xr c p w (if b = 0 then 7 else 4) u k : Nat) : Int) by omega, wiN (n := 10 - xr c p w (if b = 0 then 7 else 4) u k) (by omega), Int.toNat_natCast]
    have hx3 := xr_3 c p w (if b = 0 then 7 else 4) u
    generalize xr c p w (if b = 0 then 7 else 4) u = x at *
    rcases Nat.eq_zero_or_pos m with m0 | m0
    · subst m0
      have k3 : k = 3 := by omega
      subst k3
      have hw0 : Wt 84 W τ2 := hw2
      rw [if_pos (by omega), if_pos (by omega), if_pos (by omega), hw0 3 (by omega)]
      refine ⟨_, ⟨?_, fun k hk => ?_, fun k hk => ?_⟩, rfl⟩
      · simp only []; omega
      · simp only []; rw [sU_ne hk]; exact hf2 k hk
      · simp only []
        show _ = ((ag1 x W 0 k : Nat) : Int)
        rw [ag1_0 x W hk]
        by_cases q1 : k = 3
        · subst q1
          rw [sUv, if_pos rfl, Int.natCast_mul]
        · rw [sUnj q1, if_neg q1, hw0 k hk]
    · obtain ⟨m', rfl⟩ : ∃ m', m = m' + 1 := ⟨m - 1, by omega⟩
      have hk2 : k = 2 - m' := by omega
      subst hk2
      rw [show ((2 - m' : Nat) : Int) + 1 = ((3 - m' : Nat) : Int) by omega, wiN (n := 3 - m') (by omega), Int.toNat_natCast]
      rw [if_neg (by omega)]
      simp only [if_pos (show 0 ≤ ((3 - m' : Nat) : Int) ∧ ((3 - m' : Nat) : Int) < 4 by omega), if_pos (show 0 ≤ ((2 - m' : Nat) : Int) ∧ ((2 - m' : Nat) : Int) < 4 by omega)]
      rw [hw2 (3 - m') (by omega), hw2 (2 - m') (by omega), sUnj (by omega), hw2 (2 - m') (by omega)]
      refine ⟨_, ⟨?_, fun k hk => ?_, fun k hk => ?_⟩, rfl⟩
      · simp only []; omega
      · simp only []; rw [sU_ne hk, sU_ne hk]; exact hf2 k hk
      · simp only []
        show _ = ((ag1 x W (m' + 1) k : Nat) : Int)
        by_cases q1 : k = 2 - m'
        · subst q1
          rw [sUv, ag1_a x W (by omega), Int.natCast_mul]
          rfl
        · rw [sUnj q1]
          by_cases q2 : k = 3 - m'
          · subst q2
            rw [sUv, ag1_b x W (by omega), Int.natCast_add, Int.natCast_mul]
            rfl
          · rw [sUnj q2, hw2 k hk, ag1_c x W (by omega) q1 q2]
            rfl
  · obtain ⟨τ2, v⟩ := y
    obtain ⟨hv, hf2, hw2⟩ := hJ
    simp only [] at hv hf2 hw2 ⊢
    subst hv
    rw [if_pos (by decide)]
    exact ⟨_, rfl, hf2, fun k hk => by rw [hw2 k hk, ← ag1_3 _ W hk]; rfl⟩
theorem f_gainOf {c : cC} {t a s p F w cu T : Nat} {g k l : Int} {σ : sM} (hc : OkC c) (hM : RelM c σ) (hm : WM c 0 t a s p g k l σ) (hV : VW c t a s p) (hF : 200 ≤ F) (hw : w < cW c) (hcu : cu ≤ 8) (hT : t ≤ T) (hT8 : T ≤ 8) : ∃ σ2, X9_gainOf F σ (w : Int) (cu : Int) (T : Int) = some ((gn c p s t w cu T : Int), σ2) ∧ (∀ m, m ≠ 84 → σ2 m = σ m) := by
  have c3 := hc.2.1
  have c5 := hc.2.2.1
  have hsp := sp_lt s w
  unfold X9_gainOf
  refine lp_inv (fun i (y : sM × Int) => y.2 = (i : Int) ∧ (∀ m, m ≠ 84 → y.1 m = σ m) ∧ ∀ v, v < i → y.1 84 v = ((if v = sp s w then 1 else 0 : Nat) : Int)) 4 (fun (r : Option (Int × sM)) => ∃ σ2 : sM, r = some ((gn c p s t w cu T : Int), σ2) ∧ (∀ m, m ≠ 84 → σ2 m = σ m)) (fun i y hi hI K => ?_) (fun y hI K => ?_) ⟨rfl, fun _ _ => rfl, fun v hv => absurd hv (by omega)⟩ (by omega)
  · obtain ⟨τ, u⟩ := y
    obtain ⟨hu, hf, hr⟩ := hI
    simp only [] at hu hf hr ⊢
    subst hu
    rw [if_neg (show ¬ 4 ≤ wi (i : Int) by rw [wiN (by omega)]; omega)]
    have h71 : τ 71 w = (sp s w : Int) := by rw [hf 71 (by omega)]; exact (hm.at0 hw).1
    simp only [jn_def, wiN (n := w) (show w < 2 ^ 31 by omega), Int.toNat_natCast, h71]
    by_cases q : i = sp s w
    · simp (disch := omega) only [b2_if0, b2_ifn, b2_if1, jn_def, nm_def, bp_some, bn_some, wiZ, wlZ, wiD, if_pos, if_neg, if_true, if_false, not_true_eq_false, not_false_eq_true, Int.toNat_natCast]
      refine ⟨_, ⟨?_, fun m hm => ?_, fun v hv => ?_⟩, rfl⟩
      · simp only []; omega
      · simp only []; rw [sU_ne hm]; exact hf m hm
      · simp only []
        by_cases y : v = i
        · subst y; rw [sUv, if_pos q]; rfl
        · rw [sUnj y]; exact hr v (by omega)
    · simp (disch := omega) only [b2_if0, b2_ifn, b2_if1, jn_def, nm_def, bp_some, bn_some, wiZ, wlZ, wiD, if_pos, if_neg, if_true, if_false, not_true_eq_false, not_false_eq_true, Int.toNat_natCast]
      refine ⟨_, ⟨?_, fun m hm => ?_, fun v hv => ?_⟩, rfl⟩
      · simp only []; omega
      · simp only []; rw [sU_ne hm]; exact hf m hm
      · simp only []
        by_cases y : v = i
        · subst y; rw [sUv, if_neg q]; rfl
        · rw [sUnj y]; exact hr v (by omega)
  · obtain ⟨τ, u⟩ := y
    obtain ⟨hu, hf, hr⟩ := hI
    simp only [] at hu hf hr ⊢
    subst hu
    rw [if_pos (by decide), hf 66 (by omega), hm.1]
    refine lp_inv (fun i (y : sM × Int × Int) => y.2.2 = ((t + i : Nat) : Int) ∧ y.2.1 = ((10 ^ i : Nat) : Int) ∧ (∀ m, m ≠ 84 → y.1 m = σ m) ∧ Wt 84 (gw c p s w cu t i) y.1) (T - t) (fun (r : Option (Int × sM)) => ∃ σ2 : sM, r = some ((gn c p s t w cu T : Int), σ2) ∧ (∀ m, m ≠ 84 → σ2 m = σ m)) (fun i y hi hI K1 => ?_) (fun y hI K1 => ?_) ⟨rfl, rfl, hf, hr⟩ (by omega)
    · obtain ⟨τ1, d, u⟩ := y
      obtain ⟨hu, hd, hf1, hw1⟩ := hI
      simp only [] at hu hd hf1 hw1 ⊢
      subst hu hd
      have hM1 : RelM c τ1 := hM.congr (fun k b1 b2 => hf1 k (by omega))
      have hP1 : RelP c p τ1 := hm.relP.congr (hf1 73 (by omega))
      simp only [jn_def]
      rw [if_neg (by rw [wiN (by omega), wiN (by omega)]; omega), wiN (n := cu) (by omega), wiN (n := t + i) (by omega)]
      have fin : ∀ b : Nat, b < 2 → (if b = 0 then 7 else 4) = (if cu < 8 ∧ t + i < cu then 4 else 7) → ∃ x' : sM × Int × Int, (x'.2.2 = ((t + (i + 1) : Nat) : Int) ∧ x'.2.1 = ((10 ^ (i + 1) : Nat) : Int) ∧ (∀ m, m ≠ 84 → x'.1 m = σ m) ∧ Wt 84 (gw c p s w cu t (i + 1)) x'.1) ∧ (bn (X9_age F τ1 (w : Int) (b : Int) ((t + i : Nat) : Int)) fun r16 σ18 => K1 (σ18, ((10 ^ i : Nat) : Int) * 10, ((t + i : Nat) : Int) + 1)) = K1 x' := by
        intro b hb hz
        obtain ⟨σ3, e3, f3, r3⟩ := f_age (F := F) (b := b) (u := t + i) hc hM1 hP1 (by omega) hw (by omega) hb hw1
        rw [e3, bn_some]
        refine ⟨_, ⟨?_, ?_, fun m hm => ?_, ?_⟩, rfl⟩
        · simp only []; omega
        · simp only []; rw [Nat.pow_succ, Int.natCast_mul]; rfl
        · simp only []; rw [f3 m hm]; exact hf1 m hm
        · simp only []; rw [gw_suc, ← hz]; exact r3
      by_cases y1 : cu = 8
      · rw [if_pos (by omega)]
        exact fin 0 (by omega) (by rw [if_pos rfl, if_neg (by omega)])
      · rw [if_neg (by omega)]
        by_cases y2 : cu ≤ t + i
        · rw [if_pos (by omega)]
          exact fin 0 (by omega) (by rw [if_pos rfl, if_neg (by omega)])
        · rw [if_neg (by omega)]
          exact fin 1 (by omega) (by rw [if_neg (by decide), if_pos (by omega)])
    · obtain ⟨τ1, d, u⟩ := y
      obtain ⟨hu, hd, hf1, hw1⟩ := hI
      simp only [] at hu hd hf1 hw1 ⊢
      subst hu hd
      have hM1 : RelM c τ1 := hM.congr (fun k b1 b2 => hf1 k (by omega))
      have hpn : 10 ^ (T - t) ≤ 10 ^ 8 := Nat.pow_le_pow_right (by decide) (by omega)
      have hp10 : 0 < 10 ^ (T - t) := Nat.pow_pos (by decide)
      have hsg := sg_tot hc (cO c w) (gw c p s w cu t (T - t))
      rw [gw_tot] at hsg
      rw [if_pos (by rw [wiN (by omega), wiN (by omega)]; omega)]
      refine lp_inv (fun n (y : Int × Int) => y.2 = (n : Int) ∧ y.1 = ((match n with | 0 => 0 | 1 => gw c p s w cu t (T - t) 0 * cT c (cO c w) 0 | 2 => gw c p s w cu t (T - t) 0 * cT c (cO c w) 0 + gw c p s w cu t (T - t) 1 * cT c (cO c w) 1 | 3 => gw c p s w cu t (T - t) 0 * cT c (cO c w) 0 + gw c p s w cu t (T - t) 1 * cT c (cO c w) 1 + gw c p s w cu t (T - t) 2 * cT c (cO c w) 2 | _ => sg c (cO c w) (gw c p s w cu t (T - t)) : Nat) : Int)) 4 (fun (r : Option (Int × sM)) => ∃ σ2 : sM, r = some ((gn c p s t w cu T : Int), σ2) ∧ (∀ m, m ≠ 84 → σ2 m = σ m)) (fun n y hn hI K2 => ?_) (fun y hI K2 => ?_) ⟨rfl, rfl⟩ (by omega)
      · obtain ⟨y1, u⟩ := y
        obtain ⟨hu, hy1⟩ := hI
        simp only [] at hu hy1 ⊢
        subst hu hy1
        have hTl := cT_le hc (cO c w) n
        rw [if_neg (by rw [wiN (by omega)]; omega), wiN (n := n) (by omega), if_pos (by omega), f_goodOf hM1 hc hw hn, bp_some, Int.toNat_natCast, hw1 n hn, wiN (n := cT c (cO c w) n) (by omega)]
        refine ⟨_, ⟨?_, ?_⟩, rfl⟩
        · simp only []; omega
        · simp only []
          rcases (show n = 0 ∨ n = 1 ∨ n = 2 ∨ n = 3 by omega) with rfl | rfl | rfl | rfl
          · simp only []; rw [← Int.natCast_mul]; omega
          · simp only []; rw [← Int.natCast_mul, ← Int.natCast_add]
          · simp only []; rw [← Int.natCast_mul, ← Int.natCast_add]
          · simp only []; rw [← Int.natCast_mul, ← Int.natCast_add]; rfl
      · obtain ⟨y1, u⟩ := y
        obtain ⟨hu, hy1⟩ := hI
        simp only [] at hu hy1 ⊢
        subst hu hy1
        rw [if_pos (by decide), if_pos (by rw [wlN (by omega)]; omega), show ((sg c (cO c w) (gw c p s w cu t (T - t)) : Nat) : Int) * 1000 = ((sg c (cO c w) (gw c p s w cu t (T - t)) * 1000 : Nat) : Int) by rw [Int.natCast_mul]; rfl, q_ldivN (by omega) hp10 (by omega)]
        exact ⟨_, rfl, hf1⟩
