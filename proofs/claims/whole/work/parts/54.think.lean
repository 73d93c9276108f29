theorem ag1_0 (x W : Nat → Nat) {k : Nat} (hk : k < 4) : ag1 x W 0 k = if k = 3 then W 3 * (10 - x 3) else W k := by
  unfold ag1
  by_cases q : k = 3
  · subst q; rw [if_neg (by omega), if_pos rfl]
  · rw [if_neg (by omega), if_neg (by omega), if_neg q]
theorem ag1_3 (x W : Nat → Nat) {k : Nat} (hk : k < 4) : ag1 x W 3 k = ag x W k := by
  unfold ag1
  by_cases q : k = 0
  · subst q; rw [if_neg (by omega), if_pos rfl]; rfl
  · rw [if_pos (by omega)]
theorem ag1_a (x W : Nat → Nat) {m : Nat} (hm : m < 3) : ag1 x W (m + 1) (2 - m) = ag1 x W m (2 - m) * (10 - x (2 - m)) := by
  unfold ag1
  rw [if_neg (by omega), if_pos (by omega), if_neg (by omega), if_neg (by omega)]
theorem ag1_b (x W : Nat → Nat) {m : Nat} (hm : m < 3) : ag1 x W (m + 1) (3 - m) = ag1 x W m (3 - m) + ag1 x W m (2 - m) * x (2 - m) := by
  unfold ag1
  rw [if_pos (by omega), if_neg (by omega), if_pos rfl, if_neg (by omega), if_neg (by omega)]
  obtain ⟨v, hv⟩ : ∃ v, 3 - m = v + 1 := ⟨2 - m, by omega⟩
  rw [hv, show 2 - m = v by omega]
  rfl
theorem ag1_c (x W : Nat → Nat) {m k : Nat} (hm : m < 3) (h1 : k ≠ 2 - m) (h2 : k ≠ 3 - m) : ag1 x W (m + 1) k = ag1 x W m k := by
  unfold ag1
  by_cases q : 3 - m < k
  · rw [if_pos q, if_pos (by omega)]
  · rw [if_neg q, if_neg h2, if_neg (by omega), if_neg (by omega)]
/-- the reference's stands: weights after n weeks -/
def rs (c : cC) (s p w t : Nat) : Nat → Nat → Nat
  | 0, k => if k = sp s w then 1 else 0
  | n + 1, k => ag (fun k => if k < 3 then rg c p w k (po s w) (t + n) else 0) (rs c s p w t n) k
theorem rg_le (c : cC) (p w k b t : Nat) : rg c p w k b t ≤ 10 := by
  unfold rg
  split
  · omega
  · exact tq_le _ _ _ _
theorem un_tot {b : Nat} (hb : b < 4) : tot (fun k => if k = b then 1 else 0) = 1 := by
  rcases (show b = 0 ∨ b = 1 ∨ b = 2 ∨ b = 3 by omega) with rfl | rfl | rfl | rfl <;> rfl
theorem rs_tot (c : cC) (s p w t n : Nat) : tot (rs c s p w t n) = 10 ^ n := by
  induction n with
  | zero => exact un_tot (sp_lt s w)
  | succ n ih =>
    have : tot (rs c s p w t (n + 1)) = 10 * tot (rs c s p w t n) := by
      refine ag_tot (fun k => ?_) rfl
      show (if k < 3 then rg c p w k (po s w) (t + n) else 0) ≤ 10
      split
      · exact rg_le _ _ _ _ _ _
      · omega
    rw [this, ih, Nat.pow_succ, Nat.mul_comm]
theorem rs_no (c : cC) (s p w t n : Nat) (h : ¬ gO s p w) {k : Nat} (hk : k < 4) : rs c s p w t n k = 10 ^ n * (if k = sp s w then 1 else 0) := by
  have h1 := sp_lt s w
  have h2 := stp_lt p w
  induction n generalizing k with
  | zero => show (if k = sp s w then 1 else 0) = 1 * (if k = sp s w then 1 else 0); omega
  | succ n ih =>
    show ag (fun k => if k < 3 then rg c p w k (po s w) (t + n) else 0) (rs c s p w t n) k = _
    by_cases q : sp s w = 3 ∧ 0 < po s w ∧ stp p w = 0
    · have e : ∀ v, v < 4 → rs c s p w t n v = 10 ^ n * (if v = 3 then 1 else 0) := fun v hv => by rw [ih hv, q.1]
      rw [q.1]
      rcases (show k = 0 ∨ k = 1 ∨ k = 2 ∨ k = 3 by omega) with rfl | rfl | rfl | rfl
      · show rs c s p w t n 0 * _ = _
        rw [e 0 (by omega), if_neg (by omega), Nat.mul_zero, Nat.mul_zero, Nat.zero_mul]
      · show rs c s p w t n 1 * _ + rs c s p w t n 0 * _ = _
        rw [e 0 (by omega), e 1 (by omega), if_neg (by omega), if_neg (by omega), Nat.mul_zero, Nat.mul_zero, Nat.zero_mul, Nat.zero_mul]
      · show rs c s p w t n 2 * _ + rs c s p w t n 1 * _ = _
        rw [e 1 (by omega), e 2 (by omega), if_neg (by omega), if_neg (by omega), Nat.mul_zero, Nat.mul_zero, Nat.zero_mul, Nat.zero_mul]
      · show rs c s p w t n 3 * 10 + rs c s p w t n 2 * _ = _
        rw [e 2 (by omega), e 3 (by omega), if_pos rfl, if_neg (by omega), Nat.mul_zero, Nat.zero_mul, Nat.mul_one, Nat.mul_one, Nat.pow_succ]
        rfl
    · have e0 : ∀ v, (fun k => if k < 3 then rg c p w k (po s w) (t + n) else 0) v = 0 := by
        intro v
        show (if v < 3 then rg c p w v (po s w) (t + n) else 0) = 0
        by_cases y : v < 3
        · rw [if_pos y]
          unfold rg
          rw [if_pos]
          by_cases y1 : po s w = 0
          · exact Or.inl y1
          · by_cases y2 : stp p w = 0
            · exfalso
              by_cases y3 : sp s w < 3
              · exact h ⟨by omega, y2, y3⟩
              · exact q ⟨by omega, by omega, y2⟩
            · exact Or.inr (Or.inr (by omega))
        · rw [if_neg y]
      generalize (fun k => if k < 3 then rg c p w k (po s w) (t + n) else 0) = x at e0
      have e1 : ag x (rs c s p w t n) k = rs c s p w t n k * 10 := by
        cases k with
        | zero => show rs c s p w t n 0 * (10 - x 0) = _; rw [e0]
        | succ k => show rs c s p w t n (k + 1) * (10 - x (k + 1)) + rs c s p w t n k * x k = _; rw [e0, e0, Nat.mul_zero]; rfl
      rw [e1, ih hk, Nat.pow_succ, Nat.mul_right_comm]
theorem rs_go (c : cC) (s p w t n : Nat) (h : gO s p w) : rs c s p w t (n + 1) = ag (fun k => if k < 3 then tq c (cO c w) ((if (if po s w = cZ c w then 0 else 1) = 0 then 4 else 7) + k) (t + n) else 0) (rs c s p w t n) := by
  funext k
  show ag _ _ k = ag _ _ k
  have : (fun k => if k < 3 then rg c p w k (po s w) (t + n) else 0) = (fun k => if k < 3 then tq c (cO c w) ((if (if po s w = cZ c w then 0 else 1) = 0 then 4 else 7) + k) (t + n) else 0) := by
    funext v
    by_cases y : v < 3
    · rw [if_pos y, if_pos y]
      unfold rg
      have h1 := h.1
      have h2 := h.2.1
      rw [if_neg (by omega)]
      by_cases z : po s w = cZ c w
      · rw [if_pos z, if_pos z, if_pos rfl]
      · rw [if_neg z, if_neg z, if_neg (by decide)]
    · rw [if_neg y, if_neg y]
  rw [this]
theorem f_standsL {c : cC} {t a s p F w n : Nat} {g k l : Int} {σ : sM} (hc : OkC c) (hM : RelM c σ) (hm : WM c 0 t a s p g k l σ) (hV : VW c t a s p) (hF : 200 ≤ F) (hw : w < cW c) (hn : n ≤ 8) {b z : Nat} (hb : b < 4) (hz : z < 2) (h2 : wi (n : Int) = (n : Int)) (h3 : wi (b : Int) = (b : Int)) (h4 : wi (z : Int) = (z : Int)) : ∃ σ2, X9_stands F σ (w : Int) (n : Int) (b : Int) (z : Int) = some ((lst (rs c s p w t n b) (10 ^ n) z : Int), σ2) ∧ (∀ m, m ≠ 84 → σ2 m = σ m) := by
  have c3 := hc.2.1
  have c5 := hc.2.2.1
  have ht := hV.2.2.1
  have hpn : 10 ^ n ≤ 10 ^ 8 := Nat.pow_le_pow_right (by decide) hn
  have hsp := sp_lt s w
  have hpo := po_lt s w
  unfold X9_stands
  simp only [jn_def]
  rw [f_isWheelN hM hc (by omega), f_in _ (n : Int) 0 8 h2 (by decide) (by decide), f_in _ (b : Int) 0 3 h3 (by decide) (by decide), f_in _ (z : Int) 0 1 h4 (by decide) (by decide)]
  simp only [bp_some, b2_if0, b2_ifn, if_pos hw, if_pos (show 0 ≤ (n : Int) ∧ (n : Int) ≤ 8 by omega), if_pos (show 0 ≤ (b : Int) ∧ (b : Int) ≤ 3 by omega), if_pos (show 0 ≤ (z : Int) ∧ (z : Int) ≤ 1 by omega)]
  refine lp_inv (fun i (y : sM × Int) => y.2 = (i : Int) ∧ (∀ m, m ≠ 84 → y.1 m = σ m) ∧ ∀ v, v < i → y.1 84 v = ((if v = sp s w then 1 else 0 : Nat) : Int)) 4 (fun (r : Option (Int × sM)) => ∃ σ2 : sM, r = some ((lst (rs c s p w t n b) (10 ^ n) z : Int), σ2) ∧ (∀ m, m ≠ 84 → σ2 m = σ m)) (fun i y hi hI K => ?_) (fun y hI K => ?_) ⟨rfl, fun _ _ => rfl, fun v hv => absurd hv (by omega)⟩ (by omega)
  · obtain ⟨τ, u⟩ := y
    obtain ⟨hu, hf, hr⟩ := hI
    simp only [] at hu hf hr ⊢
    subst hu
    rw [hf 71 (by omega), wiN (n := w) (by omega), Int.toNat_natCast, (hm.at0 hw).1]
    by_cases q : i = sp s w
    · simp (disch := omega) only [b2_if0, b2_ifn, b2_if1, jn_def, nm_def, bp_some, bn_some, wiZ, wlZ, wiD, if_pos, if_neg, if_true, if_false, not_true_eq_false, not_false_eq_true, Int.toNat_natCast]
      refine ⟨_, ⟨?_, fun m hm => ?_, fun v hv => ?_⟩, rfl⟩
      · simp only []; omega
      · simp only []; rw [sU_ne hm]; exact hf m hm
      · simp only []
        by_cases y : v = i
        · subst y; rw [sUv, if_pos q]; rfl
        · rw [sUnj y]; exact hr v (by omega)
    · simp (disch := omega) only [b2_if0, b2_ifn, b2_if1, jn_def, nm_def, bp_some, bn_some, wiZ, wlZ, wiD, if_pos, if_neg, if_true, if_false, not_true_eq_false, not_false_eq_true, Int.toNat_natCast]
      refine ⟨_, ⟨?_, fun m hm => ?_, fun v hv => ?_⟩, rfl⟩
      · simp only []; omega
      · simp only []; rw [sU_ne hm]; exact hf m hm
      · simp only []
        by_cases y : v = i
        · subst y; rw [sUv, if_neg q]; rfl
        · rw [sUnj y]; exact hr v (by omega)
  · obtain ⟨τ, u⟩ := y
    obtain ⟨hu, hf, hr⟩ := hI
    simp only [] at hu hf hr ⊢
    subst hu
    rw [if_pos (by decide)]
    refine lp_inv (fun i (y : sM × Int × Int) => y.2.2 = (i : Int) ∧ y.2.1 = ((10 ^ i : Nat) : Int) ∧ (∀ m, m ≠ 84 → y.1 m = σ m) ∧ Wt 84 (rs c s p w t i) y.1) n (fun (r : Option (Int × sM)) => ∃ σ2 : sM, r = some ((lst (rs c s p w t n b) (10 ^ n) z : Int), σ2) ∧ (∀ m, m ≠ 84 → σ2 m = σ m)) (fun i y hi hI K1 => ?_) (fun y hI K1 => ?_) ⟨rfl, rfl, hf, hr⟩ (by omega)
    · obtain ⟨τ1, d, u⟩ := y
      obtain ⟨hu, hd, hf1, hw1⟩ := hI
      simp only [] at hu hd hf1 hw1 ⊢
      subst hu hd
      rw [if_neg (by rw [wiN (by omega), wiN (by omega)]; omega)]
      have hx3 : (fun k => if k < 3 then rg c p w k (po s w) (t + i) else 0) 3 = 0 := rfl
      have hxe : ∀ k, k < 4 → (fun k => if k < 3 then rg c p w k (po s w) (t + i) else 0) k = rg c p w k (po s w) (t + i) := by
        intro k hk
        by_cases y : k < 3
        · exact if_pos y
        · have : k = 3 := by omega
          subst this
          show 0 = _
          unfold rg
          rw [if_pos (Or.inr (Or.inl rfl))]
      have hle : ∀ k, rg c p w k (po s w) (t + i) ≤ 10 := fun k => rg_le _ _ _ _ _ _
      have hag : rs c s p w t (i + 1) = ag (fun k => if k < 3 then rg c p w k (po s w) (t + i) else 0) (rs c s p w t i) := rfl
      rw [hag]
      generalize (fun k => if k < 3 then rg c p w k (po s w) (t + i) else 0) = x at *
      generalize rs c s p w t i = W at *
      refine lp_inv (fun m (y : sM × Int) => y.2 = 3 - (m : Int) ∧ (∀ k, k ≠ 84 → y.1 k = σ k) ∧ Wt 84 (fun k => if m = 0 then W k else ag1 x W (m - 1) k) y.1) 4 (fun (r : Option (Int × sM)) => ∃ x' : sM × Int × Int, (x'.2.2 = ((i + 1 : Nat) : Int) ∧ x'.2.1 = ((10 ^ (i + 1) : Nat) : Int) ∧ (∀ m, m ≠ 84 → x'.1 m = σ m) ∧ Wt 84 (ag x W) x'.1) ∧ r = K1 x') (fun m y hm' hJ K2 => ?_) (fun y hJ K2 => ?_) ⟨rfl, hf1, hw1⟩ (by omega)
      · obtain ⟨τ2, u⟩ := y
        obtain ⟨hu, hf2, hw2⟩ := hJ
        simp only [] at hu hf2 hw2 ⊢
        have hu' : u = ((3 - m : Nat) : Int) := by omega
        subst hu'
        have hM2 : RelM c τ2 := hM.congr (fun k b1 b2 => hf2 k (by omega))
        have hP2 : RelP c p τ2 := hm.relP.congr (hf2 73 (by omega))
        have h72 : τ2 72 w = (po s w : Int) := by rw [hf2 72 (by omega)]; exact (hm.at0 hw).2.1
        have h66 : τ2 66 0 = (t : Int) := by rw [hf2 66 (by omega)]; exact hm.1
        have hl := hle (3 - m)
        rw [wiN (n := w) (by omega), Int.toNat_natCast, h72, h66, show (t : Int) + (i : Int) = ((t + i : Nat) : Int) by omega, f_goes hM2 hc hP2 hw (by omega) hpo (by omega), ← hxe (3 - m) (by omega)]
        rw [← hxe (3 - m) (by omega)] at hl
        rcases Nat.eq_zero_or_pos m with m0 | m0
        · subst m0
          have hw0 : Wt 84 W τ2 := hw2
          simp (disch := omega) only [b2_if0, b2_ifn, b2_if1, jn_def, nm_def, bp_some, bn_some, wiZ, wlZ, wiD, if_pos, if_neg, if_true, if_false, not_true_eq_false, not_false_eq_true, Int.toNat_natCast]
          rw [hw0 3 (by omega)]
          refine ⟨_, ⟨?_, fun k hk => ?_, fun k hk => ?_⟩, rfl⟩
          · simp only []; omega
          · simp only []; rw [sU_ne hk]; exact hf2 k hk
          · simp only []
            show _ = ((ag1 x W 0 k : Nat) : Int)
            rw [ag1_0 x W hk]
            by_cases q1 : k = 3
            · subst q1
              have hl3 : x 3 ≤ 10 := hl
              rw [sUv, if_pos rfl, Int.natCast_mul, show ((10 - x 3 : Nat) : Int) = 10 - (x 3 : Int) by omega]
            · rw [sUnj q1, if_neg q1, hw0 k hk]
        · obtain ⟨m', rfl⟩ : ∃ m', m = m' + 1 := ⟨m - 1, by omega⟩
          rw [show 3 - (m' + 1) = 2 - m' by omega] at *
          rw [show ((2 - m' : Nat) : Int) + 1 = ((3 - m' : Nat) : Int) by omega]
          simp (disch := omega) only [b2_if0, b2_ifn, b2_if1, jn_def, nm_def, bp_some, bn_some, wiZ, wlZ, wiD, if_pos, if_neg, if_true, if_false, not_true_eq_false, not_false_eq_true, Int.toNat_natCast]
          rw [hw2 (3 - m') (by omega), hw2 (2 - m') (by omega), sUnj (by omega), hw2 (2 - m') (by omega)]
          refine ⟨_, ⟨?_, fun k hk => ?_, fun k hk => ?_⟩, rfl⟩
          · simp only []; omega
          · simp only []; rw [sU_ne hk, sU_ne hk]; exact hf2 k hk
          · simp only []
            show _ = ((ag1 x W (m' + 1) k : Nat) : Int)
            by_cases q1 : k = 2 - m'
            · subst q1
              rw [sUv, ag1_a x W (by omega), Int.natCast_mul, show ((10 - x (2 - m') : Nat) : Int) = 10 - (x (2 - m') : Int) by omega]
              rfl
            · rw [sUnj q1]
              by_cases q2 : k = 3 - m'
              · subst q2
                rw [sUv, ag1_b x W (by omega), Int.natCast_add, Int.natCast_mul]
                rfl
              · rw [sUnj q2, hw2 k hk, ag1_c x W (by omega) q1 q2]
                rfl
      · obtain ⟨τ2, u⟩ := y
        obtain ⟨hu, hf2, hw2⟩ := hJ
        simp only [] at hu hf2 hw2 ⊢
        subst hu
        rw [if_pos (by decide)]
        refine ⟨_, ⟨?_, ?_, hf2, fun k hk => ?_⟩, rfl⟩
        · simp only []; omega
        · simp only []; rw [Nat.pow_succ, Int.natCast_mul]; rfl
        · simp only []; rw [hw2 k hk, ← ag1_3 x W hk]; rfl
    · obtain ⟨τ1, d, u⟩ := y
      obtain ⟨hu, hd, hf1, hw1⟩ := hI
      simp only [] at hu hd hf1 hw1 ⊢
      subst hu hd
      have htot := rs_tot c s p w t n
      have hle := tot_le (W := rs c s p w t n) hb
      have hp10 : 0 < 10 ^ n := Nat.pow_pos (by decide)
      rw [if_pos (by omega), wiN (n := b) (by omega), if_pos (by omega), Int.toNat_natCast, hw1 b hb, f_inLeast τ1 hF (by omega) (by omega) hp10 hz, bp_some]
      exact ⟨_, rfl, hf1⟩
theorem e_standsL {c : cC} {t a s p F w n : Nat} {g k l : Int} {σ : sM} (hc : OkC c) (hX : RelX c σ) (hW : WX 26 t a s p g k l σ) (hV : VW c t a s p) (hF : 200 ≤ F) (hw : w < cW c) (hn : n ≤ 8) {b z : Nat} (hb : b < 4) (hz : z < 2) : ∃ σ1, X8_stands F σ (w : Int) (n : Int) (b : Int) (z : Int) = some ((lst (rs c s p w t n b) (10 ^ n) z : Int), σ1) ∧ (∀ m, m ≠ 48 → σ1 m = σ m) := by
  have c3 := hc.2.1
  have c5 := hc.2.2.1
  have ht := hV.2.2.1
  have hs := hV.1.lt hc
  have hp := hV.2.1
  have hO := (hc.2.2.2.2.1 w hw).1
  have hpn : 10 ^ n ≤ 10 ^ 8 := Nat.pow_le_pow_right (by decide) hn
  have hp10 : 0 < 10 ^ n := Nat.pow_pos (by decide)
  have htot := rs_tot c s p w t n
  have hle := tot_le (W := rs c s p w t n) hb
  obtain ⟨σ1, e1, f1, r1⟩ := e_startAt (F := F) (o := 47) (b := sp s w) (σ := σ) (by omega) (sp_lt s w)
  have h26 := f1 26 (by omega)
  have hX1 : RelX c σ1 := hX.congr hc (fun k b1 b2 => f1 k (by omega))
  unfold X8_stands
  simp only [jn_def]
  rw [e_isWheelN hX hc (by omega), bp_some, b2_if0, if_pos hw, wiN (n := n) (by omega), if_neg (by omega), if_pos (by omega), wiN (n := b) (by omega), if_neg (by omega), if_neg (by omega), wiN (n := z) (by omega), if_neg (by omega), if_pos (by omega), hW.2.2.1, e_stepOf σ hs (by omega), bp_some, e1, bn_some, h26, hW.2.2.1, hW.2.2.2.1, e_mayGoOn (c := c) hs (by omega) hp, bp_some, b2_if0, e_isWhole hX1 hc hs (by omega), bp_some, b2_ifn]
  have fin : ∀ τ : sM, (∀ m, m ≠ 48 → τ m = σ m) → ∀ W, Wt 48 W τ → W b < 2 ^ 63 → tot W < 2 ^ 63 → 0 < tot W → lst (W b) (tot W) z = lst (rs c s p w t n b) (10 ^ n) z → ∃ σ1, (bp (X5_weightOf 47 τ (b : Int)) fun r23 => bp (X5_total 47 τ) fun r25 => bp (X8_partOfLeast F τ r23 r25 (z : Int)) fun r27 => some (r27, τ)) = some ((lst (rs c s p w t n b) (10 ^ n) z : Int), σ1) ∧ (∀ m, m ≠ 48 → σ1 m = σ m) := by
    intro τ hτ W hWt h1 h2 h3 h4
    rw [e_weightOf (o := 47) hWt hb, bp_some, e_total (o := 47) hWt, bp_some, e_partOfLeast τ hF h1 h2 h3 hz, bp_some, h4]
    exact ⟨_, rfl, hτ⟩
  by_cases q : gO s p w
  · rw [if_pos q]
    have loop : ∀ zz : Nat, zz = (if po s w = cZ c w then 0 else 1) → ∃ σ1', lp (fun K35 (q34 : sM × Int) => if (n : Int) ≤ wi q34.2 then (bp (X5_weightOf 47 q34.1 (b : Int)) fun r23 => bp (X5_total 47 q34.1) fun r25 => bp (X8_partOfLeast F q34.1 r23 r25 (z : Int)) fun r27 => some (r27, q34.1)) else bp (X1_sortOf q34.1 (w : Int)) (fun r37 => bn (X5_weekGoesBy F 47 q34.1 r37 (zz : Int) ((q34.1 26 0) + q34.2)) (fun r39 σ41 => K35 (σ41, q34.2 + 1)))) F (σ1, 0) = some ((lst (rs c s p w t n b) (10 ^ n) z : Int), σ1') ∧ (∀ m, m ≠ 48 → σ1' m = σ m) := by
      intro zz hzz
      have hzz2 : zz < 2 := by rw [hzz]; split <;> omega
      refine lp_inv (fun i (y : sM × Int) => y.2 = (i : Int) ∧ (∀ m, m ≠ 48 → y.1 m = σ m) ∧ Wt 48 (rs c s p w t i) y.1) n (fun (r : Option (Int × sM)) => ∃ σ1' : sM, r = some ((lst (rs c s p w t n b) (10 ^ n) z : Int), σ1') ∧ (∀ m, m ≠ 48 → σ1' m = σ m)) (fun i y hi hI K => ?_) (fun y hI K => ?_) ⟨rfl, f1, r1⟩ (by omega)
      · obtain ⟨τ, u⟩ := y
        obtain ⟨hu, hf, hr⟩ := hI
        simp only [] at hu hf hr ⊢
        subst hu
        have hXτ : RelX c τ := hX.congr hc (fun k b1 b2 => hf k (by omega))
        rw [if_neg (by rw [wiN (by omega)]; omega), e_sortOf hXτ hc hw, bp_some, hf 26 (by omega), hW.1, show (t : Int) + (i : Int) = ((t + i : Nat) : Int) by omega]
        obtain ⟨σ3, e3, f3, r3⟩ := e_weekGoesBy (F := F) (o := 47) (i := cO c w) (z := zz) (t := t + i) hc hXτ (by omega) (by omega) hzz2 hO (by omega) hr
        rw [e3, bn_some]
        refine ⟨_, ⟨?_, fun m hm => ?_, ?_⟩, rfl⟩
        · simp only []; omega
        · simp only []; rw [f3 m hm]; exact hf m hm
        · rw [rs_go c s p w t i q, ← hzz]; exact r3
      · obtain ⟨τ, u⟩ := y
        obtain ⟨hu, hf, hr⟩ := hI
        simp only [] at hu hf hr ⊢
        subst hu
        rw [if_pos (by rw [wiN (by omega)]; omega)]
        exact fin τ hf _ hr (by omega) (by omega) (by omega) (by rw [htot])
    by_cases y : po s w = cZ c w
    · rw [if_pos y]
      exact loop 0 (by rw [if_pos y])
    · rw [if_neg y]
      exact loop 1 (by rw [if_neg y])
  · rw [if_neg q]
    have hr1 : Wt 48 (fun k => if k = sp s w then 1 else 0) σ1 := r1
    have ht1 := un_tot (sp_lt s w)
    refine fin σ1 f1 _ hr1 ?_ (by omega) (by omega) ?_
    · show (if b = sp s w then 1 else 0) < 2 ^ 63
      split <;> omega
    · rw [ht1, rs_no c s p w t n q hb]
      have := lst_mul (if b = sp s w then 1 else 0) 1 z (10 ^ n) hp10
      rw [Nat.mul_one] at this
      exact this.symm
/-- a step whose answers are longs -/
def StL (j : Nat) (q : qT) (x : List Nat) (X : Option (Int × sM)) (Y : sM → Option (Int × sM)) : Prop := ∃ r σ1 σ2, X = some (r, σ1) ∧ Y σ1 = some (r, σ2) ∧ Inv j q x σ2
theorem s_stands {c : cC} {j : Nat} {q : qT} {x : List Nat} {t a s p F : Nat} {g k l : Int} {σ : sM} (h : Jn c j q x t a s p g k l σ) (hF : 200 ≤ F) (a1 a2 a3 a4 : Int) (h1 : wi a1 = a1) (h2 : wi a2 = a2) (h3 : wi a3 = a3) (h4 : wi a4 = a4) : StL j q x (X8_stands F σ a1 a2 a3 a4) (fun τ => X9_stands F τ a1 a2 a3 a4) := by
  obtain ⟨hc, hX, hM, hW, hm, hV, hT, hI, hE, hB', hTh, htr⟩ := id h
  by_cases y : (0 ≤ a1 ∧ a1 < (cW c : Int)) ∧ (0 ≤ a2 ∧ a2 ≤ 8) ∧ (0 ≤ a3 ∧ a3 ≤ 3) ∧ (0 ≤ a4 ∧ a4 ≤ 1)
  · obtain ⟨y1, y2, y3, y4⟩ := y
    obtain ⟨w, rfl⟩ : ∃ i : Nat, a1 = i := ⟨a1.toNat, by omega⟩
    obtain ⟨n, rfl⟩ : ∃ i : Nat, a2 = i := ⟨a2.toNat, by omega⟩
    obtain ⟨b, rfl⟩ : ∃ i : Nat, a3 = i := ⟨a3.toNat, by omega⟩
    obtain ⟨z, rfl⟩ : ∃ i : Nat, a4 = i := ⟨a4.toNat, by omega⟩
    obtain ⟨σ1, e1, f1⟩ := e_standsL (F := F) (w := w) (n := n) (b := b) (z := z) hc hX hW hV hF (by omega) (by omega) (by omega) (by omega)
    have hM1 : RelM c σ1 := hM.congr (fun k b1 b2 => f1 k (by omega))
    have hm1 : WM c 0 t a s p g k l σ1 := hm.row hc (fun m b1 b2 => f1 m (by omega))
    obtain ⟨σ2, e2, f2⟩ := f_standsL (F := F) (w := w) (n := n) (b := b) (z := z) hc hM1 hm1 hV hF (by omega) (by omega) (by omega) (by omega) h2 h3 h4
    exact ⟨_, _, _, e1, e2, h.gen (fun k hk => f1 k (by omega)) (fun k jj hk => by rw [f2 k (by omega)]) (hW.congr (f1 26 (by omega))) (hm1.row hc (fun m b1 b2 => f2 m (by omega))) hV (hE.congr hc (fun k hk => f1 k (by omega))) (hB'.congr (f1 37 (by omega)) (f1 46 (by omega)))⟩
  · refine ⟨_, _, _, (?_ : X8_stands F σ a1 a2 a3 a4 = some (-1, σ)), (?_ : X9_stands F σ a1 a2 a3 a4 = some (-1, σ)), h.inv⟩
    · unfold X8_stands
      simp only [jn_def]
      rw [e_isWheel hX hc a1 h1, bp_some, b2_if0, h2, h3, h4]
      by_cases y1 : 0 ≤ a1 ∧ a1 < (cW c : Int)
      · rw [if_pos y1]
        by_cases z1 : a2 < 0
        · rw [if_pos z1]
        · rw [if_neg z1]
          by_cases z2 : a2 ≤ 8
          · rw [if_pos z2]
            by_cases z3 : a3 < 0
            · rw [if_pos z3]
            · rw [if_neg z3]
              by_cases z4 : 3 < a3
              · rw [if_pos z4]
              · rw [if_neg z4]
                by_cases z5 : a4 < 0
                · rw [if_pos z5]
                · rw [if_neg z5, if_neg (fun z6 => y ⟨y1, by omega, by omega, by omega⟩)]
          · rw [if_neg z2]
      · rw [if_neg y1]
    · unfold X9_stands
      simp only [jn_def]
      rw [f_isWheel hM hc a1 h1, f_in _ a2 0 8 h2 (by decide) (by decide), f_in _ a3 0 3 h3 (by decide) (by decide), f_in _ a4 0 1 h4 (by decide) (by decide)]
      simp only [bp_some, b2_if0, b2_ifn]
      by_cases y1 : 0 ≤ a1 ∧ a1 < (cW c : Int)
      · rw [if_pos y1]
        by_cases z1 : 0 ≤ a2 ∧ a2 ≤ 8
        · rw [if_pos z1]
          by_cases z2 : 0 ≤ a3 ∧ a3 ≤ 3
          · rw [if_pos z2, if_neg (fun z3 => y ⟨y1, z1, z2, z3⟩)]
          · rw [if_neg z2]
        · rw [if_neg z1]
      · rw [if_neg y1]
