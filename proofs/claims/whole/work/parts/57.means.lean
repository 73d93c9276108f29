theorem xr_le (c : cC) (p w z t i : Nat) : xr c p w z t i ≤ 10 := by
  unfold xr
  split
  · omega
  · exact tq_le _ _ _ _
theorem xr_3 (c : cC) (p w z t : Nat) : xr c p w z t 3 = 0 := by
  unfold xr
  rw [if_pos (Or.inr (Nat.le_refl _))]
theorem gw_suc (c : cC) (p s w cu t n : Nat) : gw c p s w cu t (n + 1) = ag (xr c p w (if cu < 8 ∧ t + n < cu then 4 else 7) (t + n)) (gw c p s w cu t n) := rfl
theorem gw_tot (c : cC) (p s w cu t n : Nat) : tot (gw c p s w cu t n) = 10 ^ n := by
  induction n with
  | zero => exact un_tot (sp_lt s w)
  | succ n ih => rw [gw_suc, ag_tot (x := xr c p w (if cu < 8 ∧ t + n < cu then 4 else 7) (t + n)) (W := gw c p s w cu t n) (fun k => xr_le _ _ _ _ _ _) (xr_3 _ _ _ _ _), ih, Nat.pow_succ, Nat.mul_comm]
theorem gw_no (c : cC) (p s w cu t n : Nat) (h : stp p w = 1 ∨ sp s w = 3) {k : Nat} (hk : k < 4) : gw c p s w cu t n k = 10 ^ n * (if k = sp s w then 1 else 0) := by
  induction n generalizing k with
  | zero => show (if k = sp s w then 1 else 0) = 1 * (if k = sp s w then 1 else 0); omega
  | succ n ih =>
    rw [gw_suc]
    rcases h with h | h
    · have e0 : ∀ v, xr c p w (if cu < 8 ∧ t + n < cu then 4 else 7) (t + n) v = 0 := fun v => by unfold xr; rw [if_pos (Or.inl h)]
      generalize xr c p w (if cu < 8 ∧ t + n < cu then 4 else 7) (t + n) = x at e0
      have e1 : ag x (gw c p s w cu t n) k = gw c p s w cu t n k * 10 := by
        cases k with
        | zero => show gw c p s w cu t n 0 * (10 - x 0) = _; rw [e0]
        | succ k => show gw c p s w cu t n (k + 1) * (10 - x (k + 1)) + gw c p s w cu t n k * x k = _; rw [e0, e0, Nat.mul_zero]; rfl
      rw [e1, ih hk, Nat.pow_succ, Nat.mul_right_comm]
    · have e : ∀ v, v < 4 → gw c p s w cu t n v = 10 ^ n * (if v = 3 then 1 else 0) := fun v hv => by rw [ih hv, h]
      have e3 := xr_3 c p w (if cu < 8 ∧ t + n < cu then 4 else 7) (t + n)
      generalize xr c p w (if cu < 8 ∧ t + n < cu then 4 else 7) (t + n) = x at e3
      rw [h]
      rcases (show k = 0 ∨ k = 1 ∨ k = 2 ∨ k = 3 by omega) with rfl | rfl | rfl | rfl
      · show gw c p s w cu t n 0 * _ = _
        rw [e 0 (by omega), if_neg (by omega), Nat.mul_zero, Nat.mul_zero, Nat.zero_mul]
      · show gw c p s w cu t n 1 * _ + gw c p s w cu t n 0 * _ = _
        rw [e 0 (by omega), e 1 (by omega), if_neg (by omega), if_neg (by omega), Nat.mul_zero, Nat.mul_zero, Nat.zero_mul, Nat.zero_mul]
      · show gw c p s w cu t n 2 * _ + gw c p s w cu t n 1 * _ = _
        rw [e 1 (by omega), e 2 (by omega), if_neg (by omega), if_neg (by omega), Nat.mul_zero, Nat.mul_zero, Nat.zero_mul, Nat.zero_mul]
      · show gw c p s w cu t n 3 * (10 - x 3) + gw c p s w cu t n 2 * _ = _
        rw [e 2 (by omega), e 3 (by omega), e3, if_pos rfl, if_neg (by omega), Nat.mul_zero, Nat.zero_mul, Nat.mul_one, Nat.mul_one, Nat.pow_succ]
        rfl
def wh (c : cC) (p s w t : Nat) : Nat → Nat → Nat
  | 0, i => if i = sp s w then 1 else 0
  | n + 1, i => ag (xr c p w 4 (t + n)) (wh c p s w t n) i
theorem gw_wh (c : cC) (p s w cu t : Nat) (n : Nat) (hcu : cu < 8) (h : t + n ≤ cu) : gw c p s w cu t n = wh c p s w t n := by
  induction n with
  | zero => rfl
  | succ n ih =>
    rw [gw_suc, if_pos ⟨hcu, by omega⟩, ih (by omega)]
    rfl
theorem xr_go (c : cC) {p w : Nat} (z t : Nat) (h : stp p w = 0) : xr c p w z t = fun k => if k < 3 then tq c (cO c w) (z + k) t else 0 := by
  funext k
  unfold xr
  by_cases y : k < 3
  · rw [if_neg (by omega), if_pos y]
  · rw [if_pos (by omega), if_neg y]
def unK (b k : Nat) : Nat := if k = b then 1 else 0
def vC (c : cC) (p s w cu t n : Nat) : Nat → Nat := if gO s p w then gw c p s w cu t n else unK (sp s w)
def tC (s p w n : Nat) : Nat := if gO s p w then 10 ^ n else 1
theorem vC_tot (c : cC) (p s w cu t n : Nat) : tot (vC c p s w cu t n) = tC s p w n := by
  unfold vC tC
  split
  · exact gw_tot _ _ _ _ _ _ _
  · exact un_tot (sp_lt s w)
theorem sg_congr (c : cC) (i : Nat) {W W' : Nat → Nat} (h : ∀ k, k < 4 → W k = W' k) : sg c i W = sg c i W' := by
  unfold sg; rw [h 0 (by omega), h 1 (by omega), h 2 (by omega), h 3 (by omega)]
theorem sg_mul (c : cC) (i m : Nat) (W : Nat → Nat) : sg c i (fun k => m * W k) = m * sg c i W := by
  unfold sg
  simp only [Nat.mul_add, Nat.mul_assoc]
theorem sg_tot {c : cC} (hc : OkC c) (i : Nat) (W : Nat → Nat) : sg c i W ≤ 99 * tot W := by
  have k : ∀ v, W v * cT c i v ≤ 99 * W v := fun v => by rw [Nat.mul_comm 99]; exact Nat.mul_le_mul_left _ (cT_le hc i v)
  have := k 0
  have := k 1
  have := k 2
  have := k 3
  unfold sg tot
  omega
theorem vC_gn {c : cC} {p s w cu t u : Nat} (hp : 0 < po s w) : 1000 * sg c (cO c w) (vC c p s w cu t (u - t)) / tC s p w (u - t) = gn c p s t w cu u := by
  unfold vC tC gn
  by_cases q : gO s p w
  · rw [if_pos q, if_pos q, Nat.mul_comm]
  · rw [if_neg q, if_neg q, Nat.div_one]
    have h1 := sp_lt s w
    have h2 := stp_lt p w
    have hno : stp p w = 1 ∨ sp s w = 3 := by
      by_cases y : stp p w = 1
      · exact Or.inl y
      · right
        by_cases y2 : sp s w < 3
        · exact absurd ⟨hp, by omega, y2⟩ q
        · omega
    have h10 : 0 < 10 ^ (u - t) := Nat.pow_pos (by decide)
    rw [sg_congr c (cO c w) (W' := fun k => 10 ^ (u - t) * unK (sp s w) k) (fun k hk => gw_no c p s w cu t (u - t) hno hk), sg_mul, Nat.mul_assoc, Nat.mul_div_cancel_left _ h10, Nat.mul_comm]
theorem gn_le {c : cC} (hc : OkC c) (p s t w cu u : Nat) : gn c p s t w cu u ≤ 99000 := by
  unfold gn
  have h := sg_tot hc (cO c w) (gw c p s w cu t (u - t))
  rw [gw_tot] at h
  have h10 : 0 < 10 ^ (u - t) := Nat.pow_pos (by decide)
  have : sg c (cO c w) (gw c p s w cu t (u - t)) * 1000 ≤ 99000 * 10 ^ (u - t) := by omega
  exact Nat.div_le_of_le_mul (by rw [Nat.mul_comm (10 ^ (u - t))]; exact this)
def Mn (σ : sM) : Prop := ∀ i, i < 192 → ∃ n : Nat, σ 42 i = (n : Int) ∧ n ≤ 99000
theorem Mn.up {σ : sM} (h : Mn σ) {i n : Nat} (hn : n ≤ 99000) : Mn (sU σ 42 i (n : Int)) := by
  intro k hk
  by_cases q : k = i
  · subst q; exact ⟨n, sUv, hn⟩
  · rw [sUnj q]; exact h k hk
theorem e_cutMeans {c : cC} {t s p F w cu cw : Nat} {σ : sM} (hc : OkC c) (hX : RelX c σ) (hF : 10 ≤ F) (hw : w < cW c) (hp0 : 0 < po s w) (hcu : cu = cw ∧ cw < 8 ∨ cu = 8) (htc : t ≤ cw) (hcK : cw ≤ cK c) (hV : Wt 39 (vC c p s w cu t (cw - t)) σ) (hMn : Mn σ) (z : Int) (hz : z = b2 (gO s p w)) : ∃ σ1, X0_tellMeansOfCut F σ (w : Int) (cw : Int) z = some (0, σ1) ∧ (∀ k, k ≠ 41 → k ≠ 42 → σ1 k = σ k) ∧ Mn σ1 ∧ (∀ u, cw ≤ u → u < cK c → σ1 42 ((w * 8 + cw) * 8 + u) = (gn c p s t w cu u : Int)) ∧ ∀ i, (∀ u, cw ≤ u → u < cK c → i ≠ (w * 8 + cw) * 8 + u) → σ1 42 i = σ 42 i := by
  have c3 := hc.2.1
  have c5 := hc.2.2.1
  have hO := (hc.2.2.2.2.1 w hw).1
  unfold X0_tellMeansOfCut X5_becomeLike
  rw [e_sortOf hX hc hw, bp_some, bn_some]
  simp only [jn_def]
  refine lp_inv (fun i (y : sM × Int) => y.2 = ((cw + i : Nat) : Int) ∧ (∀ k, k ≠ 41 → k ≠ 42 → y.1 k = σ k) ∧ Wt (40 + 1) (vC c p s w cu t (cw + i - t)) y.1 ∧ Mn y.1 ∧ (∀ u, cw ≤ u → u < cw + i → y.1 42 ((w * 8 + cw) * 8 + u) = (gn c p s t w cu u : Int)) ∧ ∀ i', (∀ u, cw ≤ u → u < cw + i → i' ≠ (w * 8 + cw) * 8 + u) → y.1 42 i' = σ 42 i') (cK c - cw) (fun (r : Option (Int × sM)) => ∃ σ1 : sM, r = some (0, σ1) ∧ (∀ k, k ≠ 41 → k ≠ 42 → σ1 k = σ k) ∧ Mn σ1 ∧ (∀ u, cw ≤ u → u < cK c → σ1 42 ((w * 8 + cw) * 8 + u) = (gn c p s t w cu u : Int)) ∧ ∀ i, (∀ u, cw ≤ u → u < cK c → i ≠ (w * 8 + cw) * 8 + u) → σ1 42 i = σ 42 i) (fun i y hi hI K => ?_) (fun y hI K => ?_) ⟨rfl, fun k h1 h2 => sUc_ne h1, fun k hk => ?_, fun i hi => ?_, fun u h1 h2 => absurd h2 (by omega), fun i' _ => ?_⟩ (by omega)
  · obtain ⟨τ, v⟩ := y
    obtain ⟨hv, hf, hw1, hmn, hr, hr2⟩ := hI
    simp only [] at hv hf hw1 hmn hr hr2 ⊢
    subst hv
    have hXτ : RelX c τ := hX.congr hc (fun k b1 b2 => hf k (by omega) (by omega))
    have hn8 : cw + i - t ≤ 8 := by omega
    have hp8 : 10 ^ (cw + i - t) ≤ 10 ^ 8 := Nat.pow_le_pow_right (by decide) hn8
    have hp10 : 0 < 10 ^ (cw + i - t) := Nat.pow_pos (by decide)
    have htot := vC_tot c p s w cu t (cw + i - t)
    have htC : 0 < tC s p w (cw + i - t) ∧ tC s p w (cw + i - t) ≤ 10 ^ 8 := by
      unfold tC
      split <;> omega
    have hsg := sg_tot hc (cO c w) (vC c p s w cu t (cw + i - t))
    have hgn := vC_gn (c := c) (p := p) (s := s) (w := w) (cu := cu) (t := t) (u := cw + i) hp0
    have hgl := gn_le hc p s t w cu (cw + i)
    rw [htot] at hsg
    have e9 : X0_meanPlace τ (w : Int) (cw : Int) ((cw + i : Nat) : Int) = some (((w * 8 + cw) * 8 + (cw + i) : Nat) : Int) := by
      unfold X0_meanPlace; exact congrArg some (by push_cast; omega)
    have hidx : (w * 8 + cw) * 8 + (cw + i) < 192 := by omega
    have hl1 : q_lcmp ((tC s p w (cw + i - t) : Nat) : Int) 0 = 1 := by rw [lcmp0 (by omega), if_neg (by omega)]
    rw [hXτ.2.2.1, if_neg (by rw [wiN (by omega), wiN (by omega)]; omega), e9, bp_some, e_total hw1, bp_some, htot, wiN (n := (w * 8 + cw) * 8 + (cw + i)) (by omega), if_neg (by omega), if_neg (by omega), hl1, if_neg (show ¬ wi 1 ≤ 0 by decide), e_allGood hc hXτ hF hO hw1, bp_some, if_pos (by rw [wlN (by omega)]; omega), if_pos (by omega), Int.toNat_natCast]
    rw [show (1000 : Int) * ((sg c (cO c w) (vC c p s w cu t (cw + i - t)) : Nat) : Int) = ((1000 * sg c (cO c w) (vC c p s w cu t (cw + i - t)) : Nat) : Int) by rw [Int.natCast_mul]; rfl, q_ldivN (by omega) (by omega) (by omega), hgn]
    have hXn : RelX c (sU τ 42 ((w * 8 + cw) * 8 + (cw + i)) (gn c p s t w cu (cw + i) : Int)) := hXτ.congr hc (fun k b1 b2 => sU_ne (by omega))
    have hwn : Wt (40 + 1) (vC c p s w cu t (cw + i - t)) (sU τ 42 ((w * 8 + cw) * 8 + (cw + i)) (gn c p s t w cu (cw + i) : Int)) := fun k hk => by rw [sU_ne (by omega)]; exact hw1 k hk
    have tab : ∀ τ' : sM, (∀ k, k ≠ 41 → τ' k = sU τ 42 ((w * 8 + cw) * 8 + (cw + i)) (gn c p s t w cu (cw + i) : Int) k) → (∀ k, k ≠ 41 → k ≠ 42 → τ' k = σ k) ∧ Mn τ' ∧ (∀ u, cw ≤ u → u < cw + (i + 1) → τ' 42 ((w * 8 + cw) * 8 + u) = (gn c p s t w cu u : Int)) ∧ ∀ i', (∀ u, cw ≤ u → u < cw + (i + 1) → i' ≠ (w * 8 + cw) * 8 + u) → τ' 42 i' = σ 42 i' := by
      intro τ' h'
      refine ⟨fun k h1 h2 => by rw [h' k h1, sU_ne h2]; exact hf k h1 h2, fun k hk => ?_, fun u h1 h2 => ?_, fun i' h1 => ?_⟩
      · rw [h' 42 (by omega)]; exact hmn.up hgl k hk
      · rw [h' 42 (by omega)]
        by_cases y : u = cw + i
        · subst y; rw [sUv]
        · rw [sUnj (by omega)]; exact hr u h1 (by omega)
      · rw [h' 42 (by omega), sUnj (h1 (cw + i) (by omega) (by omega))]
        exact hr2 i' (fun u a b => h1 u a (by omega))
    by_cases q : gO s p w
    · rw [hz, b2_t q, if_neg (by decide)]
      obtain ⟨σ3, e3, f3, r3⟩ := e_weekGoesBy (F := F) (o := 40) (i := cO c w) (z := 1) (t := cw + i) hc hXn (by omega) hF (by omega) hO (by omega) hwn
      rw [show ((1 : Nat) : Int) = 1 from rfl] at e3
      rw [e3, bn_some]
      obtain ⟨d1, d2, d3, d4⟩ := tab σ3 (fun k hk => f3 k hk)
      refine ⟨_, ⟨?_, d1, ?_, d2, d3, d4⟩, rfl⟩
      · simp only []; omega
      · simp only []
        have e1 : vC c p s w cu t (cw + i - t) = gw c p s w cu t (cw + i - t) := if_pos q
        have e2 : vC c p s w cu t (cw + (i + 1) - t) = gw c p s w cu t (cw + i - t + 1) := by unfold vC; rw [if_pos q, show cw + (i + 1) - t = cw + i - t + 1 by omega]
        rw [e2, gw_suc, xr_go c _ _ q.2.1, show t + (cw + i - t) = cw + i by omega, if_neg (show ¬ (cu < 8 ∧ cw + i < cu) by omega), ← e1]
        exact r3
    · rw [hz, b2_f q, if_pos (by decide)]
      obtain ⟨d1, d2, d3, d4⟩ := tab _ (fun k hk => rfl)
      refine ⟨_, ⟨?_, d1, ?_, d2, d3, d4⟩, rfl⟩
      · simp only []; omega
      · simp only []
        have e1 : vC c p s w cu t (cw + (i + 1) - t) = vC c p s w cu t (cw + i - t) := by unfold vC; rw [if_neg q, if_neg q]
        rw [e1]; exact hwn
  · obtain ⟨τ, v⟩ := y
    obtain ⟨hv, hf, hw1, hmn, hr, hr2⟩ := hI
    simp only [] at hv hf hw1 hmn hr hr2 ⊢
    subst hv
    have hXτ : RelX c τ := hX.congr hc (fun k b1 b2 => hf k (by omega) (by omega))
    rw [hXτ.2.2.1, show cw + (cK c - cw) = cK c by omega, if_pos (by omega)]
    rw [show cw + (cK c - cw) = cK c by omega] at hr hr2
    exact ⟨_, rfl, hf, hmn, hr, hr2⟩
  · simp only []
    show sUc σ 41 _ 41 k = _
    rw [sUc_at, if_pos hk, Nat.add_zero]; exact hV k hk
  · simp only []; rw [sUc_ne (by omega)]; exact hMn i hi
  · simp only []; rw [sUc_ne (by omega)]
def Tbw (c : cC) (p s t w : Nat) (σ : sM) : Prop := (po s w < cZ c w → ∀ u, t ≤ u → u < cK c → σ 42 ((w * 8 + t) * 8 + u) = (gn c p s t w 8 u : Int)) ∧ (po s w = cZ c w → ∀ cu u, t ≤ cu → cu ≤ u → u < cK c → σ 42 ((w * 8 + cu) * 8 + u) = (gn c p s t w cu u : Int))
theorem e_tellMeans {c : cC} {t s p F w : Nat} {σ : sM} (hc : OkC c) (hX : RelX c σ) (hF : 10 ≤ F) (hw : w < cW c) (hv : Vs c s) (hp : p < 8) (ht : t ≤ cK c) (h12 : σ 37 12 = (t : Int)) (h14 : σ 37 14 = (s : Int)) (h15 : σ 37 15 = (p : Int)) (hMn : Mn σ) : ∃ σ1, X0_tellMeans F σ (w : Int) = some (0, σ1) ∧ (∀ k, k ≠ 39 → k ≠ 41 → k ≠ 42 → k ≠ 44 → σ1 k = σ k) ∧ Mn σ1 ∧ (0 < po s w → Tbw c p s t w σ1 ∧ σ1 44 w = (if po s w < cZ c w then (t : Int) else -1)) ∧ (∀ i, i < w * 64 ∨ w * 64 + 64 ≤ i → σ1 42 i = σ 42 i) ∧ ∀ v, v ≠ w → σ1 44 v = σ 44 v := by
  have c3 := hc.2.1
  have c5 := hc.2.2.1
  have hs := hv.lt hc
  have hO := (hc.2.2.2.2.1 w hw).1
  have hpl := hv.2 w (by omega)
  have hpo := po_lt s w
  have hsp := sp_lt s w
  unfold X0_tellMeans
  rw [wiN (n := w) (by omega), if_neg (by omega), if_neg (by omega), h14, h15, e_portionsOf σ hs (by omega), bp_some, wiN (n := po s w) (by omega)]
  by_cases q0 : po s w = 0
  · rw [if_neg (by omega)]
    exact ⟨_, rfl, fun _ _ _ _ _ => rfl, hMn, fun h => by omega, fun _ _ => rfl, fun _ _ => rfl⟩
  · rw [if_pos (by omega), e_mayGoOn (c := c) hs (by omega) hp, bp_some, e_stepOf σ hs (by omega), bp_some]
    obtain ⟨σ1, e1, f1, r1⟩ := e_startAt (F := F) (o := 38) (b := sp s w) (σ := σ) hF hsp
    have hX1 : RelX c σ1 := hX.congr hc (fun k b1 b2 => f1 k (by omega))
    have r1' : Wt 39 (unK (sp s w)) σ1 := r1
    have h37 := f1 37 (by omega)
    rw [e1, bn_some, h37, h14, e_isWhole hX1 hc hs (by omega), bp_some, b2_ifn, Int.toNat_natCast, h12]
    have v0 : ∀ cu, vC c p s w cu t 0 = unK (sp s w) := fun cu => by
      unfold vC
      split
      · rfl
      · rfl
    by_cases qw : po s w = cZ c w
    · rw [if_pos qw, if_pos (by omega), sU_ne (k' := 37) (by omega), h37, h12]
      have hMn1 : Mn σ1 := fun i hi => by rw [f1 42 (by omega)]; exact hMn i hi
      refine lp_inv (fun i (y : sM × Int) => y.2 = ((t + i : Nat) : Int) ∧ (∀ k, k ≠ 39 → k ≠ 41 → k ≠ 42 → k ≠ 44 → y.1 k = σ k) ∧ Wt 39 (if gO s p w then wh c p s w t i else unK (sp s w)) y.1 ∧ Mn y.1 ∧ (∀ cu u, t ≤ cu → cu < t + i → cu ≤ u → u < cK c → y.1 42 ((w * 8 + cu) * 8 + u) = (gn c p s t w cu u : Int)) ∧ (∀ i', i' < w * 64 ∨ w * 64 + 64 ≤ i' → y.1 42 i' = σ 42 i') ∧ y.1 44 w = -1 ∧ ∀ v, v ≠ w → y.1 44 v = σ 44 v) (cK c - t) (fun (r : Option (Int × sM)) => ∃ σ1 : sM, r = some (0, σ1) ∧ (∀ k, k ≠ 39 → k ≠ 41 → k ≠ 42 → k ≠ 44 → σ1 k = σ k) ∧ Mn σ1 ∧ (0 < po s w → Tbw c p s t w σ1 ∧ σ1 44 w = (if po s w < cZ c w then (t : Int) else -1)) ∧ (∀ i, i < w * 64 ∨ w * 64 + 64 ≤ i → σ1 42 i = σ 42 i) ∧ ∀ v, v ≠ w → σ1 44 v = σ 44 v) (fun i y hi hI K => ?_) (fun y hI K => ?_) ⟨rfl, fun k a1 a2 a3 a4 => by simp only []; rw [sU_ne a4]; exact f1 k a1, fun k hk => ?_, fun i hi => by simp only []; rw [sU_ne (by omega)]; exact hMn1 i hi, fun cu u h1 h2 => absurd h2 (by omega), fun i' _ => by simp only []; rw [sU_ne (by omega), f1 42 (by omega)], by simp only []; rw [sUv], fun v hv => by simp only []; rw [sUnj hv, f1 44 (by omega)]⟩ (by omega)
      · obtain ⟨τ, v⟩ := y
        obtain ⟨hv', hf, hw1, hmn, hr, hr2, hc44, hc44'⟩ := hI
        simp only [] at hv' hf hw1 hmn hr hr2 hc44 hc44' ⊢
        subst hv'
        have hXτ : RelX c τ := hX.congr hc (fun k b1 b2 => hf k (by omega) (by omega) (by omega) (by omega))
        have hVc : Wt 39 (vC c p s w (t + i) t (t + i - t)) τ := by
          unfold vC
          rw [show t + i - t = i by omega, gw_wh c p s w (t + i) t i (by omega) (by omega)]
          exact hw1
        obtain ⟨σ2, e2, f2, m2, g2, o2⟩ := e_cutMeans (F := F) (cu := t + i) (cw := t + i) (z := b2 (gO s p w)) hc hXτ hF hw (by omega) (Or.inl ⟨rfl, by omega⟩) (by omega) (by omega) hVc hmn rfl
        rw [hXτ.2.2.1, if_neg (show ¬ wi (cK c : Int) ≤ wi ((t + i : Nat) : Int) by rw [wiN (by omega), wiN (by omega)]; omega), e2, bn_some]
        simp only [jn_def]
        rw [b2_if0]
        have hX2 : RelX c σ2 := hXτ.congr hc (fun k b1 b2 => f2 k (by omega) (by omega))
        have tab : (∀ cu u, t ≤ cu → cu < t + (i + 1) → cu ≤ u → u < cK c → σ2 42 ((w * 8 + cu) * 8 + u) = (gn c p s t w cu u : Int)) ∧ (∀ i', i' < w * 64 ∨ w * 64 + 64 ≤ i' → σ2 42 i' = σ 42 i') := by
          refine ⟨fun cu u h1 h2 h3 h4 => ?_, fun i' hi' => ?_⟩
          · by_cases y : cu = t + i
            · subst y; exact g2 u h3 h4
            · rw [o2 _ (fun u' a b => by omega)]; exact hr cu u h1 (by omega) h3 h4
          · rw [o2 _ (fun u' a b => by omega)]; exact hr2 i' hi'
        by_cases q : gO s p w
        · rw [if_pos q, if_pos q, e_sortOf hX2 hc hw, bp_some]
          rw [if_pos q] at hw1
          have hw2 : Wt (38 + 1) (wh c p s w t i) σ2 := fun k hk => by rw [f2 39 (by omega) (by omega)]; exact hw1 k hk
          obtain ⟨σ3, e3, f3, r3⟩ := e_weekGoesBy (F := F) (o := 38) (i := cO c w) (z := 0) (t := t + i) hc hX2 (by omega) hF (by omega) hO (by omega) hw2
          rw [show ((0 : Nat) : Int) = 0 from rfl] at e3
          rw [e3, bn_some]
          refine ⟨_, ⟨?_, fun k a1 a2 a3 a4 => ?_, ?_, fun k hk => ?_, fun cu u h1 h2 h3 h4 => ?_, fun i' hi' => ?_, ?_, fun v hv => ?_⟩, rfl⟩
          · simp only []; omega
          · simp only []; rw [f3 k a1, f2 k a2 a3]; exact hf k a1 a2 a3 a4
          · simp only []
            have : wh c p s w t (i + 1) = ag (xr c p w 4 (t + i)) (wh c p s w t i) := rfl
            rw [this, xr_go c _ _ q.2.1]
            exact r3
          · simp only []; rw [f3 42 (by omega)]; exact m2 k hk
          · simp only []; rw [f3 42 (by omega)]; exact tab.1 cu u h1 h2 h3 h4
          · simp only []; rw [f3 42 (by omega)]; exact tab.2 i' hi'
          · simp only []; rw [f3 44 (by omega), f2 44 (by omega) (by omega)]; exact hc44
          · simp only []; rw [f3 44 (by omega), f2 44 (by omega) (by omega)]; exact hc44' v hv
        · rw [if_neg q, if_neg q]
          rw [if_neg q] at hw1
          refine ⟨_, ⟨?_, fun k a1 a2 a3 a4 => ?_, ?_, m2, tab.1, tab.2, ?_, fun v hv => ?_⟩, rfl⟩
          · simp only []; omega
          · simp only []; rw [f2 k a2 a3]; exact hf k a1 a2 a3 a4
          · exact fun k hk => by simp only []; rw [f2 39 (by omega) (by omega)]; exact hw1 k hk
          · simp only []; rw [f2 44 (by omega) (by omega)]; exact hc44
          · simp only []; rw [f2 44 (by omega) (by omega)]; exact hc44' v hv
      · obtain ⟨τ, v⟩ := y
        obtain ⟨hv', hf, hw1, hmn, hr, hr2, hc44, hc44'⟩ := hI
        simp only [] at hv' hf hw1 hmn hr hr2 hc44 hc44' ⊢
        subst hv'
        have hXτ : RelX c τ := hX.congr hc (fun k b1 b2 => hf k (by omega) (by omega) (by omega) (by omega))
        rw [hXτ.2.2.1, show t + (cK c - t) = cK c by omega, if_pos (by omega)]
        exact ⟨_, rfl, hf, hmn, fun _ => ⟨⟨fun h => by omega, fun _ cu u h1 h2 h3 => hr cu u h1 (by omega) h2 h3⟩, by rw [if_neg (by omega)]; exact hc44⟩, hr2, hc44'⟩
      · simp only []
        rw [sU_ne (by omega), r1' k hk]
        split
        · rfl
        · rfl
    · rw [if_neg qw, if_pos (by omega), sU_ne (k' := 37) (by omega), h37, h12]
      have hXs : RelX c (sU σ1 44 w (t : Int)) := hX1.congr hc (fun k b1 b2 => sU_ne (by omega))
      have hVc : Wt 39 (vC c p s w 8 t (t - t)) (sU σ1 44 w (t : Int)) := fun k hk => by rw [sU_ne (by omega), Nat.sub_self, v0]; exact r1' k hk
      have hMn1 : Mn (sU σ1 44 w (t : Int)) := fun i hi => by rw [sU_ne (by omega), f1 42 (by omega)]; exact hMn i hi
      obtain ⟨σ2, e2, f2, m2, g2, o2⟩ := e_cutMeans (F := F) (cu := 8) (cw := t) (z := b2 (gO s p w)) hc hXs hF hw (by omega) (Or.inr rfl) (by omega) (by omega) hVc hMn1 rfl
      rw [e2, bn_some]
      refine ⟨_, rfl, fun k a1 a2 a3 a4 => by rw [f2 k a2 a3, sU_ne a4]; exact f1 k a1, m2, fun _ => ⟨⟨fun _ u h1 h2 => g2 u h1 h2, fun h => absurd h qw⟩, ?_⟩, fun i hi => ?_, fun v hv => ?_⟩
      · rw [f2 44 (by omega) (by omega), sUv, if_pos (by omega)]
      · by_cases ty : t < cK c
        · rw [o2 _ (fun u' a b => by omega), sU_ne (by omega), f1 42 (by omega)]
        · rw [o2 _ (fun u' a b => by omega), sU_ne (by omega), f1 42 (by omega)]
      · rw [f2 44 (by omega) (by omega), sUnj hv, f1 44 (by omega)]
