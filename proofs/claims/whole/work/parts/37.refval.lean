theorem lp_inv {α β : Type} {B : (β → Option α) → β → Option α} (I : Nat → β → Prop) (n : Nat) (P : Option α → Prop) (hs : ∀ i x, i < n → I i x → ∀ K, ∃ x', I (i + 1) x' ∧ B K x = K x') (he : ∀ x, I n x → ∀ K, P (B K x)) {F : Nat} {x : β} (h0 : I 0 x) (hF : n < F) : P (lp B F x) := by
  have key : ∀ m i F x, i + m = n → I i x → m < F → P (lp B F x) := by
    intro m
    induction m with
    | zero =>
      intro i F x h1 h2 h3
      obtain ⟨G, rfl⟩ : ∃ G, F = G + 1 := ⟨F - 1, by omega⟩
      rw [lp_succ]
      rw [show i = n by omega] at h2
      exact he x h2 _
    | succ m ih =>
      intro i F x h1 h2 h3
      obtain ⟨G, rfl⟩ : ∃ G, F = G + 1 := ⟨F - 1, by omega⟩
      rw [lp_succ]
      obtain ⟨x', h4, h5⟩ := hs i x (by omega) h2 (lp B G)
      rw [h5]
      exact ih (i + 1) G x' (by omega) h4 (by omega)
  exact key n 0 F x (by omega) h0 hF
theorem RelM.congr {c : cC} {σ σ' : sM} (h : RelM c σ) (he : ∀ k, 57 ≤ k → k ≤ 65 → σ' k = σ k) : RelM c σ' := by
  obtain ⟨h1, h2, h3, h4, h5, h6, h7⟩ := h
  refine ⟨by rw [he 57 (by omega) (by omega)]; exact h1, by rw [he 58 (by omega) (by omega)]; exact h2, by rw [he 59 (by omega) (by omega)]; exact h3, by rw [he 60 (by omega) (by omega)]; exact h4, fun w hw => ?_, fun t ht => ?_, fun i hi k hk => ?_⟩
  · rw [he 62 (by omega) (by omega), he 63 (by omega) (by omega)]; exact h5 w hw
  · rw [he 64 (by omega) (by omega), he 65 (by omega) (by omega)]; exact h6 t ht
  · rw [he 61 (by omega) (by omega)]; exact h7 i hi k hk
theorem RelP.congr {c : cC} {p : Nat} {σ σ' : sM} (h : RelP c p σ) (he : σ' 73 = σ 73) : RelP c p σ' := by
  intro w hw; rw [he]; exact h w hw
theorem sUne {σ : sM} {k j : Nat} {v : Int} {k' : Nat} (h : k' ≠ k) : sU σ k j v k' = σ k' := by
  funext j'; unfold sU; rw [if_neg (fun x => h x.1)]
theorem sUnj {σ : sM} {k j : Nat} {v : Int} {k' j' : Nat} (h : j' ≠ j) : sU σ k j v k' j' = σ k' j' := by
  unfold sU; rw [if_neg (fun x => h x.2)]
theorem sUat {σ : sM} {k j : Nat} {v : Int} : sU σ k j v k j = v := by
  unfold sU; rw [if_pos ⟨rfl, rfl⟩]
theorem q_and1 {y : Nat} (h : y < 8) : q_and (y : Int) 1 = ((y % 2 : Nat) : Int) ∧ q_and (y : Int) 2 = ((2 * (y / 2 % 2) : Nat) : Int) ∧ q_and (y : Int) 4 = ((4 * (y / 4 % 2) : Nat) : Int) := by
  have : ∀ y : Nat, y < 8 → q_and (y : Int) 1 = ((y % 2 : Nat) : Int) ∧ q_and (y : Int) 2 = ((2 * (y / 2 % 2) : Nat) : Int) ∧ q_and (y : Int) 4 = ((4 * (y / 4 % 2) : Nat) : Int) := by decide +kernel
  exact this y h
theorem q_ldiv1000 {n : Nat} (h : n < 2 ^ 63) : q_ldiv (n : Int) 1000 = ((n / 1000 : Nat) : Int) := by
  unfold q_ldiv
  rw [Int64.toInt_div, Int64.toInt_ofInt, Int64.toInt_ofInt]
  rw [show ((n : Int).bmod (2 ^ 64)) = (n : Int) from Int.bmod_eq_of_le (by omega) (by omega), show ((1000 : Int).bmod (2 ^ 64)) = 1000 from by decide]
  rw [Int.tdiv_eq_ediv_of_nonneg (by omega), show (n : Int) / 1000 = ((n / 1000 : Nat) : Int) by omega]
  exact Int.bmod_eq_of_le (by omega) (by omega)
theorem f_meanOf {c : cC} {σ : sM} {p F : Nat} (h : RelM c σ) (hc : OkC c) (hp : RelP c p σ) (hF : 10 ≤ F) {s t : Nat} (hv : Vs c s) (ht : t < 1000) (z : Int) (f : Nat → Nat) (hz : z = 1 ∧ (∀ s, Vs c s → σ 75 s = (f s : Int)) ∨ z = 0 ∧ (∀ s, Vs c s → σ 76 s = (f s : Int))) (hf : ∀ s, f s < 10000000) : X9_meanOf F σ (s : Int) (t : Int) z = some (mn c p t f s : Int) := by
  have hs := hv.lt hc
  have a1 := tn_le c s p 0 t
  have b1 := tn_le c s p 1 t
  have d1 := tn_le c s p 2 t
  unfold X9_meanOf
  have t0 := f_tenths h hc hp (t := t) hv (w := 0) (by omega) ht
  have t1 := f_tenths h hc hp (t := t) hv (w := 1) (by omega) ht
  have t2 := f_tenths h hc hp (t := t) hv (w := 2) (by omega) ht
  rw [show ((0 : Nat) : Int) = 0 from rfl] at t0
  rw [show ((1 : Nat) : Int) = 1 from rfl] at t1
  rw [show ((2 : Nat) : Int) = 2 from rfl] at t2
  rw [t0, bp_some, t1, bp_some, t2, bp_some]
  have hB : ∀ n, ms f (tn c s p 0 t) (tn c s p 1 t) (tn c s p 2 t) s n ≤ wts (tn c s p 0 t) (tn c s p 1 t) (tn c s p 2 t) n * 10000000 := ms_le (fun s => Nat.le_of_lt (hf s)) _ _ _ _
  refine lp_run (fun i => (((ms f (tn c s p 0 t) (tn c s p 1 t) (tn c s p 2 t) s i : Nat) : Int), ((i : Nat) : Int))) 8 (fun y hy K => ?_) (fun K => ?_) (by omega)
  · simp only []
    obtain ⟨q1, q2, q4⟩ := q_and1 hy
    rw [q1, q2, q4]
    have e10 : ∀ K : Int → Option Int, jn K (fun K => if ¬ wi ((y % 2 : Nat) : Int) = 1 then K (10 - (tn c s p 0 t : Int)) else K (tn c s p 0 t : Int)) = K (shr (y % 2) (tn c s p 0 t) : Int) := by
      intro K
      rw [jn_def]
      unfold shr
      rw [wiN (by omega)]
      by_cases q : y % 2 = 1
      · rw [if_neg (by omega), if_pos q]
      · rw [if_pos (by omega), if_neg q]; congr 1; omega
    have e12 : ∀ K : Int → Option Int, jn K (fun K => if ¬ wi ((2 * (y / 2 % 2) : Nat) : Int) = 2 then K (10 - (tn c s p 1 t : Int)) else K (tn c s p 1 t : Int)) = K (shr (y / 2 % 2) (tn c s p 1 t) : Int) := by
      intro K
      rw [jn_def]
      unfold shr
      rw [wiN (by omega)]
      by_cases q : y / 2 % 2 = 1
      · rw [if_neg (by omega), if_pos q]
      · rw [if_pos (by omega), if_neg q]; congr 1; omega
    have e14 : ∀ K : Int → Option Int, jn K (fun K => if ¬ wi ((4 * (y / 4 % 2) : Nat) : Int) = 4 then K (10 - (tn c s p 2 t : Int)) else K (tn c s p 2 t : Int)) = K (shr (y / 4 % 2) (tn c s p 2 t) : Int) := by
      intro K
      rw [jn_def]
      unfold shr
      rw [wiN (by omega)]
      by_cases q : y / 4 % 2 = 1
      · rw [if_neg (by omega), if_pos q]
      · rw [if_pos (by omega), if_neg q]; congr 1; omega
    rw [if_neg (by rw [wiN (by omega)]; omega)]
    simp only [e10, e12, e14, jn_def]
    have hw := wt_le (y := y) a1 b1 d1
    rw [show ((shr (y % 2) (tn c s p 0 t) : Nat) : Int) * ((shr (y / 2 % 2) (tn c s p 1 t) : Nat) : Int) * ((shr (y / 4 % 2) (tn c s p 2 t) : Nat) : Int) = ((wt (tn c s p 0 t) (tn c s p 1 t) (tn c s p 2 t) y : Nat) : Int) by unfold wt; push_cast; rfl]
    rw [wiN (n := wt _ _ _ _) (by omega)]
    have e1 : ((y + 1 : Nat) : Int) = (y : Int) + 1 := by omega
    have e2 : ((ms f (tn c s p 0 t) (tn c s p 1 t) (tn c s p 2 t) s (y + 1) : Nat) : Int) = (ms f (tn c s p 0 t) (tn c s p 1 t) (tn c s p 2 t) s y : Int) + (wt (tn c s p 0 t) (tn c s p 1 t) (tn c s p 2 t) y : Int) * (f (to_ s y) : Int) := by
      show ((ms f _ _ _ s y + wt _ _ _ y * f (to_ s y) : Nat) : Int) = _
      push_cast; rfl
    rw [e1, e2]
    by_cases q : wt (tn c s p 0 t) (tn c s p 1 t) (tn c s p 2 t) y = 0
    · rw [if_pos (by omega), q]
      simp only [Int.natCast_zero, Int.zero_mul, Int.add_zero]
    · rw [if_neg (by omega)]
      have hv' := to_Vs hc hv q
      have hl := hv'.lt hc
      have hfl := hf (to_ s y)
      rw [nm_def, show (s : Int) + 4 * ((y % 2 : Nat) : Int) + 32 * ((2 * (y / 2 % 2) : Nat) : Int) + 256 * ((4 * (y / 4 % 2) : Nat) : Int) = ((to_ s y : Nat) : Int) by unfold to_; omega]
      rw [wiN (n := to_ s y) (by omega), Int.toNat_natCast]
      rcases hz with ⟨hz, hz2⟩ | ⟨hz, hz2⟩
      · subst hz
        rw [if_neg (by decide), if_pos (by omega), hz2 _ hv', wiN (n := f _) (by omega)]
      · subst hz
        rw [if_pos (by decide), if_pos (by omega), hz2 _ hv', wiN (n := f _) (by omega)]
  · simp only []
    rw [if_pos (by decide)]
    have := hB 8
    rw [wts8 a1 b1 d1] at this
    rw [q_ldiv1000 (by omega)]
    rfl
def RowF (c : cC) (f : Nat → Nat) (σ : sM) : Prop := ∀ s, Vs c s → σ 75 s = (f s : Int)
def RowG (c : cC) (g : Nat → Nat) (σ : sM) : Prop := ∀ s, Vs c s → σ 76 s = (g s : Int)
theorem f_bringsBy {c : cC} {σ : sM} {p F : Nat} (h : RelM c σ) (hc : OkC c) (hp : RelP c p σ) (hF : 10 ≤ F) {s k t : Nat} (hv : Vs c s) (ht : t < 8) (f : Nat → Nat) (hf : ∀ s, f s < 10000000) (hr : RowF c f σ) (hd : mD c s k) : X9_bringsBy F σ (s : Int) (k : Int) (t : Int) = some (br c p t f s k : Int) := by
  have hs := hv.lt hc
  have hk := mD_k hd
  unfold X9_bringsBy
  rw [f_hadBy h hc hs hk ht hd, bp_some, f_behind h hc hs hk hd, bp_some, f_meanOf h hc hp hF (bh_Vs hc hv hd) (by omega) 1 f (Or.inl ⟨rfl, hr⟩) hf, bp_some]
  unfold br
  exact congrArg some (by omega)
theorem br_lt {c : cC} (hc : OkC c) {p t : Nat} {f : Nat → Nat} (hf : ∀ s, f s < 10000000) (s k : Nat) : br c p t f s k < 11000000 := by
  have h1 := hB_le hc s k t
  have h2 := mn_le (c := c) (p := p) (t := t) (f := f) (B := 9999999) (fun s => by have := hf s; omega) (bh s k)
  unfold br; omega
theorem f_chooseB {c : cC} {σ : sM} {p F : Nat} (h : RelM c σ) (hc : OkC c) (hp : RelP c p σ) (hF : 10 ≤ F) {s t : Nat} (hv : Vs c s) (ht : t < 8) (f : Nat → Nat) (hf : ∀ s, f s < 10000000) (hr : RowF c f σ) : X9_choose F σ 4 (s : Int) (t : Int) = some ((chB c p t f s 7).1 : Int) := by
  unfold X9_choose
  rw [if_neg (by decide)]
  refine lp_run (fun i => (((chB c p t f s i).1 : Int), (chB c p t f s i).2, ((i : Nat) : Int))) 7 (fun k hk K => ?_) (fun K => ?_) (by omega)
  · simp only [jn_def]
    rw [wiN (n := k) (by omega), if_neg (by omega), f_mayDo h hc hF hv hk, bp_some, b2_if0]
    have e1 : ((k + 1 : Nat) : Int) = (k : Int) + 1 := by omega
    have e : chB c p t f s (k + 1) = if mD c s k ∧ (chB c p t f s k).2 < (br c p t f s k : Int) then (k, (br c p t f s k : Int)) else chB c p t f s k := rfl
    rw [e1, e]
    have hm : -1 ≤ (chB c p t f s k).2 ∧ (chB c p t f s k).2 < 11000000 := by
      rcases chB_ok c p t f s k with q | q
      · rw [q.2]; decide
      · have := br_lt (p := p) (t := t) hc hf s (chB c p t f s k).1
        rw [q.2]; omega
    have hb := br_lt (p := p) (t := t) hc hf s k
    by_cases q : mD c s k
    · rw [if_pos q, f_bringsBy h hc hp hF hv ht f hf hr q, bp_some]
      by_cases q2 : (chB c p t f s k).2 < (br c p t f s k : Int)
      · simp (disch := omega) only [b2_if0, b2_ifn, b2_if1, jn_def, nm_def, bp_some, bn_some, wiZ, wlZ, wiD, if_pos, if_neg, if_true, if_false, not_true_eq_false, not_false_eq_true, Int.toNat_natCast]
      · simp (disch := omega) only [b2_if0, b2_ifn, b2_if1, jn_def, nm_def, bp_some, bn_some, wiZ, wlZ, wiD, if_pos, if_neg, if_true, if_false, not_true_eq_false, not_false_eq_true, Int.toNat_natCast]
    · rw [if_neg q]
      simp (disch := omega) only [b2_if0, b2_ifn, b2_if1, jn_def, nm_def, bp_some, bn_some, wiZ, wlZ, wiD, if_pos, if_neg, if_true, if_false, not_true_eq_false, not_false_eq_true, Int.toNat_natCast]
  · simp only []
    rw [if_pos (by decide)]
theorem f_chooseR {c : cC} {σ : sM} {F r : Nat} (h : RelM c σ) (hc : OkC c) (hF : 10 ≤ F) {s : Nat} (hv : Vs c s) (t : Int) (hr : r < 4) : X9_choose F σ (r : Int) (s : Int) t = some (chR c r s (cW c) : Int) := by
  have hs := hv.lt hc
  have h4 := hc.2.1
  unfold X9_choose
  rw [wiN (n := r) (by omega), if_pos (by omega)]
  refine lp_run (fun i => (((chR c r s i : Nat) : Int), ((i : Nat) : Int))) (cW c) (fun w hw K => ?_) (fun K => ?_) (by omega)
  · simp only [jn_def]
    have hk : chR c r s w < 7 := by
      rcases chR_ok c r s w with q | q
      · omega
      · omega
    rw [h.2.1]
    have e1 : ((w + 1 : Nat) : Int) = (w : Int) + 1 := by omega
    have e : chR c r s (w + 1) = if mE c s w ∧ (chR c r s w = 6 ∨ rk c r s (chR c r s w) < rk c r s w) then w else chR c r s w := rfl
    rw [e1, e, f_mayEat h hc hF hv (by omega), bp_some, b2_if0]
    simp (disch := omega) only [b2_if0, b2_ifn, b2_if1, jn_def, nm_def, bp_some, bn_some, wiZ, wlZ, wiD, if_pos, if_neg, if_true, if_false, not_true_eq_false, not_false_eq_true, Int.toNat_natCast]
    by_cases q : mE c s w
    · rw [if_pos q, f_codeOf σ hs (by omega), bp_some, cd_shr]
      have hsp := sp_lt s w
      have hg1 := cT_le hc (cO c w) (sp s w)
      by_cases q6 : chR c r s w = 6
      · rw [if_pos (show mE c s w ∧ (chR c r s w = 6 ∨ rk c r s (chR c r s w) < rk c r s w) from ⟨q, Or.inl q6⟩), q6]
        have e6 : q_rem ((6 : Nat) : Int) 3 = ((0 : Nat) : Int) := by decide
        have hg := f_goodOf h hc (w := 0) (k := 0) (by omega) (by omega)
        rw [show ((0 : Nat) : Int) = 0 from rfl] at hg e6
        simp (disch := omega) only [b2_if0, b2_ifn, b2_if1, jn_def, nm_def, bp_some, bn_some, wiZ, wlZ, wiD, if_pos, if_neg, if_true, if_false, not_true_eq_false, not_false_eq_true, Int.toNat_natCast, f_goodOf h hc, e6, hg]
        split
        · split
          · split
            · rfl
            · split <;> rfl
          · split <;> rfl
        · split <;> rfl
      · rcases chR_ok c r s w with q7 | q7
        · exact absurd q7 q6
        have hlt : chR c r s w < cW c := q7.2.1
        have hsp2 := sp_lt s (chR c r s w)
        have hg2 := cT_le hc (cO c (chR c r s w)) (sp s (chR c r s w))
        have er := q_rem3 (k := chR c r s w) (by omega)
        rw [show chR c r s w % 3 = chR c r s w by omega] at er
        simp (disch := omega) only [b2_if0, b2_ifn, b2_if1, jn_def, nm_def, bp_some, bn_some, wiZ, wlZ, wiD, if_pos, if_neg, if_true, if_false, not_true_eq_false, not_false_eq_true, Int.toNat_natCast, f_codeOf, cd_shr, er, f_goodOf h hc]
        rcases (show r = 0 ∨ r = 1 ∨ r = 2 ∨ r = 3 by omega) with rfl | rfl | rfl | rfl
        · simp (disch := omega) only [b2_if0, b2_ifn, b2_if1, jn_def, nm_def, bp_some, bn_some, wiZ, wlZ, wiD, if_pos, if_neg, if_true, if_false, not_true_eq_false, not_false_eq_true, Int.toNat_natCast]
          rw [if_neg (show ¬ (mE c s w ∧ (chR c 0 s w = 6 ∨ rk c 0 s (chR c 0 s w) < rk c 0 s w)) from fun x => by rcases x.2 with y | y; exact q6 y; exact absurd y (by show ¬ ((0 : Int) < 0); decide))]
        · have k1 : rk c 1 s w = (sp s w : Int) := rfl
          have k2 : rk c 1 s (chR c 1 s w) = (sp s (chR c 1 s w) : Int) := rfl
          rw [k1, k2]
          by_cases q8 : sp s (chR c 1 s w) < sp s w
          · simp (disch := omega) only [b2_if0, b2_ifn, b2_if1, jn_def, nm_def, bp_some, bn_some, wiZ, wlZ, wiD, if_pos, if_neg, if_true, if_false, not_true_eq_false, not_false_eq_true, Int.toNat_natCast]
          · simp (disch := omega) only [b2_if0, b2_ifn, b2_if1, jn_def, nm_def, bp_some, bn_some, wiZ, wlZ, wiD, if_pos, if_neg, if_true, if_false, not_true_eq_false, not_false_eq_true, Int.toNat_natCast]
        · have k1 : rk c 2 s w = -(cT c (cO c w) (sp s w) : Int) := rfl
          have k2 : rk c 2 s (chR c 2 s w) = -(cT c (cO c (chR c 2 s w)) (sp s (chR c 2 s w)) : Int) := rfl
          rw [k1, k2]
          by_cases q8 : cT c (cO c w) (sp s w) < cT c (cO c (chR c 2 s w)) (sp s (chR c 2 s w))
          · simp (disch := omega) only [b2_if0, b2_ifn, b2_if1, jn_def, nm_def, bp_some, bn_some, wiZ, wlZ, wiD, if_pos, if_neg, if_true, if_false, not_true_eq_false, not_false_eq_true, Int.toNat_natCast]
          · simp (disch := omega) only [b2_if0, b2_ifn, b2_if1, jn_def, nm_def, bp_some, bn_some, wiZ, wlZ, wiD, if_pos, if_neg, if_true, if_false, not_true_eq_false, not_false_eq_true, Int.toNat_natCast]
        · have k1 : rk c 3 s w = (cT c (cO c w) (sp s w) : Int) := rfl
          have k2 : rk c 3 s (chR c 3 s w) = (cT c (cO c (chR c 3 s w)) (sp s (chR c 3 s w)) : Int) := rfl
          rw [k1, k2]
          by_cases q8 : cT c (cO c (chR c 3 s w)) (sp s (chR c 3 s w)) < cT c (cO c w) (sp s w)
          · simp (disch := omega) only [b2_if0, b2_ifn, b2_if1, jn_def, nm_def, bp_some, bn_some, wiZ, wlZ, wiD, if_pos, if_neg, if_true, if_false, not_true_eq_false, not_false_eq_true, Int.toNat_natCast]
          · simp (disch := omega) only [b2_if0, b2_ifn, b2_if1, jn_def, nm_def, bp_some, bn_some, wiZ, wlZ, wiD, if_pos, if_neg, if_true, if_false, not_true_eq_false, not_false_eq_true, Int.toNat_natCast]
    · rw [if_neg q, if_neg (fun x => q x.1)]
  · simp only []
    rw [h.2.1, if_pos (by omega)]
theorem f_choose {c : cC} {σ : sM} {p F r : Nat} (h : RelM c σ) (hc : OkC c) (hp : RelP c p σ) (hF : 10 ≤ F) {s t : Nat} (hv : Vs c s) (ht : t < 8) (hr4 : r ≤ 4) (f : Nat → Nat) (hf : ∀ s, f s < 10000000) (hr : RowF c f σ) : X9_choose F σ (r : Int) (s : Int) (t : Int) = some (ch c r p t f s : Int) := by
  unfold ch
  by_cases q : r = 4
  · subst q; rw [if_pos rfl]; exact f_chooseB h hc hp hF hv ht f hf hr
  · rw [if_neg q]; exact f_chooseR h hc hF hv _ (by omega)
