theorem Hf_t {c : cC} (r p : Nat) {t : Nat} (ht : t < cK c) (s : Nat) : Hf c r p (cK c - t) s = br c p t (Hf c r p (cK c - (t + 1))) s (ch c r p t (Hf c r p (cK c - (t + 1))) s) := by
  obtain ⟨m, hm⟩ : ∃ m, cK c - t = m + 1 := ⟨cK c - (t + 1), by omega⟩
  rw [hm, show cK c - (t + 1) = m by omega]
  show br c p (cK c - (m + 1)) (Hf c r p m) s (ch c r p (cK c - (m + 1)) (Hf c r p m) s) = _
  rw [show cK c - (m + 1) = t by omega]
theorem Hg_t {c : cC} (r p : Nat) {t : Nat} (ht : t < cK c) (s : Nat) : Hg c r p (cK c - t) s = mn c p t (Hg c r p (cK c - (t + 1))) (bh s (ch c r p t (Hf c r p (cK c - (t + 1))) s)) := by
  obtain ⟨m, hm⟩ : ∃ m, cK c - t = m + 1 := ⟨cK c - (t + 1), by omega⟩
  rw [hm, show cK c - (t + 1) = m by omega]
  show mn c p (cK c - (m + 1)) (Hg c r p m) (bh s (ch c r p (cK c - (m + 1)) (Hf c r p m) s)) = _
  rw [show cK c - (m + 1) = t by omega]
theorem ch_lt {c : cC} (hc : OkC c) (r p t : Nat) (f : Nat → Nat) (s : Nat) : ch c r p t f s < 7 := mD_k (ch_ok hc r p t f s)
theorem Hf_b {c : cC} (hc : OkC c) (r p t s : Nat) : Hf c r p (cK c - t) s < 10000000 := by
  have := Hf_le hc r p (cK c - t) s
  have := hc.2.2.1
  omega
theorem Hg_b (c : cC) (r p m s : Nat) : Hg c r p m s < 10000000 := by
  have := Hg_le c r p m s
  omega
theorem vP_lt {c : cC} (hc : OkC c) (r p t s : Nat) : vP c r p t s < 2147483648 := by
  have := Hf_b hc r p t s
  have := ch_lt hc r p t (Hf c r p (cK c - (t + 1))) s
  unfold vP; omega
theorem vV_lt {c : cC} (hc : OkC c) (r p t s : Nat) : vV c r p t s < 10000000 := by
  have := mn_le (c := c) (p := p) (t := t) (f := Hf c r p (cK c - (t + 1))) (B := 9999999) (fun s => by have := Hf_b hc r p (t + 1) s; omega) s
  unfold vV; omega
theorem vW_lt (c : cC) (r p t s : Nat) : vW c r p t s < 10000000 := by
  have := mn_le (c := c) (p := p) (t := t) (f := Hg c r p (cK c - (t + 1))) (B := 9999999) (fun s => by have := Hg_b c r p (cK c - (t + 1)) s; omega) s
  unfold vW; omega
theorem pl_lt {c : cC} {r p st o P V W n : Nat} (hx : Fx c r p st o P V W n) {t s : Nat} (hv : Vs c s) (q : t < cK c ∧ 0 < wy c s) : t * un c 3 + wy c s < n := by
  obtain ⟨hc, x1, x2, x3, x4, x5, x6, x7⟩ := hx
  have h5 := hc.2.2.1
  have hw := wy_lt c s
  have ht8 : t * un c 3 ≤ 7 * un c 3 := Nat.mul_le_mul_right _ (by omega)
  omega
theorem e_planAt {c : cC} {r p st o P V W n : Nat} (hx : Fx c r p st o P V W n) {σ : sM} (hm : MI c r p st o P V W n σ) {t s : Nat} (ht : t < 1000) (hv : Vs c s) (F : Nat) (rec : Nat → sM → Int → Int → Int → Option (Int × sM)) (h3 : t < cK c → r ≠ 4 → Rs c r p st o P V W n σ (rec 3 σ (t : Int) (s : Int) 0) (vP c r p t s)) (h2 : t < cK c → r = 4 → Rs c r p st o P V W n σ (rec 2 σ (t : Int) (s : Int) 0) (vP c r p t s)) : Rs c r p st o P V W n σ (X3_planAt F rec o P V W n σ (t : Int) (s : Int)) (if t < cK c ∧ 0 < wy c s then vP c r p t s else 6) := by
  have hc := hx.1
  unfold X3_planAt
  rw [e_placeOf hx hm ht hv, bp_some]
  by_cases q : t < cK c ∧ 0 < wy c s
  · simp only [if_pos q, jn_def]
    have hi := pl_lt hx hv q
    have hn := hx.2.2.2.2.2.2.1
    have hr := hx.2.1
    rw [if_pos (by rw [wiN (by omega)]; omega)]
    by_cases q4 : r = 4
    · have e4 : ¬ ¬ wi (σ o 1) = 4 := fun h => h (by rw [hm.2.1, wiN (by omega)]; omega)
      simp only [if_neg e4]
      exact e_memo hx hm hi (vP_lt hc r p t s) (SpE c (vP c r p)) hm.2.2.2.2.2.1 (fun b hb => hb t s q.1 hv rfl) (Or.inl ⟨rfl, SpE_one hc _ (vP_iv hc r p t) hv⟩) _ (h2 q.1 q4)
    · have e4 : ¬ wi (σ o 1) = 4 := fun h => q4 (by rw [hm.2.1, wiN (by omega)] at h; omega)
      simp only [if_pos e4]
      exact e_memo hx hm hi (vP_lt hc r p t s) (SpE c (vP c r p)) hm.2.2.2.2.2.1 (fun b hb => hb t s q.1 hv rfl) (Or.inl ⟨rfl, SpE_one hc _ (vP_iv hc r p t) hv⟩) _ (h3 q.1 q4)
  · simp only [if_neg q]
    rw [if_neg (by decide)]
    exact ⟨_, _, rfl, by decide, hm, Fr.refl _ _ _ _⟩
theorem e_valueBehind {c : cC} {r p st o P V W n : Nat} (hx : Fx c r p st o P V W n) {σ : sM} (hm : MI c r p st o P V W n σ) {t s : Nat} (ht : t < 1000) (hv : Vs c s) (F : Nat) (rec : Nat → sM → Int → Int → Int → Option (Int × sM)) (h6 : t < cK c → Rs c r p st o P V W n σ (rec 6 σ (t : Int) (s : Int) 0) (vV c r p t s)) : Rs c r p st o P V W n σ (X3_valueBehind F rec o P V W n σ (t : Int) (s : Int)) (if t < cK c then vV c r p t s else 0) := by
  have hc := hx.1
  unfold X3_valueBehind
  rw [e_placeOf hx hm ht hv, bp_some]
  by_cases q : t < cK c ∧ 0 < wy c s
  · simp only [if_pos q, if_pos q.1, jn_def]
    have hi := pl_lt hx hv q
    have hn := hx.2.2.2.2.2.2.1
    have := vV_lt hc r p t s
    rw [if_pos (by rw [wiN (by omega)]; omega)]
    exact e_memo hx hm hi (by omega) (SpE c (vV c r p)) hm.2.2.2.2.2.2.1 (fun b hb => hb t s q.1 hv rfl) (Or.inr (Or.inl ⟨rfl, SpE_one hc _ (vV_iv hc r p t) hv⟩)) _ (h6 q.1)
  · simp only [if_neg q]
    rw [if_neg (by decide)]
    refine ⟨_, _, rfl, ?_, hm, Fr.refl _ _ _ _⟩
    by_cases q1 : t < cK c
    · have q0 : Sm s 0 := wy_0 hc hv (fun h => q ⟨q1, h⟩)
      rw [if_pos q1, vV_iv hc r p t s 0 (hv.lt hc) (by omega) q0]
      unfold vV
      rw [mn_0 (Hf_0 hc _ _ _)]; rfl
    · rw [if_neg q1]; rfl
theorem e_leftBehind {c : cC} {r p st o P V W n : Nat} (hx : Fx c r p st o P V W n) {σ : sM} (hm : MI c r p st o P V W n σ) {t s : Nat} (ht : t < cK c) (hv : Vs c s) (F : Nat) (rec : Nat → sM → Int → Int → Int → Option (Int × sM)) (h6 : Rs c r p st o P V W n σ (rec 6 σ (t : Int) (s : Int) 1) (vW c r p t s)) : Rs c r p st o P V W n σ (X3_leftBehind F rec o P V W n σ (t : Int) (s : Int)) (vW c r p t s) := by
  have hc := hx.1
  have h5 := hc.2.2.1
  unfold X3_leftBehind
  rw [e_placeOf hx hm (by omega) hv, bp_some]
  by_cases q : t < cK c ∧ 0 < wy c s
  · simp only [if_pos q, jn_def]
    have hi := pl_lt hx hv q
    have hn := hx.2.2.2.2.2.2.1
    have := vW_lt c r p t s
    rw [if_pos (by rw [wiN (by omega)]; omega)]
    exact e_memo hx hm hi (by omega) (SpE c (vW c r p)) hm.2.2.2.2.2.2.2 (fun b hb => hb t s q.1 hv rfl) (Or.inr (Or.inr ⟨rfl, SpE_one hc _ (vW_iv hc r p t) hv⟩)) _ h6
  · simp only [if_neg q]
    rw [if_neg (by decide)]
    refine ⟨_, _, rfl, ?_, hm, Fr.refl _ _ _ _⟩
    have q0 : Sm s 0 := wy_0 hc hv (fun h => q ⟨ht, h⟩)
    rw [vW_iv hc r p t s 0 (hv.lt hc) (by omega) q0]
    unfold vW
    rw [mn_0 (Hg_0 hc _ _ _)]; rfl
theorem mD_w {c : cC} {s k : Nat} (hd : mD c s k) : k < 3 → k < cW c := by
  intro h
  rcases hd with a | a | a
  · omega
  · exact a.2.1
  · omega
theorem e_broughtBy {c : cC} {r p st o P V W n : Nat} (hx : Fx c r p st o P V W n) {σ : sM} (hm : MI c r p st o P V W n σ) {t s k v : Nat} (ht : t < 1000) (hv : Vs c s) (hd : mD c s k) (F : Nat) (rec : Nat → sM → Int → Int → Int → Option (Int × sM)) (hb : v < 10000000) (h5 : Rs c r p st o P V W n σ (rec 5 σ (t : Int) (sb s k : Int) 0) v) : Rs c r p st o P V W n σ (X3_broughtBy F rec o P V W n σ (t : Int) (s : Int) (k : Int)) (1000 * hB c s k t + v) := by
  have hc := hx.1
  have hs := hv.lt hc
  have hk := mD_k hd
  unfold X3_broughtBy
  rw [e_hadBy hm.1 hc hs hk ht (mD_w hd), bp_some, e_standBehind (c := c) hs hd, bp_some]
  obtain ⟨u, τ, e, hu, hm1, hf1⟩ := h5
  rw [e, bn_some]
  have := hB_le hc s k t
  refine ⟨_, _, rfl, ?_, hm1, hf1⟩
  rw [wi_addr, hu, wi_id (by omega) (by omega)]; omega
theorem br_sb {c : cC} (hc : OkC c) {p t s k : Nat} {f : Nat → Nat} (hf : iv f) (hv : Vs c s) (hd : mD c s k) : 1000 * hB c s k t + mn c p t f (sb s k) = br c p t f s k := by
  have hs := hv.lt hc
  unfold br
  rw [mn_iv hf (Nat.lt_of_le_of_lt (bh_le _ _) hs) ((sb_Vs hc hv hd).lt hc) (sb_Sm hs hd)]
theorem e_bestPlan {c : cC} {r p st o P V W n F : Nat} (hx : Fx c r p st o P V W n) (hF : 10 ≤ F) {σ : sM} (hm : MI c r p st o P V W n σ) {t s : Nat} (ht : t < cK c) (hv : Vs c s) (hr4 : r = 4) (rec : Nat → sM → Int → Int → Int → Option (Int × sM)) (h4 : ∀ τ k, MI c r p st o P V W n τ → mD c s k → Rs c r p st o P V W n τ (rec 4 τ (t : Int) (s : Int) (k : Int)) (br c p t (Hf c r p (cK c - (t + 1))) s k)) : Rs c r p st o P V W n σ (X3_bestPlan F rec o P V W n σ (t : Int) (s : Int)) (vP c r p t s) := by
  have hc := hx.1
  have hs := hv.lt hc
  have hfb : ∀ s, Hf c r p (cK c - (t + 1)) s < 10000000 := fun s => Hf_b hc r p (t + 1) s
  have ev : vP c r p t s = 8 * br c p t (Hf c r p (cK c - (t + 1))) s (ch c r p t (Hf c r p (cK c - (t + 1))) s) + ch c r p t (Hf c r p (cK c - (t + 1))) s := by
    unfold vP; rw [Hf_t r p ht]
  have ec : ch c r p t (Hf c r p (cK c - (t + 1))) s = (chB c p t (Hf c r p (cK c - (t + 1))) s 7).1 := if_pos hr4
  rw [ec] at ev
  rw [ev]
  generalize Hf c r p (cK c - (t + 1)) = f at *
  unfold X3_bestPlan
  simp only [jn_def]
  refine lp_inv (fun k (x : sM × Int × Int × Int) => x.2.2.2 = (k : Int) ∧ x.2.1 = ((chB c p t f s k).1 : Int) ∧ wi x.2.2.1 = (chB c p t f s k).2 ∧ MI c r p st o P V W n x.1 ∧ Fr P V W σ x.1) 7 (fun o' => Rs c r p st o P V W n σ o' (8 * br c p t f s (chB c p t f s 7).1 + (chB c p t f s 7).1)) (fun k x hk hI K => ?_) (fun x hI K => ?_) ⟨rfl, rfl, (by decide : wi (-1) = (-1 : Int)), hm, Fr.refl _ _ _ _⟩ (by omega)
  · obtain ⟨τ, b, m, g⟩ := x
    obtain ⟨hg, hb, hmo, hm1, hf1⟩ := hI
    simp only [] at hg hb hmo hm1 hf1 ⊢
    subst hg hb
    have e : chB c p t f s (k + 1) = if mD c s k ∧ (chB c p t f s k).2 < (br c p t f s k : Int) then (k, (br c p t f s k : Int)) else chB c p t f s k := rfl
    rw [if_neg (by rw [wiN (by omega)]; omega), e_mayBe hm1.1 hc hF hs hk, bp_some, b2_if0]
    by_cases q : mD c s k
    · rw [if_pos q]
      obtain ⟨u, τ1, e1, hu, hm2, hf2⟩ := h4 τ k hm1 q
      rw [e1, bn_some, hu, hmo]
      by_cases q2 : (chB c p t f s k).2 < (br c p t f s k : Int)
      · rw [if_neg (by omega)]
        refine ⟨_, ⟨?_, ?_, ?_, hm2, hf1.trans hf2⟩, rfl⟩
        · simp only []; omega
        · simp only []; rw [e, if_pos ⟨q, q2⟩]
        · simp only []; rw [e, if_pos ⟨q, q2⟩]; exact hu
      · rw [if_pos (by omega)]
        refine ⟨_, ⟨?_, ?_, ?_, hm2, hf1.trans hf2⟩, rfl⟩
        · simp only []; omega
        · simp only []; rw [e, if_neg (fun h => q2 h.2)]
        · simp only []; rw [e, if_neg (fun h => q2 h.2)]; exact hmo
    · rw [if_neg q]
      refine ⟨_, ⟨?_, ?_, ?_, hm1, hf1⟩, rfl⟩
      · simp only []; omega
      · simp only []; rw [e, if_neg (fun h => q h.1)]
      · simp only []; rw [e, if_neg (fun h => q h.1)]; exact hmo
  · obtain ⟨τ, b, m, g⟩ := x
    obtain ⟨hg, hb, hmo, hm1, hf1⟩ := hI
    simp only [] at hg hb hmo hm1 hf1 ⊢
    subst hg hb
    have h7 := chB7 c p t f s
    have hb := br_lt (p := p) (t := t) hc hfb s (chB c p t f s 7).1
    have hk := mD_k h7.1
    rw [h7.2] at hmo
    rw [if_pos (by decide), ← q_shl_wi, hmo, show (3 : Int) = ((3 : Nat) : Int) from rfl, q_shlN (by omega) (by omega), q_or8 (by omega) (by omega)]
    exact ⟨_, _, rfl, wiN (by omega), hm1, hf1⟩
theorem rk_b {c : cC} (hc : OkC c) (r s w : Nat) : -99 ≤ rk c r s w ∧ rk c r s w ≤ 99 := by
  have := sp_lt s w
  have := cT_le hc (cO c w) (sp s w)
  unfold rk
  split
  · omega
  · split
    · omega
    · split
      · omega
      · omega
theorem e_rankOf {c : cC} {r o P V W n : Nat} {σ : sM} (h : RelX c σ) (hc : OkC c) (hr : r ≤ 4) (ho : σ o 1 = (r : Int)) {s w : Nat} (hs : s < 4096) (hw : w < cW c) : X3_rankOf o P V W n σ (s : Int) (w : Int) = some (rk c r s w) := by
  have h4 := hc.2.1
  unfold X3_rankOf rk
  rw [ho]
  by_cases q1 : r = 1
  · simp (disch := omega) only [b2_if0, b2_ifn, b2_if1, jn_def, nm_def, bp_some, bn_some, wiZ, wlZ, wiD, if_pos, if_neg, if_true, if_false, not_true_eq_false, not_false_eq_true, Int.toNat_natCast, e_stepOf]
  · by_cases q2 : r = 2
    · simp (disch := omega) only [b2_if0, b2_ifn, b2_if1, jn_def, nm_def, bp_some, bn_some, wiZ, wlZ, wiD, if_pos, if_neg, if_true, if_false, not_true_eq_false, not_false_eq_true, Int.toNat_natCast, e_goodNow h hc]
    · by_cases q3 : r = 3
      · simp (disch := omega) only [b2_if0, b2_ifn, b2_if1, jn_def, nm_def, bp_some, bn_some, wiZ, wlZ, wiD, if_pos, if_neg, if_true, if_false, not_true_eq_false, not_false_eq_true, Int.toNat_natCast, e_goodNow h hc]
      · simp (disch := omega) only [b2_if0, b2_ifn, b2_if1, jn_def, nm_def, bp_some, bn_some, wiZ, wlZ, wiD, if_pos, if_neg, if_true, if_false, not_true_eq_false, not_false_eq_true, Int.toNat_natCast]
theorem e_rulePlan {c : cC} {r p st o P V W n F : Nat} (hx : Fx c r p st o P V W n) (hF : 10 ≤ F) {σ : sM} (hm : MI c r p st o P V W n σ) {t s : Nat} (ht : t < cK c) (hv : Vs c s) (hr4 : r ≠ 4) (rec : Nat → sM → Int → Int → Int → Option (Int × sM)) (h4 : ∀ τ k, MI c r p st o P V W n τ → mD c s k → Rs c r p st o P V W n τ (rec 4 τ (t : Int) (s : Int) (k : Int)) (br c p t (Hf c r p (cK c - (t + 1))) s k)) : Rs c r p st o P V W n σ (X3_rulePlan F rec o P V W n σ (t : Int) (s : Int)) (vP c r p t s) := by
  have hc := hx.1
  have hs := hv.lt hc
  have hw3 := hc.2.1
  have hfb : ∀ s, Hf c r p (cK c - (t + 1)) s < 10000000 := fun s => Hf_b hc r p (t + 1) s
  have ev : vP c r p t s = 8 * br c p t (Hf c r p (cK c - (t + 1))) s (ch c r p t (Hf c r p (cK c - (t + 1))) s) + ch c r p t (Hf c r p (cK c - (t + 1))) s := by
    unfold vP; rw [Hf_t r p ht]
  have hok := ch_ok hc r p t (Hf c r p (cK c - (t + 1))) s
  have ec : ch c r p t (Hf c r p (cK c - (t + 1))) s = chR c r s (cW c) := if_neg hr4
  rw [ec] at ev hok
  rw [ev]
  generalize Hf c r p (cK c - (t + 1)) = f at *
  unfold X3_rulePlan
  simp only [jn_def]
  refine lp_inv (fun w (x : Int × Int × Int) => x.2.2 = (w : Int) ∧ x.1 = (chR c r s w : Int) ∧ (chR c r s w = 6 ∨ x.2.1 = rk c r s (chR c r s w))) (cW c) (fun o' => Rs c r p st o P V W n σ o' (8 * br c p t f s (chR c r s (cW c)) + chR c r s (cW c))) (fun w x hw hI K => ?_) (fun x hI K => ?_) ⟨rfl, rfl, Or.inl rfl⟩ (by omega)
  · obtain ⟨b, m, g⟩ := x
    obtain ⟨hg, hb, hmo⟩ := hI
    simp only [] at hg hb hmo ⊢
    subst hg hb
    have e : chR c r s (w + 1) = if mE c s w ∧ (chR c r s w = 6 ∨ rk c r s (chR c r s w) < rk c r s w) then w else chR c r s w := rfl
    have hk : chR c r s w < 7 := by
      rcases chR_ok c r s w with q | q
      · omega
      · omega
    have hb1 := rk_b hc r s w
    have hb2 := rk_b hc r s (chR c r s w)
    rw [hm.1.2.1, if_neg (by rw [wiN (by omega), wiN (by omega)]; omega), e_mayEat hm.1 hc hF hs (by omega), bp_some, b2_if0]
    by_cases q : mE c s w
    · rw [if_pos q, e_rankOf hm.1 hc hx.2.1 hm.2.1 hs hw, bp_some, wiN (n := chR c r s w) (by omega)]
      by_cases q6 : chR c r s w = 6
      · rw [if_pos (by omega)]
        have e' : chR c r s (w + 1) = w := by rw [e, if_pos ⟨q, Or.inl q6⟩]
        refine ⟨_, ⟨?_, ?_, Or.inr ?_⟩, rfl⟩
        · simp only []; omega
        · simp only []; rw [e']
        · simp only []; rw [e']
      · rw [if_neg (by omega)]
        rcases hmo with hmo | hmo
        · exact absurd hmo q6
        rw [hmo, wi_id (z := rk c r s w) (by omega) (by omega), wi_id (z := rk c r s (chR c r s w)) (by omega) (by omega)]
        by_cases q7 : rk c r s (chR c r s w) < rk c r s w
        · rw [if_neg (by omega)]
          have e' : chR c r s (w + 1) = w := by rw [e, if_pos ⟨q, Or.inr q7⟩]
          refine ⟨_, ⟨?_, ?_, Or.inr ?_⟩, rfl⟩
          · simp only []; omega
          · simp only []; rw [e']
          · simp only []; rw [e']
        · rw [if_pos (by omega)]
          have e' : chR c r s (w + 1) = chR c r s w := by rw [e, if_neg (fun h => by rcases h.2 with h1 | h1; exact q6 h1; exact q7 h1)]
          refine ⟨_, ⟨?_, ?_, Or.inr ?_⟩, rfl⟩
          · simp only []; omega
          · simp only []; rw [e']
          · simp only []; rw [e']
    · rw [if_neg q]
      have e' : chR c r s (w + 1) = chR c r s w := by rw [e, if_neg (fun h => q h.1)]
      refine ⟨_, ⟨?_, ?_, ?_⟩, rfl⟩
      · simp only []; omega
      · simp only []; rw [e']
      · simp only []; rw [e']; exact hmo
  · obtain ⟨b, m, g⟩ := x
    obtain ⟨hg, hb, hmo⟩ := hI
    simp only [] at hg hb hmo ⊢
    subst hg hb
    rw [hm.1.2.1, if_pos (by omega)]
    obtain ⟨u, τ1, e1, hu, hm2, hf2⟩ := h4 σ _ hm hok
    have hb := br_lt (p := p) (t := t) hc hfb s (chR c r s (cW c))
    have hk := mD_k hok
    rw [e1, bn_some, ← q_shl_wi, hu, show (3 : Int) = ((3 : Nat) : Int) from rfl, q_shlN (by omega) (by omega), q_or8 (by omega) (by omega)]
    exact ⟨_, _, rfl, wiN (by omega), hm2, hf2⟩
def RsE (c : cC) (r p st o P V W n : Nat) (σ : sM) (x : Option (Int × sM)) (v : Nat) : Prop := ∃ σ', x = some ((v : Int), σ') ∧ MI c r p st o P V W n σ' ∧ Fr P V W σ σ'
theorem RsE.rs {c : cC} {r p st o P V W n : Nat} {σ : sM} {x : Option (Int × sM)} {v : Nat} (h : RsE c r p st o P V W n σ x v) (hv : v < 2147483648) : Rs c r p st o P V W n σ x v := by
  obtain ⟨τ, e, hm, hf⟩ := h
  exact ⟨_, τ, e, wiN (by omega), hm, hf⟩
theorem mn_z {c : cC} {p t : Nat} (r s : Nat) : mn c p t (Hf c r p 0) s = 0 := by
  have := mn_le (c := c) (p := p) (t := t) (f := Hf c r p 0) (B := 0) (fun s => Nat.le_refl _) s
  omega
/-- week t, out of what the next week brings -/
theorem e_wk {c : cC} {r p st o P V W n F m t : Nat} (hx : Fx c r p st o P V W n) (hF : 10 ≤ F) (ht : t + 1 + m = cK c) (hA : ∀ d, 6 * m + 6 ≤ d → ∀ σ s, MI c r p st o P V W n σ → Vs c s → Rs c r p st o P V W n σ (OUT F o P V W n d 0 σ ((t : Int) + 1) (s : Int) 0) (Hf c r p m s)) :
    (∀ d, 6 * m + 8 ≤ d → ∀ σ s, MI c r p st o P V W n σ → Vs c s → Rs c r p st o P V W n σ (OUT F o P V W n d 5 σ (t : Int) (s : Int) 0) (vV c r p t s)) ∧
    (∀ d, 6 * m + 9 ≤ d → ∀ σ s k, MI c r p st o P V W n σ → Vs c s → mD c s k → Rs c r p st o P V W n σ (OUT F o P V W n d 4 σ (t : Int) (s : Int) (k : Int)) (br c p t (Hf c r p (cK c - (t + 1))) s k)) ∧
    (∀ d, 6 * m + 12 ≤ d → ∀ σ s, MI c r p st o P V W n σ → Vs c s → Rs c r p st o P V W n σ (OUT F o P V W n d 0 σ (t : Int) (s : Int) 0) (Hf c r p (m + 1) s)) ∧
    (∀ d, 6 * m + 12 ≤ d → ∀ σ s, MI c r p st o P V W n σ → Vs c s → RsE c r p st o P V W n σ (OUT F o P V W n d 8 σ (t : Int) (s : Int) 0) (ch c r p t (Hf c r p (cK c - (t + 1))) s)) := by
  have hc := hx.1
  have h5 := hc.2.2.1
  have em : cK c - (t + 1) = m := by omega
  have hmean : ∀ d, 6 * m + 7 ≤ d → ∀ σ s, MI c r p st o P V W n σ → Vs c s → Rs c r p st o P V W n σ (OUT F o P V W n d 6 σ (t : Int) (s : Int) 0) (vV c r p t s) := by
    intro d hd σ s hm hv
    obtain ⟨d, rfl⟩ : ∃ d', d = d' + 1 := ⟨d - 1, by omega⟩
    show Rs c r p st o P V W n σ (X3_mean F (OUT F o P V W n d) o P V W n σ (t : Int) (s : Int) 0) (vV c r p t s)
    unfold vV
    rw [em]
    by_cases q : t + 1 < cK c
    · exact e_mean hx hF hm (by omega) hv _ 0 (Hf c r p m) (fun s => by rw [← em]; exact Hf_b hc r p (t + 1) s) (Or.inl ⟨rfl, q, fun τ s' h1 h2 => hA d (by omega) τ s' h1 h2⟩)
    · have m0 : m = 0 := by omega
      subst m0
      unfold X3_mean
      rw [jn_def, if_neg (by decide), hm.1.2.2.1, if_neg (by rw [wiN (by omega), wi_id (by omega) (by omega)]; omega)]
      exact ⟨_, _, rfl, by rw [mn_z]; decide, hm, Fr.refl _ _ _ _⟩
  have hvb : ∀ d, 6 * m + 8 ≤ d → ∀ σ s, MI c r p st o P V W n σ → Vs c s → Rs c r p st o P V W n σ (OUT F o P V W n d 5 σ (t : Int) (s : Int) 0) (vV c r p t s) := by
    intro d hd σ s hm hv
    obtain ⟨d, rfl⟩ : ∃ d', d = d' + 1 := ⟨d - 1, by omega⟩
    show Rs c r p st o P V W n σ (X3_valueBehind F (OUT F o P V W n d) o P V W n σ (t : Int) (s : Int)) (vV c r p t s)
    have := e_valueBehind hx hm (by omega) hv F (OUT F o P V W n d) (fun _ => hmean d (by omega) σ s hm hv)
    rw [if_pos (by omega)] at this
    exact this
  have hbb : ∀ d, 6 * m + 9 ≤ d → ∀ σ s k, MI c r p st o P V W n σ → Vs c s → mD c s k → Rs c r p st o P V W n σ (OUT F o P V W n d 4 σ (t : Int) (s : Int) (k : Int)) (br c p t (Hf c r p (cK c - (t + 1))) s k) := by
    intro d hd σ s k hm hv hk
    obtain ⟨d, rfl⟩ : ∃ d', d = d' + 1 := ⟨d - 1, by omega⟩
    show Rs c r p st o P V W n σ (X3_broughtBy F (OUT F o P V W n d) o P V W n σ (t : Int) (s : Int) (k : Int)) _
    rw [← br_sb hc (Hf_iv hc r p _) hv hk]
    exact e_broughtBy hx hm (by omega) hv hk F _ (vV_lt hc r p t (sb s k)) (hvb d (by omega) σ _ hm (sb_Vs hc hv hk))
  have hpl : ∀ d, 6 * m + 11 ≤ d → ∀ σ s, MI c r p st o P V W n σ → Vs c s → Rs c r p st o P V W n σ (OUT F o P V W n d 1 σ (t : Int) (s : Int) 0) (if t < cK c ∧ 0 < wy c s then vP c r p t s else 6) := by
    intro d hd σ s hm hv
    obtain ⟨d, rfl⟩ : ∃ d', d = d' + 1 + 1 := ⟨d - 2, by omega⟩
    show Rs c r p st o P V W n σ (X3_planAt F (OUT F o P V W n (d + 1)) o P V W n σ (t : Int) (s : Int)) _
    refine e_planAt hx hm (by omega) hv F _ (fun h1 h2 => ?_) (fun h1 h2 => ?_)
    · show Rs c r p st o P V W n σ (X3_rulePlan F (OUT F o P V W n d) o P V W n σ (t : Int) (s : Int)) _
      exact e_rulePlan hx hF hm h1 hv h2 _ (fun τ k h3 h4 => hbb d (by omega) τ s k h3 hv h4)
    · show Rs c r p st o P V W n σ (X3_bestPlan F (OUT F o P V W n d) o P V W n σ (t : Int) (s : Int)) _
      exact e_bestPlan hx hF hm h1 hv h2 _ (fun τ k h3 h4 => hbb d (by omega) τ s k h3 hv h4)
  refine ⟨hvb, hbb, fun d hd σ s hm hv => ?_, fun d hd σ s hm hv => ?_⟩
  · obtain ⟨d, rfl⟩ : ∃ d', d = d' + 1 := ⟨d - 1, by omega⟩
    show Rs c r p st o P V W n σ (X3_valueAhead F (OUT F o P V W n d) o P V W n σ (t : Int) (s : Int)) _
    unfold X3_valueAhead
    obtain ⟨u, τ, e, hu, hm1, hf1⟩ := hpl d (by omega) σ s hm hv
    rw [e, bn_some, ← q_shr_wi, hu]
    have hb := vP_lt hc r p t s
    have hkk := ch_lt hc r p t (Hf c r p (cK c - (t + 1))) s
    have hH := Hf_b hc r p t s
    rw [show cK c - t = m + 1 by omega] at hH
    by_cases q : t < cK c ∧ 0 < wy c s
    · rw [if_pos q, show (3 : Int) = ((3 : Nat) : Int) from rfl, q_shrN (by omega) (by omega)]
      refine ⟨_, _, rfl, ?_, hm1, hf1⟩
      have : vP c r p t s / 2 ^ 3 = Hf c r p (m + 1) s := by
        unfold vP
        rw [show cK c - t = m + 1 by omega]
        omega
      rw [this, wiN (by omega)]
    · rw [if_neg q]
      have q0 : Sm s 0 := wy_0 hc hv (fun h => q ⟨by omega, h⟩)
      refine ⟨_, _, rfl, ?_, hm1, hf1⟩
      rw [Hf_iv hc r p (m + 1) s 0 (hv.lt hc) (by omega) q0, Hf_0 hc]; decide
  · obtain ⟨d, rfl⟩ : ∃ d', d = d' + 1 := ⟨d - 1, by omega⟩
    show RsE c r p st o P V W n σ (X3_choiceAt F (OUT F o P V W n d) o P V W n σ (t : Int) (s : Int)) _
    unfold X3_choiceAt
    obtain ⟨u, τ, e, hu, hm1, hf1⟩ := hpl d (by omega) σ s hm hv
    rw [e, bn_some, ← q_and_wi, hu]
    have hb := vP_lt hc r p t s
    have hkk := ch_lt hc r p t (Hf c r p (cK c - (t + 1))) s
    by_cases q : t < cK c ∧ 0 < wy c s
    · rw [if_pos q, q_andN (by omega) 3 7 (by decide)]
      have : vP c r p t s % 2 ^ 3 = ch c r p t (Hf c r p (cK c - (t + 1))) s := by
        unfold vP
        omega
      rw [this]
      exact ⟨_, rfl, hm1, hf1⟩
    · rw [if_neg q]
      have q0 : Sm s 0 := wy_0 hc hv (fun h => q ⟨by omega, h⟩)
      rw [ch_iv hc (Hf_iv hc r p _) (hv.lt hc) (by omega) q0, ch_0 hc]
      exact ⟨_, rfl, hm1, hf1⟩
theorem e_ahead {c : cC} {r p st o P V W n F : Nat} (hx : Fx c r p st o P V W n) (hF : 10 ≤ F) (m : Nat) : ∀ t, t + m = cK c → ∀ d, 6 * m + 6 ≤ d → ∀ σ s, MI c r p st o P V W n σ → Vs c s → Rs c r p st o P V W n σ (OUT F o P V W n d 0 σ (t : Int) (s : Int) 0) (Hf c r p m s) := by
  have hc := hx.1
  have h5 := hc.2.2.1
  induction m with
  | zero =>
    intro t ht d hd σ s hm hv
    obtain ⟨d, rfl⟩ : ∃ d', d = d' + 1 + 1 := ⟨d - 2, by omega⟩
    show Rs c r p st o P V W n σ (X3_valueAhead F (OUT F o P V W n (d + 1)) o P V W n σ (t : Int) (s : Int)) _
    unfold X3_valueAhead
    have h1 : Rs c r p st o P V W n σ (OUT F o P V W n (d + 1) 1 σ (t : Int) (s : Int) 0) (if t < cK c ∧ 0 < wy c s then vP c r p t s else 6) := by
      show Rs c r p st o P V W n σ (X3_planAt F (OUT F o P V W n d) o P V W n σ (t : Int) (s : Int)) _
      exact e_planAt hx hm (by omega) hv F _ (fun h1 h2 => absurd h1 (by omega)) (fun h1 h2 => absurd h1 (by omega))
    rw [if_neg (by omega)] at h1
    obtain ⟨u, τ, e, hu, hm1, hf1⟩ := h1
    rw [e, bn_some, ← q_shr_wi, hu]
    exact ⟨_, _, rfl, by show wi (q_shr ((6 : Nat) : Int) 3) = ((0 : Nat) : Int); decide, hm1, hf1⟩
  | succ m ih =>
    intro t ht d hd σ s hm hv
    exact (e_wk hx hF (show t + 1 + m = cK c by omega) (fun d hd σ s h1 h2 => ih (t + 1) (by omega) d hd σ s h1 h2)).2.2.1 d (by omega) σ s hm hv
/-- all that a week brings -/
theorem e_week {c : cC} {r p st o P V W n F t : Nat} (hx : Fx c r p st o P V W n) (hF : 10 ≤ F) (ht : t < cK c) :
    (∀ d, 60 ≤ d → ∀ σ s, MI c r p st o P V W n σ → Vs c s → Rs c r p st o P V W n σ (OUT F o P V W n d 5 σ (t : Int) (s : Int) 0) (vV c r p t s)) ∧
    (∀ d, 60 ≤ d → ∀ σ s k, MI c r p st o P V W n σ → Vs c s → mD c s k → Rs c r p st o P V W n σ (OUT F o P V W n d 4 σ (t : Int) (s : Int) (k : Int)) (br c p t (Hf c r p (cK c - (t + 1))) s k)) ∧
    (∀ d, 6 * (cK c - (t + 1)) + 12 ≤ d → ∀ σ s, MI c r p st o P V W n σ → Vs c s → RsE c r p st o P V W n σ (OUT F o P V W n d 8 σ (t : Int) (s : Int) 0) (ch c r p t (Hf c r p (cK c - (t + 1))) s)) := by
  have h5 := hx.1.2.2.1
  have := e_wk (F := F) (t := t) (m := cK c - (t + 1)) hx hF (by omega) (fun d hd σ s h1 h2 => e_ahead hx hF (cK c - (t + 1)) (t + 1) (by omega) d hd σ s h1 h2)
  exact ⟨fun d hd => this.1 d (by omega), fun d hd => this.2.1 d (by omega), fun d hd => this.2.2.2 d hd⟩
theorem e_allPortions (σ : sM) {s : Nat} (hs : s < 4096) : X8_allPortions σ (s : Int) = some ((po s 0 + po s 1 + po s 2 : Nat) : Int) := by
  unfold X8_allPortions
  have f0 := e_portionsOf σ hs (w := 0) (by omega)
  have f1 := e_portionsOf σ hs (w := 1) (by omega)
  have f2 := e_portionsOf σ hs (w := 2) (by omega)
  rw [show ((0 : Nat) : Int) = 0 from rfl] at f0
  rw [show ((1 : Nat) : Int) = 1 from rfl] at f1
  rw [show ((2 : Nat) : Int) = 2 from rfl] at f2
  rw [f0, bp_some, f1, bp_some, f2, bp_some]
  exact congrArg some (by omega)
theorem e_lbe {c : cC} {r p st o P V W n F m t : Nat} (hx : Fx c r p st o P V W n) (hF : 10 ≤ F) (ht : t + 1 + m = cK c) (hB : ∀ d, 6 * m + 8 ≤ d → ∀ σ s, MI c r p st o P V W n σ → Vs c s → Rs c r p st o P V W n σ (OUT F o P V W n d 7 σ ((t : Int) + 1) (s : Int) 0) (Hg c r p m s)) : ∀ d, 6 * m + 10 ≤ d → ∀ σ s, MI c r p st o P V W n σ → Vs c s → Rs c r p st o P V W n σ (OUT F o P V W n d 9 σ (t : Int) (s : Int) 0) (vW c r p t s) := by
  intro d hd σ s hm hv
  obtain ⟨d, rfl⟩ : ∃ d', d = d' + 1 + 1 := ⟨d - 2, by omega⟩
  show Rs c r p st o P V W n σ (X3_leftBehind F (OUT F o P V W n (d + 1)) o P V W n σ (t : Int) (s : Int)) _
  refine e_leftBehind hx hm (by omega) hv F _ ?_
  show Rs c r p st o P V W n σ (X3_mean F (OUT F o P V W n d) o P V W n σ (t : Int) (s : Int) 1) _
  unfold vW
  rw [show cK c - (t + 1) = m by omega]
  exact e_mean hx hF hm (by omega) hv _ 1 (Hg c r p m) (fun s => Hg_b c r p m s) (Or.inr ⟨rfl, fun τ s' h1 h2 => hB d (by omega) τ s' h1 h2⟩)
theorem e_left {c : cC} {r p st o P V W n F : Nat} (hx : Fx c r p st o P V W n) (hF : 10 ≤ F) (m : Nat) : ∀ t, t + m = cK c → ∀ d, 6 * m + 8 ≤ d → ∀ σ s, MI c r p st o P V W n σ → Vs c s → Rs c r p st o P V W n σ (OUT F o P V W n d 7 σ (t : Int) (s : Int) 0) (Hg c r p m s) := by
  have hc := hx.1
  have h5 := hc.2.2.1
  induction m with
  | zero =>
    intro t ht d hd σ s hm hv
    have hs := hv.lt hc
    have l0 := po_lt s 0
    have l1 := po_lt s 1
    have l2 := po_lt s 2
    obtain ⟨d, rfl⟩ : ∃ d', d = d' + 1 := ⟨d - 1, by omega⟩
    show Rs c r p st o P V W n σ (X3_leftAhead F (OUT F o P V W n d) o P V W n σ (t : Int) (s : Int)) (1000 * (po s 0 + po s 1 + po s 2))
    unfold X3_leftAhead
    rw [hm.1.2.2.1, if_neg (by rw [wiN (by omega), wiN (by omega)]; omega), e_allPortions σ hs, bp_some]
    refine ⟨_, _, rfl, ?_, hm, Fr.refl _ _ _ _⟩
    rw [wi_id (by omega) (by omega)]; omega
  | succ m ih =>
    intro t ht d hd σ s hm hv
    have hs := hv.lt hc
    obtain ⟨d, rfl⟩ : ∃ d', d = d' + 1 := ⟨d - 1, by omega⟩
    show Rs c r p st o P V W n σ (X3_leftAhead F (OUT F o P V W n d) o P V W n σ (t : Int) (s : Int)) _
    unfold X3_leftAhead
    rw [hm.1.2.2.1, if_pos (by rw [wiN (by omega), wiN (by omega)]; omega)]
    obtain ⟨τ, e, hm1, hf1⟩ := (e_week (F := F) (t := t) hx hF (by omega)).2.2 d (by omega) σ s hm hv
    have hd := ch_ok hc r p t (Hf c r p (cK c - (t + 1))) s
    rw [e, bn_some, e_standBehind (c := c) hs hd, bp_some]
    obtain ⟨u, τ1, e1, hu, hm2, hf2⟩ := e_lbe hx hF (show t + 1 + m = cK c by omega) (fun d hd σ s h1 h2 => ih (t + 1) (by omega) d hd σ s h1 h2) d (by omega) τ _ hm1 (sb_Vs hc hv hd)
    rw [e1, bn_some]
    refine ⟨_, _, rfl, ?_, hm2, hf1.trans hf2⟩
    rw [hu, show m + 1 = cK c - t by omega, Hg_t r p (by omega)]
    unfold vW
    rw [mn_iv (Hg_iv hc r p _) (Nat.lt_of_le_of_lt (bh_le _ _) hs) ((sb_Vs hc hv hd).lt hc) (sb_Sm hs hd)]
theorem e_leftB {c : cC} {r p st o P V W n F t : Nat} (hx : Fx c r p st o P V W n) (hF : 10 ≤ F) (ht : t < cK c) : ∀ d, 60 ≤ d → ∀ σ s, MI c r p st o P V W n σ → Vs c s → Rs c r p st o P V W n σ (OUT F o P V W n d 9 σ (t : Int) (s : Int) 0) (vW c r p t s) := by
  have h5 := hx.1.2.2.1
  intro d hd σ s hm hv
  exact e_lbe (m := cK c - (t + 1)) hx hF (by omega) (fun d hd σ s h1 h2 => e_left hx hF (cK c - (t + 1)) (t + 1) (by omega) d hd σ s h1 h2) d (by omega) σ s hm hv
