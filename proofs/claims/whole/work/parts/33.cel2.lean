theorem b2_if0 {α : Type} (P : Prop) [Decidable P] (a b : α) : (if wi (b2 P) = 0 then a else b) = if P then b else a := by
  rw [wi_b2]; by_cases h : P
  · rw [b2_t h, if_neg (by decide), if_pos h]
  · rw [b2_f h, if_pos rfl, if_neg h]
theorem b2_ifn {α : Type} (P : Prop) [Decidable P] (a b : α) : (if ¬ wi (b2 P) = 0 then a else b) = if P then a else b := by
  rw [wi_b2]; by_cases h : P
  · rw [b2_t h, if_pos (by decide), if_pos h]
  · rw [b2_f h, if_neg (by decide), if_neg h]
theorem b2_if1 {α : Type} (P : Prop) [Decidable P] (a b : α) : (if wi (b2 P) = 0 ∨ wi (b2 P) = 1 then a else b) = a := if_pos (b2_01 P)
def stp (p w : Nat) : Nat := p / 2 ^ w % 2
def tq (c : cC) (i k t : Nat) : Nat := if cT c i k = 0 then 0 else min 10 (cT c i k + cH c t)
abbrev gO (s p w : Nat) : Prop := 0 < po s w ∧ stp p w = 0 ∧ sp s w < 3
def tn (c : cC) (s p w t : Nat) : Nat := if gO s p w then tq c (cO c w) ((if po s w = cZ c w then 4 else 7) + sp s w) t else 0
theorem wlZ {z : Int} (h : -9223372036854775808 ≤ z ∧ z ≤ 9223372036854775807) : wl z = z := wl_id h.1 h.2
theorem wiD (z : Int) : wi (wi z) = wi z := wi_wi z
theorem wiZ {z : Int} (h : -2147483648 ≤ z ∧ z ≤ 2147483647) : wi z = z := wi_id h.1 h.2
theorem cH_le {c : cC} (hc : OkC c) (t : Nat) : cH c t ≤ 5 := (hc.2.2.2.2.2.2.1 t).1
theorem cP_le {c : cC} (hc : OkC c) (t : Nat) : cP c t ≤ 99 := (hc.2.2.2.2.2.2.1 t).2
theorem cT_le {c : cC} (hc : OkC c) (i k : Nat) : cT c i k ≤ 99 := (hc.2.2.2.2.2.2.2.2 i k).1
theorem tq_le (c : cC) (i k t : Nat) : tq c i k t ≤ 10 := by unfold tq; split <;> omega
theorem tn_le (c : cC) (s p w t : Nat) : tn c s p w t ≤ 10 := by unfold tn; split; exact tq_le _ _ _ _; omega
theorem stp_lt (p w : Nat) : stp p w < 2 := Nat.mod_lt _ (by decide)
theorem e_has (σ : sM) {p w : Nat} (hp : p < 8) (hw : w < 3) : X8_has σ (p : Int) (w : Int) = some (stp p w : Int) := by
  unfold X8_has
  rw [q_shrN (by omega) (by omega), q_andN (Nat.lt_of_le_of_lt (Nat.div_le_self _ _) (by omega)) 1 1 (by decide)]
  have h := stp_lt p w
  show (if ¬ wi ((stp p w : Nat) : Int) = 1 then some 0 else some 1) = _
  rw [wiN (by omega)]
  by_cases q : stp p w = 1
  · rw [if_neg (by omega), q]; rfl
  · rw [if_pos (by omega), show stp p w = 0 by omega]; rfl
theorem e_tenths0 {c : cC} {σ : sM} (h : RelX c σ) (hc : OkC c) {i k t : Nat} (hi : i < cS c) (hk : k < 3) (ht : t < 1000) : X1_tenths σ (i : Int) (k : Int) 0 (t : Int) = some (tq c i (4 + k) t : Int) := by
  have h1 := cT_le hc i (4 + k)
  have h2 := cH_le hc t
  unfold X1_tenths
  simp (disch := omega) only [b2_if0, b2_ifn, b2_if1, jn_def, nm_def, bp_some, bn_some, wiZ, wlZ, wiD, if_pos, if_neg, if_true, if_false, not_true_eq_false, not_false_eq_true, Int.toNat_natCast]
  rw [show (4 : Int) + (k : Int) = ((4 + k : Nat) : Int) by push_cast; rfl, e_trait h hc hi (by omega)]
  simp (disch := omega) only [b2_if0, b2_ifn, b2_if1, jn_def, nm_def, bp_some, bn_some, wiZ, wlZ, wiD, if_pos, if_neg, if_true, if_false, not_true_eq_false, not_false_eq_true, Int.toNat_natCast, e_warmthOf h hc]
  unfold tq
  by_cases q : cT c i (4 + k) = 0
  · rw [if_neg (by omega), if_pos q]; rfl
  · rw [if_pos (by omega), if_neg q]
    by_cases q2 : cT c i (4 + k) + cH c t < 10
    · rw [if_pos (by omega)]; exact congrArg some (by omega)
    · rw [if_neg (by omega)]; exact congrArg some (by omega)
theorem e_tenths1 {c : cC} {σ : sM} (h : RelX c σ) (hc : OkC c) {i k t : Nat} (hi : i < cS c) (hk : k < 3) (ht : t < 1000) : X1_tenths σ (i : Int) (k : Int) 1 (t : Int) = some (tq c i (7 + k) t : Int) := by
  have h1 := cT_le hc i (7 + k)
  have h2 := cH_le hc t
  unfold X1_tenths
  simp (disch := omega) only [b2_if0, b2_ifn, b2_if1, jn_def, nm_def, bp_some, bn_some, wiZ, wlZ, wiD, if_pos, if_neg, if_true, if_false, not_true_eq_false, not_false_eq_true, Int.toNat_natCast]
  rw [show (7 : Int) + (k : Int) = ((7 + k : Nat) : Int) by push_cast; rfl, e_trait h hc hi (by omega)]
  simp (disch := omega) only [b2_if0, b2_ifn, b2_if1, jn_def, nm_def, bp_some, bn_some, wiZ, wlZ, wiD, if_pos, if_neg, if_true, if_false, not_true_eq_false, not_false_eq_true, Int.toNat_natCast, e_warmthOf h hc]
  unfold tq
  by_cases q : cT c i (7 + k) = 0
  · rw [if_neg (by omega), if_pos q]; rfl
  · rw [if_pos (by omega), if_neg q]
    by_cases q2 : cT c i (7 + k) + cH c t < 10
    · rw [if_pos (by omega)]; exact congrArg some (by omega)
    · rw [if_neg (by omega)]; exact congrArg some (by omega)

theorem e_goodNow {c : cC} {σ : sM} (h : RelX c σ) (hc : OkC c) {s w : Nat} (hs : s < 4096) (hw : w < cW c) : X1_goodNow σ (s : Int) (w : Int) = some (cT c (cO c w) (sp s w) : Int) := by
  have h1 := hc.2.1
  have h2 := (hc.2.2.2.2.1 w hw).1
  have h3 := sp_lt s w
  unfold X1_goodNow
  simp (disch := omega) only [b2_if0, b2_ifn, b2_if1, jn_def, nm_def, bp_some, bn_some, wiZ, wlZ, wiD, if_pos, if_neg, if_true, if_false, not_true_eq_false, not_false_eq_true, Int.toNat_natCast, Int.zero_add, e_sortOf h hc, e_stepOf, e_trait h hc]
theorem e_mayGoOn {c : cC} {σ : sM} {s w p : Nat} (hs : s < 4096) (hw : w < 3) (hp : p < 8) : X1_mayGoOn σ (s : Int) (p : Int) (w : Int) = some (b2 (gO s p w)) := by
  have h1 := po_lt s w
  have h2 := sp_lt s w
  have h3 := stp_lt p w
  unfold X1_mayGoOn b2
  simp (disch := omega) only [b2_if0, b2_ifn, b2_if1, jn_def, nm_def, bp_some, bn_some, wiZ, wlZ, wiD, if_pos, if_neg, if_true, if_false, not_true_eq_false, not_false_eq_true, Int.toNat_natCast, e_portionsOf, e_stepOf, e_has]
  by_cases q1 : 0 < po s w
  · simp (disch := omega) only [b2_if0, b2_ifn, b2_if1, jn_def, nm_def, bp_some, bn_some, wiZ, wlZ, wiD, if_pos, if_neg, if_true, if_false, not_true_eq_false, not_false_eq_true, Int.toNat_natCast]
    by_cases q2 : stp p w = 0
    · simp (disch := omega) only [b2_if0, b2_ifn, b2_if1, jn_def, nm_def, bp_some, bn_some, wiZ, wlZ, wiD, if_pos, if_neg, if_true, if_false, not_true_eq_false, not_false_eq_true, Int.toNat_natCast]
      by_cases q3 : sp s w < 3
      · simp (disch := omega) only [b2_if0, b2_ifn, b2_if1, jn_def, nm_def, bp_some, bn_some, wiZ, wlZ, wiD, if_pos, if_neg, if_true, if_false, not_true_eq_false, not_false_eq_true, Int.toNat_natCast]
      · simp (disch := omega) only [b2_if0, b2_ifn, b2_if1, jn_def, nm_def, bp_some, bn_some, wiZ, wlZ, wiD, if_pos, if_neg, if_true, if_false, not_true_eq_false, not_false_eq_true, Int.toNat_natCast]
    · simp (disch := omega) only [b2_if0, b2_ifn, b2_if1, jn_def, nm_def, bp_some, bn_some, wiZ, wlZ, wiD, if_pos, if_neg, if_true, if_false, not_true_eq_false, not_false_eq_true, Int.toNat_natCast]
  · simp (disch := omega) only [b2_if0, b2_ifn, b2_if1, jn_def, nm_def, bp_some, bn_some, wiZ, wlZ, wiD, if_pos, if_neg, if_true, if_false, not_true_eq_false, not_false_eq_true, Int.toNat_natCast]
theorem e_tenthsNow {c : cC} {σ : sM} (h : RelX c σ) (hc : OkC c) {s w p t : Nat} (hs : s < 4096) (hw : w < 3) (hp : p < 8) (ht : t < 1000) (hv : po s w ≤ cZ c w) : X1_tenthsNow σ (s : Int) (p : Int) (w : Int) (t : Int) = some (tn c s p w t : Int) := by
  have h1 := hc.2.1
  have h5 := po_lt s w
  have h6 := sp_lt s w
  unfold X1_tenthsNow
  rw [e_mayGoOn (c := c) hs hw hp, bp_some, wi_b2]
  unfold tn
  by_cases q : gO s p w
  · rw [b2_t q, if_pos q, if_pos (by decide)]
    have hw' : w < cW c := by
      by_cases hh : w < cW c
      · exact hh
      · have := hc.2.2.2.2.2.1 w (by omega)
        have := q.1
        omega
    have h2 := (hc.2.2.2.2.1 w hw').1
    have h3 := q.2.2
    simp (disch := omega) only [b2_if0, b2_ifn, b2_if1, jn_def, nm_def, bp_some, bn_some, wiZ, wlZ, wiD, if_pos, if_neg, if_true, if_false, not_true_eq_false, not_false_eq_true, Int.toNat_natCast, e_sortOf h hc, e_stepOf, e_isWhole h hc]
    by_cases q2 : po s w = cZ c w
    · simp (disch := omega) only [b2_if0, b2_ifn, b2_if1, jn_def, nm_def, bp_some, bn_some, wiZ, wlZ, wiD, if_pos, if_neg, if_true, if_false, not_true_eq_false, not_false_eq_true, Int.toNat_natCast, b2_t q2, e_tenths0 h hc]
    · simp (disch := omega) only [b2_if0, b2_ifn, b2_if1, jn_def, nm_def, bp_some, bn_some, wiZ, wlZ, wiD, if_pos, if_neg, if_true, if_false, not_true_eq_false, not_false_eq_true, Int.toNat_natCast, b2_f q2, e_tenths1 h hc]
  · rw [b2_f q, if_neg q, if_neg (by decide)]; rfl
