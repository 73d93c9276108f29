abbrev mE (c : cC) (s w : Nat) : Prop := w < cW c ∧ 0 < po s w ∧ (po s w ≠ cZ c w ∨ nop c s < cM c)
abbrev mS (c : cC) (s w : Nat) : Prop := w < cW c ∧ po s w = cZ c w ∧ sp s w ≤ 1
abbrev mD (c : cC) (s k : Nat) : Prop := k = 6 ∨ (k < 3 ∧ mE c s k) ∨ (3 ≤ k ∧ k < 6 ∧ mS c s (k - 3))
def hB (c : cC) (s k t : Nat) : Nat := if k = 6 then 0 else if k < 3 then cT c (cO c k) (sp s k) else po s (k - 3) * cP c t
def bh (s k : Nat) : Nat := if k = 6 then s else if k < 3 then s - 16 ^ k else s - po s (k - 3) * 16 ^ (k - 3)
theorem opn_le (c : cC) (s w : Nat) : opn c s w ≤ 1 := by unfold opn; split <;> omega
theorem nop_le (c : cC) (s : Nat) : nop c s ≤ 3 := by
  have := opn_le c s 0
  have := opn_le c s 1
  have := opn_le c s 2
  unfold nop; omega
theorem e_isWheelN {c : cC} {σ : sM} (h : RelX c σ) (hc : OkC c) {w : Nat} (hw : w < 1000) : X1_isWheel σ (w : Int) = some (b2 (w < cW c)) := by
  rw [e_isWheel h hc _ (wiN (by omega))]
  unfold b2
  by_cases q : w < cW c
  · simp (disch := omega) only [b2_if0, b2_ifn, b2_if1, jn_def, nm_def, bp_some, bn_some, wiZ, wlZ, wiD, if_pos, if_neg, if_true, if_false, not_true_eq_false, not_false_eq_true, Int.toNat_natCast]
  · simp (disch := omega) only [b2_if0, b2_ifn, b2_if1, jn_def, nm_def, bp_some, bn_some, wiZ, wlZ, wiD, if_pos, if_neg, if_true, if_false, not_true_eq_false, not_false_eq_true, Int.toNat_natCast]
theorem e_mayEat {c : cC} {σ : sM} {F : Nat} (h : RelX c σ) (hc : OkC c) (hF : 10 ≤ F) {s w : Nat} (hs : s < 4096) (hw : w < 3) : X1_mayEat F σ (s : Int) (w : Int) = some (b2 (mE c s w)) := by
  have h1 := po_lt s w
  have h2 := nop_le c s
  have h4 := hc.2.2.2.1
  unfold X1_mayEat
  rw [h.2.2.2.1]
  simp (disch := omega) only [b2_if0, b2_ifn, b2_if1, jn_def, nm_def, bp_some, bn_some, wiZ, wlZ, wiD, if_pos, if_neg, if_true, if_false, not_true_eq_false, not_false_eq_true, Int.toNat_natCast, e_isWheelN h hc, e_portionsOf, e_isWhole h hc, e_countOpen h hc hF]
  by_cases q1 : w < cW c
  · simp (disch := omega) only [b2_if0, b2_ifn, b2_if1, jn_def, nm_def, bp_some, bn_some, wiZ, wlZ, wiD, if_pos, if_neg, if_true, if_false, not_true_eq_false, not_false_eq_true, Int.toNat_natCast]
    by_cases q2 : po s w = 0
    · simp (disch := omega) only [b2_if0, b2_ifn, b2_if1, jn_def, nm_def, bp_some, bn_some, wiZ, wlZ, wiD, if_pos, if_neg, if_true, if_false, not_true_eq_false, not_false_eq_true, Int.toNat_natCast]; rw [b2_f (by omega)]
    · simp (disch := omega) only [b2_if0, b2_ifn, b2_if1, jn_def, nm_def, bp_some, bn_some, wiZ, wlZ, wiD, if_pos, if_neg, if_true, if_false, not_true_eq_false, not_false_eq_true, Int.toNat_natCast]
      by_cases q3 : po s w = cZ c w
      · simp (disch := omega) only [b2_if0, b2_ifn, b2_if1, jn_def, nm_def, bp_some, bn_some, wiZ, wlZ, wiD, if_pos, if_neg, if_true, if_false, not_true_eq_false, not_false_eq_true, Int.toNat_natCast]
        by_cases q4 : nop c s < cM c
        · simp (disch := omega) only [b2_if0, b2_ifn, b2_if1, jn_def, nm_def, bp_some, bn_some, wiZ, wlZ, wiD, if_pos, if_neg, if_true, if_false, not_true_eq_false, not_false_eq_true, Int.toNat_natCast]; rw [b2_t (by omega)]
        · simp (disch := omega) only [b2_if0, b2_ifn, b2_if1, jn_def, nm_def, bp_some, bn_some, wiZ, wlZ, wiD, if_pos, if_neg, if_true, if_false, not_true_eq_false, not_false_eq_true, Int.toNat_natCast]; rw [b2_f (by omega)]
      · simp (disch := omega) only [b2_if0, b2_ifn, b2_if1, jn_def, nm_def, bp_some, bn_some, wiZ, wlZ, wiD, if_pos, if_neg, if_true, if_false, not_true_eq_false, not_false_eq_true, Int.toNat_natCast]; rw [b2_t (by omega)]
  · simp (disch := omega) only [b2_if0, b2_ifn, b2_if1, jn_def, nm_def, bp_some, bn_some, wiZ, wlZ, wiD, if_pos, if_neg, if_true, if_false, not_true_eq_false, not_false_eq_true, Int.toNat_natCast]; rw [b2_f (by omega)]
theorem e_maySell {c : cC} {σ : sM} (h : RelX c σ) (hc : OkC c) {s w : Nat} (hs : s < 4096) (hw : w < 3) : X1_maySell σ (s : Int) (w : Int) = some (b2 (mS c s w)) := by
  have h1 := sp_lt s w
  unfold X1_maySell
  simp (disch := omega) only [b2_if0, b2_ifn, b2_if1, jn_def, nm_def, bp_some, bn_some, wiZ, wlZ, wiD, if_pos, if_neg, if_true, if_false, not_true_eq_false, not_false_eq_true, Int.toNat_natCast, e_isWheelN h hc, e_stepOf, e_isWhole h hc]
  by_cases q1 : w < cW c
  · simp (disch := omega) only [b2_if0, b2_ifn, b2_if1, jn_def, nm_def, bp_some, bn_some, wiZ, wlZ, wiD, if_pos, if_neg, if_true, if_false, not_true_eq_false, not_false_eq_true, Int.toNat_natCast]
    by_cases q2 : po s w = cZ c w
    · simp (disch := omega) only [b2_if0, b2_ifn, b2_if1, jn_def, nm_def, bp_some, bn_some, wiZ, wlZ, wiD, if_pos, if_neg, if_true, if_false, not_true_eq_false, not_false_eq_true, Int.toNat_natCast]
      by_cases q3 : sp s w ≤ 1
      · simp (disch := omega) only [b2_if0, b2_ifn, b2_if1, jn_def, nm_def, bp_some, bn_some, wiZ, wlZ, wiD, if_pos, if_neg, if_true, if_false, not_true_eq_false, not_false_eq_true, Int.toNat_natCast]; rw [b2_t (by omega)]
      · simp (disch := omega) only [b2_if0, b2_ifn, b2_if1, jn_def, nm_def, bp_some, bn_some, wiZ, wlZ, wiD, if_pos, if_neg, if_true, if_false, not_true_eq_false, not_false_eq_true, Int.toNat_natCast]; rw [b2_f (by omega)]
    · simp (disch := omega) only [b2_if0, b2_ifn, b2_if1, jn_def, nm_def, bp_some, bn_some, wiZ, wlZ, wiD, if_pos, if_neg, if_true, if_false, not_true_eq_false, not_false_eq_true, Int.toNat_natCast]; rw [b2_f (by omega)]
  · simp (disch := omega) only [b2_if0, b2_ifn, b2_if1, jn_def, nm_def, bp_some, bn_some, wiZ, wlZ, wiD, if_pos, if_neg, if_true, if_false, not_true_eq_false, not_false_eq_true, Int.toNat_natCast]; rw [b2_f (by omega)]
theorem e_mayBe {c : cC} {σ : sM} {F : Nat} (h : RelX c σ) (hc : OkC c) (hF : 10 ≤ F) {s k : Nat} (hs : s < 4096) (hk : k < 7) : X1_mayBe F σ (s : Int) (k : Int) = some (b2 (mD c s k)) := by
  unfold X1_mayBe
  by_cases q : 3 ≤ k
  · simp (disch := omega) only [b2_if0, b2_ifn, b2_if1, jn_def, nm_def, bp_some, bn_some, wiZ, wlZ, wiD, if_pos, if_neg, if_true, if_false, not_true_eq_false, not_false_eq_true, Int.toNat_natCast]
    by_cases q2 : k = 6
    · simp (disch := omega) only [b2_if0, b2_ifn, b2_if1, jn_def, nm_def, bp_some, bn_some, wiZ, wlZ, wiD, if_pos, if_neg, if_true, if_false, not_true_eq_false, not_false_eq_true, Int.toNat_natCast]; rw [b2_t (by omega)]
    · rw [show (k : Int) - 3 = ((k - 3 : Nat) : Int) by omega]
      simp (disch := omega) only [b2_if0, b2_ifn, b2_if1, jn_def, nm_def, bp_some, bn_some, wiZ, wlZ, wiD, if_pos, if_neg, if_true, if_false, not_true_eq_false, not_false_eq_true, Int.toNat_natCast, e_maySell h hc]
      by_cases q3 : mS c s (k - 3)
      · simp (disch := omega) only [b2_if0, b2_ifn, b2_if1, jn_def, nm_def, bp_some, bn_some, wiZ, wlZ, wiD, if_pos, if_neg, if_true, if_false, not_true_eq_false, not_false_eq_true, Int.toNat_natCast]; rw [b2_t (Or.inr (Or.inr ⟨q, by omega, q3⟩))]
      · rw [if_neg q3, b2_f]
        rintro (h1 | h1 | h1)
        · exact q2 h1
        · omega
        · exact q3 h1.2.2
  · simp (disch := omega) only [b2_if0, b2_ifn, b2_if1, jn_def, nm_def, bp_some, bn_some, wiZ, wlZ, wiD, if_pos, if_neg, if_true, if_false, not_true_eq_false, not_false_eq_true, Int.toNat_natCast, e_mayEat h hc hF]
    by_cases q3 : mE c s k
    · rw [b2_t q3, b2_t (Or.inr (Or.inl ⟨by omega, q3⟩))]
    · rw [b2_f q3, b2_f]
      rintro (h1 | h1 | h1)
      · omega
      · exact q3 h1.2
      · omega
theorem e_hadBy {c : cC} {σ : sM} (h : RelX c σ) (hc : OkC c) {s k t : Nat} (hs : s < 4096) (hk : k < 7) (ht : t < 1000) (hd : k < 3 → k < cW c) : X1_hadBy σ (s : Int) (k : Int) (t : Int) = some (hB c s k t : Int) := by
  unfold X1_hadBy hB
  by_cases q2 : k = 6
  · simp (disch := omega) only [b2_if0, b2_ifn, b2_if1, jn_def, nm_def, bp_some, bn_some, wiZ, wlZ, wiD, if_pos, if_neg, if_true, if_false, not_true_eq_false, not_false_eq_true, Int.toNat_natCast]; rfl
  · by_cases q : 3 ≤ k
    · rw [show (k : Int) - 3 = ((k - 3 : Nat) : Int) by omega]
      simp (disch := omega) only [b2_if0, b2_ifn, b2_if1, jn_def, nm_def, bp_some, bn_some, wiZ, wlZ, wiD, if_pos, if_neg, if_true, if_false, not_true_eq_false, not_false_eq_true, Int.toNat_natCast, e_portionsOf, e_priceOf h hc]
      exact congrArg some (by push_cast; rfl)
    · have := hd (by omega)
      simp (disch := omega) only [b2_if0, b2_ifn, b2_if1, jn_def, nm_def, bp_some, bn_some, wiZ, wlZ, wiD, if_pos, if_neg, if_true, if_false, not_true_eq_false, not_false_eq_true, Int.toNat_natCast, e_goodNow h hc]
theorem e_field (σ : sM) {w a b : Nat} (hw : w < 3) (ha : a < 4) (hb : b < 4) : X8_field σ (w : Int) (a : Int) (b : Int) = some (((4 * a + b) * 16 ^ w : Nat) : Int) := by
  unfold X8_field
  rw [show (4 : Int) * (w : Int) = ((4 * w : Nat) : Int) by push_cast; rfl, show (4 : Int) * (a : Int) + (b : Int) = ((4 * a + b : Nat) : Int) by push_cast; rfl]
  have h : 2 ^ (4 * w) = 16 ^ w := by rw [Nat.pow_mul]
  have h2 : 16 ^ w ≤ 16 ^ 2 := Nat.pow_le_pow_right (by decide) (by omega)
  have h3 : (4 * a + b) * 16 ^ w ≤ 15 * 16 ^ 2 := Nat.mul_le_mul (by omega) h2
  rw [q_shlN (by rw [h]; omega) (by omega), h]
theorem po_le_s (s w : Nat) : po s w * 16 ^ w ≤ s := by
  unfold po
  calc s / 16 ^ w % 4 * 16 ^ w ≤ s / 16 ^ w * 16 ^ w := Nat.mul_le_mul_right _ (Nat.mod_le _ _)
    _ ≤ s := Nat.div_mul_le_self _ _
theorem e_standAfter {c : cC} {σ : sM} {s k : Nat} (hs : s < 4096) (hk : k < 7) (hd : k < 3 → 0 < po s k) : X1_standAfter σ (s : Int) (k : Int) = some (bh s k : Int) := by
  unfold X1_standAfter bh
  by_cases q2 : k = 6
  · simp (disch := omega) only [b2_if0, b2_ifn, b2_if1, jn_def, nm_def, bp_some, bn_some, wiZ, wlZ, wiD, if_pos, if_neg, if_true, if_false, not_true_eq_false, not_false_eq_true, Int.toNat_natCast]
  · by_cases q : 3 ≤ k
    · have := po_lt s (k - 3)
      have h3 := po_le_s s (k - 3)
      rw [show (k : Int) - 3 = ((k - 3 : Nat) : Int) by omega]
      simp (disch := omega) only [b2_if0, b2_ifn, b2_if1, jn_def, nm_def, bp_some, bn_some, wiZ, wlZ, wiD, if_pos, if_neg, if_true, if_false, not_true_eq_false, not_false_eq_true, Int.toNat_natCast, e_portionsOf]
      have := e_field σ (w := k - 3) (a := 0) (b := po s (k - 3)) (by omega) (by omega) (by omega)
      rw [show ((0 : Nat) : Int) = 0 from rfl] at this
      rw [this, bp_some]
      rw [show 4 * 0 + po s (k - 3) = po s (k - 3) by omega]
      exact congrArg some (by omega)
    · have h4 := hd (by omega)
      have h3 := po_le_s s k
      have h5 : 1 * 16 ^ k ≤ po s k * 16 ^ k := Nat.mul_le_mul_right _ h4
      simp (disch := omega) only [b2_if0, b2_ifn, b2_if1, jn_def, nm_def, bp_some, bn_some, wiZ, wlZ, wiD, if_pos, if_neg, if_true, if_false, not_true_eq_false, not_false_eq_true, Int.toNat_natCast]
      have := e_field σ (w := k) (a := 0) (b := 1) (by omega) (by omega) (by omega)
      rw [show ((0 : Nat) : Int) = 0 from rfl, show ((1 : Nat) : Int) = 1 from rfl] at this
      rw [this, bp_some]
      rw [show 4 * 0 + 1 = 1 from rfl]
      exact congrArg some (by omega)
