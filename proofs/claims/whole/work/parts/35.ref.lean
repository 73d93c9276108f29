/-- the reference's stopped flags -/
def RelP (c : cC) (p : Nat) (σ : sM) : Prop := ∀ w, w < cW c → σ 73 w = (stp p w : Int)
def cd (s w : Nat) : Nat := s / 16 ^ w % 16
theorem cd_lt (s w : Nat) : cd s w < 16 := Nat.mod_lt _ (by decide)
theorem cd_and (s w : Nat) : q_and (cd s w : Int) 3 = (po s w : Int) := by
  have := cd_lt s w
  rw [q_andN (by omega) 2 3 (by decide)]
  unfold cd po
  congr 1
  omega
theorem cd_shr (s w : Nat) : q_shr (cd s w : Int) 2 = (sp s w : Int) := by
  have := cd_lt s w
  rw [show (2 : Int) = ((2 : Nat) : Int) from rfl, q_shrN (by omega) (by omega)]
  unfold cd sp
  congr 1
  omega
theorem cd_eq (s w : Nat) : cd s w = 4 * sp s w + po s w := by unfold cd sp po; omega
theorem f_codeOf (σ : sM) {s w : Nat} (hs : s < 4096) (hw : w < 3) : X9_codeOf σ (s : Int) (w : Int) = some (cd s w : Int) := by
  unfold X9_codeOf cd
  rw [show (4 : Int) * (w : Int) = ((4 * w : Nat) : Int) by push_cast; rfl, q_shrN (by omega) (by omega), q_andN (Nat.lt_of_le_of_lt (Nat.div_le_self _ _) (by omega)) 4 15 (by decide)]
  rw [show 2 ^ (4 * w) = 16 ^ w by rw [Nat.pow_mul]]
theorem f_in (σ : sM) (a x y : Int) (ha : wi a = a) (hx : wi x = x) (hy : wi y = y) : X9_in σ a x y = some (b2 (x ≤ a ∧ a ≤ y)) := by
  unfold X9_in
  rw [ha, hx, hy]
  by_cases q1 : a < x
  · simp (disch := omega) only [b2_if0, b2_ifn, b2_if1, jn_def, nm_def, bp_some, bn_some, wiZ, wlZ, wiD, if_pos, if_neg, if_true, if_false, not_true_eq_false, not_false_eq_true, Int.toNat_natCast]; rw [b2_f (by omega)]
  · by_cases q2 : y < a
    · simp (disch := omega) only [b2_if0, b2_ifn, b2_if1, jn_def, nm_def, bp_some, bn_some, wiZ, wlZ, wiD, if_pos, if_neg, if_true, if_false, not_true_eq_false, not_false_eq_true, Int.toNat_natCast]; rw [b2_f (by omega)]
    · simp (disch := omega) only [b2_if0, b2_ifn, b2_if1, jn_def, nm_def, bp_some, bn_some, wiZ, wlZ, wiD, if_pos, if_neg, if_true, if_false, not_true_eq_false, not_false_eq_true, Int.toNat_natCast]; rw [b2_t (by omega)]
theorem f_isWheel {c : cC} {σ : sM} (h : RelM c σ) (hc : OkC c) (a : Int) (ha : wi a = a) : X9_isWheel σ a = some (b2 (0 ≤ a ∧ a < (cW c : Int))) := by
  have h2 := hc.2.1
  unfold X9_isWheel
  rw [h.2.1, f_in σ a 0 _ ha (by decide) (wi_id (by omega) (by omega))]
  simp (disch := omega) only [b2_if0, b2_ifn, b2_if1, jn_def, nm_def, bp_some, bn_some, wiZ, wlZ, wiD, if_pos, if_neg, if_true, if_false, not_true_eq_false, not_false_eq_true, Int.toNat_natCast]
  unfold b2
  by_cases q : 0 ≤ a ∧ a < (cW c : Int)
  · simp (disch := omega) only [b2_if0, b2_ifn, b2_if1, jn_def, nm_def, bp_some, bn_some, wiZ, wlZ, wiD, if_pos, if_neg, if_true, if_false, not_true_eq_false, not_false_eq_true, Int.toNat_natCast]
  · simp (disch := omega) only [b2_if0, b2_ifn, b2_if1, jn_def, nm_def, bp_some, bn_some, wiZ, wlZ, wiD, if_pos, if_neg, if_true, if_false, not_true_eq_false, not_false_eq_true, Int.toNat_natCast]
theorem f_isWheelN {c : cC} {σ : sM} (h : RelM c σ) (hc : OkC c) {w : Nat} (hw : w < 1000) : X9_isWheel σ (w : Int) = some (b2 (w < cW c)) := by
  rw [f_isWheel h hc _ (wiN (by omega))]
  unfold b2
  by_cases q : w < cW c
  · simp (disch := omega) only [b2_if0, b2_ifn, b2_if1, jn_def, nm_def, bp_some, bn_some, wiZ, wlZ, wiD, if_pos, if_neg, if_true, if_false, not_true_eq_false, not_false_eq_true, Int.toNat_natCast]
  · simp (disch := omega) only [b2_if0, b2_ifn, b2_if1, jn_def, nm_def, bp_some, bn_some, wiZ, wlZ, wiD, if_pos, if_neg, if_true, if_false, not_true_eq_false, not_false_eq_true, Int.toNat_natCast]
theorem f_goodOf {c : cC} {σ : sM} (h : RelM c σ) (hc : OkC c) {w k : Nat} (hw : w < cW c) (hk : k < 4) : X9_goodOf σ (w : Int) (k : Int) = some (cT c (cO c w) k : Int) := by
  have h1 := hc.2.1
  have h2 := (hc.2.2.2.2.1 w hw).1
  have h3 := hc.1
  unfold X9_goodOf
  simp (disch := omega) only [b2_if0, b2_ifn, b2_if1, jn_def, nm_def, bp_some, bn_some, wiZ, wlZ, wiD, if_pos, if_neg, if_true, if_false, not_true_eq_false, not_false_eq_true, Int.toNat_natCast]
  rw [(h.2.2.2.2.1 w hw).1, show (14 : Int) * (cO c w : Int) + (k : Int) = ((14 * cO c w + k : Nat) : Int) by push_cast; rfl]
  simp (disch := omega) only [b2_if0, b2_ifn, b2_if1, jn_def, nm_def, bp_some, bn_some, wiZ, wlZ, wiD, if_pos, if_neg, if_true, if_false, not_true_eq_false, not_false_eq_true, Int.toNat_natCast]
  rw [h.2.2.2.2.2.2 _ h2 k (by omega)]
theorem f_warmth {c : cC} {σ : sM} (h : RelM c σ) (hc : OkC c) {t : Nat} (ht : t < 1000) : X9_warmth σ (t : Int) = some (cH c t : Int) := by
  unfold X9_warmth
  by_cases q : t < 8
  · simp (disch := omega) only [b2_if0, b2_ifn, b2_if1, jn_def, nm_def, bp_some, bn_some, wiZ, wlZ, wiD, if_pos, if_neg, if_true, if_false, not_true_eq_false, not_false_eq_true, Int.toNat_natCast]; rw [(h.2.2.2.2.2.1 t q).1]
  · simp (disch := omega) only [b2_if0, b2_ifn, b2_if1, jn_def, nm_def, bp_some, bn_some, wiZ, wlZ, wiD, if_pos, if_neg, if_true, if_false, not_true_eq_false, not_false_eq_true, Int.toNat_natCast]; rw [(hc.2.2.2.2.2.2.2.1 t (by omega)).1]; rfl
def rg (c : cC) (p w k b t : Nat) : Nat := if b = 0 ∨ k = 3 ∨ stp p w = 1 then 0 else tq c (cO c w) ((if b = cZ c w then 4 else 7) + k) t
theorem f_goes {c : cC} {σ : sM} {p : Nat} (h : RelM c σ) (hc : OkC c) (hp : RelP c p σ) {w k b t : Nat} (hw : w < cW c) (hk : k < 4) (hb : b < 4) (ht : t < 1000) : X9_goes σ (w : Int) (k : Int) (b : Int) (t : Int) = some (rg c p w k b t : Int) := by
  have h1 := hc.2.1
  have h2 := (hc.2.2.2.2.1 w hw).1
  have h3 := hc.1
  have h4 := stp_lt p w
  have h5 := cZ_le hc w
  have h6 := cH_le hc t
  unfold X9_goes rg
  by_cases q1 : b = 0
  · simp (disch := omega) only [b2_if0, b2_ifn, b2_if1, jn_def, nm_def, bp_some, bn_some, wiZ, wlZ, wiD, if_pos, if_neg, if_true, if_false, not_true_eq_false, not_false_eq_true, Int.toNat_natCast]; rfl
  by_cases q2 : k = 3
  · simp (disch := omega) only [b2_if0, b2_ifn, b2_if1, jn_def, nm_def, bp_some, bn_some, wiZ, wlZ, wiD, if_pos, if_neg, if_true, if_false, not_true_eq_false, not_false_eq_true, Int.toNat_natCast]; rfl
  simp (disch := omega) only [b2_if0, b2_ifn, b2_if1, jn_def, nm_def, bp_some, bn_some, wiZ, wlZ, wiD, if_pos, if_neg, if_true, if_false, not_true_eq_false, not_false_eq_true, Int.toNat_natCast]
  rw [hp w hw]
  by_cases q3 : stp p w = 1
  · simp (disch := omega) only [b2_if0, b2_ifn, b2_if1, jn_def, nm_def, bp_some, bn_some, wiZ, wlZ, wiD, if_pos, if_neg, if_true, if_false, not_true_eq_false, not_false_eq_true, Int.toNat_natCast]; rfl
  simp (disch := omega) only [b2_if0, b2_ifn, b2_if1, jn_def, nm_def, bp_some, bn_some, wiZ, wlZ, wiD, if_pos, if_neg, if_true, if_false, not_true_eq_false, not_false_eq_true, Int.toNat_natCast]
  rw [(h.2.2.2.2.1 w hw).1, (h.2.2.2.2.1 w hw).2]
  unfold tq
  by_cases q4 : b = cZ c w
  · have h7 := cT_le hc (cO c w) (4 + k)
    simp (disch := omega) only [b2_if0, b2_ifn, b2_if1, jn_def, nm_def, bp_some, bn_some, wiZ, wlZ, wiD, if_pos, if_neg, if_true, if_false, not_true_eq_false, not_false_eq_true, Int.toNat_natCast]
    rw [show (14 : Int) * (cO c w : Int) + 4 + (k : Int) = ((14 * cO c w + (4 + k) : Nat) : Int) by push_cast; omega]
    simp (disch := omega) only [b2_if0, b2_ifn, b2_if1, jn_def, nm_def, bp_some, bn_some, wiZ, wlZ, wiD, if_pos, if_neg, if_true, if_false, not_true_eq_false, not_false_eq_true, Int.toNat_natCast]
    rw [h.2.2.2.2.2.2 _ h2 (4 + k) (by omega), f_warmth h hc ht]
    simp (disch := omega) only [b2_if0, b2_ifn, b2_if1, jn_def, nm_def, bp_some, bn_some, wiZ, wlZ, wiD, if_pos, if_neg, if_true, if_false, not_true_eq_false, not_false_eq_true, Int.toNat_natCast]
    by_cases q5 : cT c (cO c w) (4 + k) = 0
    · simp (disch := omega) only [b2_if0, b2_ifn, b2_if1, jn_def, nm_def, bp_some, bn_some, wiZ, wlZ, wiD, if_pos, if_neg, if_true, if_false, not_true_eq_false, not_false_eq_true, Int.toNat_natCast]; rfl
    · by_cases q6 : cT c (cO c w) (4 + k) + cH c t ≤ 10
      · simp (disch := omega) only [b2_if0, b2_ifn, b2_if1, jn_def, nm_def, bp_some, bn_some, wiZ, wlZ, wiD, if_pos, if_neg, if_true, if_false, not_true_eq_false, not_false_eq_true, Int.toNat_natCast]; exact congrArg some (by omega)
      · simp (disch := omega) only [b2_if0, b2_ifn, b2_if1, jn_def, nm_def, bp_some, bn_some, wiZ, wlZ, wiD, if_pos, if_neg, if_true, if_false, not_true_eq_false, not_false_eq_true, Int.toNat_natCast]; exact congrArg some (by omega)
  · have h7 := cT_le hc (cO c w) (7 + k)
    simp (disch := omega) only [b2_if0, b2_ifn, b2_if1, jn_def, nm_def, bp_some, bn_some, wiZ, wlZ, wiD, if_pos, if_neg, if_true, if_false, not_true_eq_false, not_false_eq_true, Int.toNat_natCast]
    rw [show (14 : Int) * (cO c w : Int) + 7 + (k : Int) = ((14 * cO c w + (7 + k) : Nat) : Int) by push_cast; omega]
    simp (disch := omega) only [b2_if0, b2_ifn, b2_if1, jn_def, nm_def, bp_some, bn_some, wiZ, wlZ, wiD, if_pos, if_neg, if_true, if_false, not_true_eq_false, not_false_eq_true, Int.toNat_natCast]
    rw [h.2.2.2.2.2.2 _ h2 (7 + k) (by omega), f_warmth h hc ht]
    simp (disch := omega) only [b2_if0, b2_ifn, b2_if1, jn_def, nm_def, bp_some, bn_some, wiZ, wlZ, wiD, if_pos, if_neg, if_true, if_false, not_true_eq_false, not_false_eq_true, Int.toNat_natCast]
    by_cases q5 : cT c (cO c w) (7 + k) = 0
    · simp (disch := omega) only [b2_if0, b2_ifn, b2_if1, jn_def, nm_def, bp_some, bn_some, wiZ, wlZ, wiD, if_pos, if_neg, if_true, if_false, not_true_eq_false, not_false_eq_true, Int.toNat_natCast]; rfl
    · by_cases q6 : cT c (cO c w) (7 + k) + cH c t ≤ 10
      · simp (disch := omega) only [b2_if0, b2_ifn, b2_if1, jn_def, nm_def, bp_some, bn_some, wiZ, wlZ, wiD, if_pos, if_neg, if_true, if_false, not_true_eq_false, not_false_eq_true, Int.toNat_natCast]; exact congrArg some (by omega)
      · simp (disch := omega) only [b2_if0, b2_ifn, b2_if1, jn_def, nm_def, bp_some, bn_some, wiZ, wlZ, wiD, if_pos, if_neg, if_true, if_false, not_true_eq_false, not_false_eq_true, Int.toNat_natCast]; exact congrArg some (by omega)
theorem rg_tn (c : cC) (s p w t : Nat) : rg c p w (sp s w) (po s w) t = tn c s p w t := by
  have h4 := stp_lt p w
  have h2 := sp_lt s w
  unfold rg tn
  by_cases q : gO s p w
  · have := q.1
    have := q.2.1
    have := q.2.2
    rw [if_pos q, if_neg (by omega)]
  · rw [if_neg q]
    by_cases q2 : po s w = 0 ∨ sp s w = 3 ∨ stp p w = 1
    · rw [if_pos q2]
    · exact absurd (show gO s p w from ⟨by omega, by omega, by omega⟩) q
theorem po_hi {c : cC} (hc : OkC c) {s w : Nat} (hv : Vs c s) (hw : cW c ≤ w) : po s w = 0 := by
  unfold po
  have h1 := hv.1
  have : 16 ^ cW c ≤ 16 ^ w := Nat.pow_le_pow_right (by decide) hw
  rw [Nat.div_eq_of_lt (by omega)]
theorem sp_hi {c : cC} (hc : OkC c) {s w : Nat} (hv : Vs c s) (hw : cW c ≤ w) : sp s w = 0 := by
  unfold sp
  have h1 := hv.1
  have : 16 ^ cW c ≤ 16 ^ w := Nat.pow_le_pow_right (by decide) hw
  rw [show s / 16 ^ w = 0 from Nat.div_eq_of_lt (by omega)]
theorem f_tenths {c : cC} {σ : sM} {p : Nat} (h : RelM c σ) (hc : OkC c) (hp : RelP c p σ) {s w t : Nat} (hv : Vs c s) (hw : w < 3) (ht : t < 1000) : X9_tenths σ (s : Int) (w : Int) (t : Int) = some (tn c s p w t : Int) := by
  have hs := hv.lt hc
  have h1 := sp_lt s w
  have h2 := po_lt s w
  unfold X9_tenths
  simp (disch := omega) only [b2_if0, b2_ifn, b2_if1, jn_def, nm_def, bp_some, bn_some, wiZ, wlZ, wiD, if_pos, if_neg, if_true, if_false, not_true_eq_false, not_false_eq_true, Int.toNat_natCast, f_codeOf, f_isWheelN h hc, cd_and, cd_shr]
  by_cases q : w < cW c
  · simp (disch := omega) only [b2_if0, b2_ifn, b2_if1, jn_def, nm_def, bp_some, bn_some, wiZ, wlZ, wiD, if_pos, if_neg, if_true, if_false, not_true_eq_false, not_false_eq_true, Int.toNat_natCast, f_goes h hc hp, rg_tn]
  · simp (disch := omega) only [b2_if0, b2_ifn, b2_if1, jn_def, nm_def, bp_some, bn_some, wiZ, wlZ, wiD, if_pos, if_neg, if_true, if_false, not_true_eq_false, not_false_eq_true, Int.toNat_natCast]
    have h3 := po_hi hc hv (w := w) (by omega)
    unfold tn gO
    rw [if_neg (by omega)]; rfl
theorem f_isOpenIn {c : cC} {σ : sM} (h : RelM c σ) (hc : OkC c) {s w : Nat} (hs : s < 4096) (hw : w < cW c) : X9_isOpenIn σ (s : Int) (w : Int) = some (opn c s w : Int) := by
  have h1 := hc.2.1
  have h2 := po_lt s w
  have h5 := cZ_le hc w
  unfold X9_isOpenIn opn
  simp (disch := omega) only [b2_if0, b2_ifn, b2_if1, jn_def, nm_def, bp_some, bn_some, wiZ, wlZ, wiD, if_pos, if_neg, if_true, if_false, not_true_eq_false, not_false_eq_true, Int.toNat_natCast, f_codeOf, cd_and]
  rw [(h.2.2.2.2.1 w hw).2]
  by_cases q : po s w = 0
  · simp (disch := omega) only [b2_if0, b2_ifn, b2_if1, jn_def, nm_def, bp_some, bn_some, wiZ, wlZ, wiD, if_pos, if_neg, if_true, if_false, not_true_eq_false, not_false_eq_true, Int.toNat_natCast]; rfl
  · by_cases q2 : po s w < cZ c w
    · simp (disch := omega) only [b2_if0, b2_ifn, b2_if1, jn_def, nm_def, bp_some, bn_some, wiZ, wlZ, wiD, if_pos, if_neg, if_true, if_false, not_true_eq_false, not_false_eq_true, Int.toNat_natCast]; rfl
    · simp (disch := omega) only [b2_if0, b2_ifn, b2_if1, jn_def, nm_def, bp_some, bn_some, wiZ, wlZ, wiD, if_pos, if_neg, if_true, if_false, not_true_eq_false, not_false_eq_true, Int.toNat_natCast]; rfl
def oth (c : cC) (s w : Nat) : Nat → Nat
  | 0 => 0
  | i + 1 => oth c s w i + if i = w then 0 else opn c s i
theorem oth_le (c : cC) (s w n : Nat) : oth c s w n ≤ n := by
  induction n with
  | zero => exact Nat.le_refl _
  | succ n ih =>
    have := opn_le c s n
    show oth c s w n + (if n = w then 0 else opn c s n) ≤ n + 1
    split <;> omega
theorem oth_nop {c : cC} (s w n : Nat) (h : opn c s w = 0) : oth c s w n = nopTo c s n := by
  induction n with
  | zero => rfl
  | succ n ih =>
    show oth c s w n + (if n = w then 0 else opn c s n) = nopTo c s n + opn c s n
    rw [ih]
    by_cases q : n = w
    · rw [if_pos q, q, h]
    · rw [if_neg q]
theorem opn_hi {c : cC} (hc : OkC c) {s w : Nat} (hw : cW c ≤ w) : opn c s w = 0 := by
  unfold opn
  have := hc.2.2.2.2.2.1 w hw
  rw [if_neg (by omega)]
theorem nopTo_nop {c : cC} (hc : OkC c) (s : Nat) : nopTo c s (cW c) = nop c s := by
  have h1 := hc.2.1
  have h : ∀ n, cW c + n = 3 → nopTo c s (cW c) = nopTo c s 3 := by
    intro n hn
    rw [← hn]
    clear hn
    induction n with
    | zero => rfl
    | succ n ih =>
      show _ = nopTo c s (cW c + n) + opn c s (cW c + n)
      rw [← ih, opn_hi hc (by omega), Nat.add_zero]
  rw [h (3 - cW c) (by omega)]
  show 0 + opn c s 0 + opn c s 1 + opn c s 2 = opn c s 0 + opn c s 1 + opn c s 2
  omega
theorem f_mayEat {c : cC} {σ : sM} {F : Nat} (h : RelM c σ) (hc : OkC c) (hF : 10 ≤ F) {s w : Nat} (hv : Vs c s) (hw : w < 3) : X9_mayEat F σ (s : Int) (w : Int) = some (b2 (mE c s w)) := by
  have hs := hv.lt hc
  have h1 := hc.2.1
  have h2 := po_lt s w
  have h3 := hv.2 w hw
  have h5 := cZ_le hc w
  have h6 := hc.2.2.2.1
  unfold X9_mayEat
  simp (disch := omega) only [b2_if0, b2_ifn, b2_if1, jn_def, nm_def, bp_some, bn_some, wiZ, wlZ, wiD, if_pos, if_neg, if_true, if_false, not_true_eq_false, not_false_eq_true, Int.toNat_natCast, f_isWheelN h hc, f_codeOf]
  by_cases q : w < cW c
  · simp (disch := omega) only [b2_if0, b2_ifn, b2_if1, jn_def, nm_def, bp_some, bn_some, wiZ, wlZ, wiD, if_pos, if_neg, if_true, if_false, not_true_eq_false, not_false_eq_true, Int.toNat_natCast]
    refine lp_run (fun i => (((oth c s w i : Nat) : Int), ((i : Nat) : Int))) (cW c) (fun i hi K => ?_) (fun K => ?_) (by omega)
    · simp only []
      rw [h.2.1]
      have h7 := opn_le c s i
      simp (disch := omega) only [b2_if0, b2_ifn, b2_if1, jn_def, nm_def, bp_some, bn_some, wiZ, wlZ, wiD, if_pos, if_neg, if_true, if_false, not_true_eq_false, not_false_eq_true, Int.toNat_natCast]
      have e1 : ((i + 1 : Nat) : Int) = (i : Int) + 1 := by omega
      have e2 : ((oth c s w (i + 1) : Nat) : Int) = (oth c s w i : Int) + ((if i = w then 0 else opn c s i : Nat) : Int) := by show ((oth c s w i + (if i = w then 0 else opn c s i) : Nat) : Int) = _; omega
      rw [e1, e2]
      by_cases q2 : i = w
      · simp (disch := omega) only [b2_if0, b2_ifn, b2_if1, jn_def, nm_def, bp_some, bn_some, wiZ, wlZ, wiD, if_pos, if_neg, if_true, if_false, not_true_eq_false, not_false_eq_true, Int.toNat_natCast]; rfl
      · simp (disch := omega) only [b2_if0, b2_ifn, b2_if1, jn_def, nm_def, bp_some, bn_some, wiZ, wlZ, wiD, if_pos, if_neg, if_true, if_false, not_true_eq_false, not_false_eq_true, Int.toNat_natCast, f_isOpenIn h hc]
        by_cases q3 : opn c s i = 0
        · simp (disch := omega) only [b2_if0, b2_ifn, b2_if1, jn_def, nm_def, bp_some, bn_some, wiZ, wlZ, wiD, if_pos, if_neg, if_true, if_false, not_true_eq_false, not_false_eq_true, Int.toNat_natCast]; rw [q3]; rfl
        · simp (disch := omega) only [b2_if0, b2_ifn, b2_if1, jn_def, nm_def, bp_some, bn_some, wiZ, wlZ, wiD, if_pos, if_neg, if_true, if_false, not_true_eq_false, not_false_eq_true, Int.toNat_natCast]; rw [show opn c s i = 1 by omega]; rfl
    · simp only []
      have h8 := oth_le c s w (cW c)
      rw [h.2.1, h.2.2.2.1, (h.2.2.2.2.1 w q).2, cd_and]
      simp (disch := omega) only [b2_if0, b2_ifn, b2_if1, jn_def, nm_def, bp_some, bn_some, wiZ, wlZ, wiD, if_pos, if_neg, if_true, if_false, not_true_eq_false, not_false_eq_true, Int.toNat_natCast]
      by_cases q2 : po s w = 0
      · simp (disch := omega) only [b2_if0, b2_ifn, b2_if1, jn_def, nm_def, bp_some, bn_some, wiZ, wlZ, wiD, if_pos, if_neg, if_true, if_false, not_true_eq_false, not_false_eq_true, Int.toNat_natCast]; rw [b2_f (by omega)]
      · by_cases q3 : po s w < cZ c w
        · simp (disch := omega) only [b2_if0, b2_ifn, b2_if1, jn_def, nm_def, bp_some, bn_some, wiZ, wlZ, wiD, if_pos, if_neg, if_true, if_false, not_true_eq_false, not_false_eq_true, Int.toNat_natCast]; rw [b2_t (by omega)]
        · have h9 : oth c s w (cW c) = nop c s := by
            rw [oth_nop _ _ _ (by unfold opn; rw [if_neg (by omega)]), nopTo_nop hc]
          by_cases q4 : nop c s < cM c
          · simp (disch := omega) only [b2_if0, b2_ifn, b2_if1, jn_def, nm_def, bp_some, bn_some, wiZ, wlZ, wiD, if_pos, if_neg, if_true, if_false, not_true_eq_false, not_false_eq_true, Int.toNat_natCast]; rw [b2_t (by omega)]
          · simp (disch := omega) only [b2_if0, b2_ifn, b2_if1, jn_def, nm_def, bp_some, bn_some, wiZ, wlZ, wiD, if_pos, if_neg, if_true, if_false, not_true_eq_false, not_false_eq_true, Int.toNat_natCast]; rw [b2_f (by omega)]
  · simp (disch := omega) only [b2_if0, b2_ifn, b2_if1, jn_def, nm_def, bp_some, bn_some, wiZ, wlZ, wiD, if_pos, if_neg, if_true, if_false, not_true_eq_false, not_false_eq_true, Int.toNat_natCast]; rw [b2_f (by omega)]
theorem f_maySell {c : cC} {σ : sM} (h : RelM c σ) (hc : OkC c) {s w : Nat} (hs : s < 4096) (hw : w < 3) : X9_maySell σ (s : Int) (w : Int) = some (b2 (mS c s w)) := by
  have h1 := hc.2.1
  have h2 := po_lt s w
  have h3 := sp_lt s w
  have h5 := cZ_le hc w
  unfold X9_maySell
  simp (disch := omega) only [b2_if0, b2_ifn, b2_if1, jn_def, nm_def, bp_some, bn_some, wiZ, wlZ, wiD, if_pos, if_neg, if_true, if_false, not_true_eq_false, not_false_eq_true, Int.toNat_natCast, f_isWheelN h hc, f_codeOf]
  by_cases q : w < cW c
  · simp (disch := omega) only [b2_if0, b2_ifn, b2_if1, jn_def, nm_def, bp_some, bn_some, wiZ, wlZ, wiD, if_pos, if_neg, if_true, if_false, not_true_eq_false, not_false_eq_true, Int.toNat_natCast, cd_and, cd_shr]
    rw [(h.2.2.2.2.1 w q).2]
    simp (disch := omega) only [b2_if0, b2_ifn, b2_if1, jn_def, nm_def, bp_some, bn_some, wiZ, wlZ, wiD, if_pos, if_neg, if_true, if_false, not_true_eq_false, not_false_eq_true, Int.toNat_natCast]
    by_cases q2 : po s w = cZ c w
    · by_cases q3 : sp s w ≤ 1
      · simp (disch := omega) only [b2_if0, b2_ifn, b2_if1, jn_def, nm_def, bp_some, bn_some, wiZ, wlZ, wiD, if_pos, if_neg, if_true, if_false, not_true_eq_false, not_false_eq_true, Int.toNat_natCast]; rw [b2_t (by omega)]
      · simp (disch := omega) only [b2_if0, b2_ifn, b2_if1, jn_def, nm_def, bp_some, bn_some, wiZ, wlZ, wiD, if_pos, if_neg, if_true, if_false, not_true_eq_false, not_false_eq_true, Int.toNat_natCast]; rw [b2_f (by omega)]
    · simp (disch := omega) only [b2_if0, b2_ifn, b2_if1, jn_def, nm_def, bp_some, bn_some, wiZ, wlZ, wiD, if_pos, if_neg, if_true, if_false, not_true_eq_false, not_false_eq_true, Int.toNat_natCast]; rw [b2_f (by omega)]
  · simp (disch := omega) only [b2_if0, b2_ifn, b2_if1, jn_def, nm_def, bp_some, bn_some, wiZ, wlZ, wiD, if_pos, if_neg, if_true, if_false, not_true_eq_false, not_false_eq_true, Int.toNat_natCast]; rw [b2_f (by omega)]
theorem f_mayDo {c : cC} {σ : sM} {F : Nat} (h : RelM c σ) (hc : OkC c) (hF : 10 ≤ F) {s k : Nat} (hv : Vs c s) (hk : k < 7) : X9_mayDo F σ (s : Int) (k : Int) = some (b2 (mD c s k)) := by
  have hs := hv.lt hc
  unfold X9_mayDo
  by_cases q2 : k = 6
  · simp (disch := omega) only [b2_if0, b2_ifn, b2_if1, jn_def, nm_def, bp_some, bn_some, wiZ, wlZ, wiD, if_pos, if_neg, if_true, if_false, not_true_eq_false, not_false_eq_true, Int.toNat_natCast]; rw [b2_t (by omega)]
  · by_cases q : 3 ≤ k
    · rw [show (k : Int) - 3 = ((k - 3 : Nat) : Int) by omega]
      simp (disch := omega) only [b2_if0, b2_ifn, b2_if1, jn_def, nm_def, bp_some, bn_some, wiZ, wlZ, wiD, if_pos, if_neg, if_true, if_false, not_true_eq_false, not_false_eq_true, Int.toNat_natCast, f_maySell h hc]
      by_cases q3 : mS c s (k - 3)
      · rw [if_pos q3]; rw [b2_t (Or.inr (Or.inr ⟨q, by omega, q3⟩))]
      · rw [if_neg q3, b2_f]
        rintro (h1 | h1 | h1)
        · exact q2 h1
        · omega
        · exact q3 h1.2.2
    · simp (disch := omega) only [b2_if0, b2_ifn, b2_if1, jn_def, nm_def, bp_some, bn_some, wiZ, wlZ, wiD, if_pos, if_neg, if_true, if_false, not_true_eq_false, not_false_eq_true, Int.toNat_natCast, f_mayEat h hc hF hv]
      by_cases q3 : mE c s k
      · rw [if_pos q3, b2_t (Or.inr (Or.inl ⟨by omega, q3⟩))]
      · rw [if_neg q3, b2_f]
        rintro (h1 | h1 | h1)
        · omega
        · exact q3 h1.2
        · omega
theorem q_rem3 {k : Nat} (hk : k < 7) : q_rem (k : Int) 3 = ((k % 3 : Nat) : Int) := by
  have : ∀ k : Nat, k < 7 → q_rem (k : Int) 3 = ((k % 3 : Nat) : Int) := by decide +kernel
  exact this k hk
theorem f_hadBy {c : cC} {σ : sM} (h : RelM c σ) (hc : OkC c) {s k t : Nat} (hs : s < 4096) (hk : k < 7) (ht : t < 8) (hd : mD c s k) : X9_hadBy σ (s : Int) (k : Int) (t : Int) = some (hB c s k t : Int) := by
  have h1 := hc.2.1
  unfold X9_hadBy hB
  by_cases q2 : k = 6
  · simp (disch := omega) only [b2_if0, b2_ifn, b2_if1, jn_def, nm_def, bp_some, bn_some, wiZ, wlZ, wiD, if_pos, if_neg, if_true, if_false, not_true_eq_false, not_false_eq_true, Int.toNat_natCast]; rfl
  · rw [q_rem3 hk]
    by_cases q : 3 ≤ k
    · have hm : mS c s (k - 3) := by
        rcases hd with hh | hh | hh
        · exact absurd hh q2
        · omega
        · exact hh.2.2
      have hw := hm.1
      have h5 := hm.2.1
      rw [show k % 3 = k - 3 by omega]
      simp (disch := omega) only [b2_if0, b2_ifn, b2_if1, jn_def, nm_def, bp_some, bn_some, wiZ, wlZ, wiD, if_pos, if_neg, if_true, if_false, not_true_eq_false, not_false_eq_true, Int.toNat_natCast]
      rw [(h.2.2.2.2.1 _ hw).2, (h.2.2.2.2.2.1 t ht).2, h5]
      exact congrArg some (by push_cast; rfl)
    · have hm : mE c s k := by
        rcases hd with hh | hh | hh
        · exact absurd hh q2
        · exact hh.2
        · omega
      have hw := hm.1
      have h5 := sp_lt s k
      rw [show k % 3 = k by omega]
      simp (disch := omega) only [b2_if0, b2_ifn, b2_if1, jn_def, nm_def, bp_some, bn_some, wiZ, wlZ, wiD, if_pos, if_neg, if_true, if_false, not_true_eq_false, not_false_eq_true, Int.toNat_natCast, f_codeOf, cd_shr, f_goodOf h hc]
theorem f_behind {c : cC} {σ : sM} (h : RelM c σ) (hc : OkC c) {s k : Nat} (hs : s < 4096) (hk : k < 7) (hd : mD c s k) : X9_behind σ (s : Int) (k : Int) = some (bh s k : Int) := by
  have h1 := hc.2.1
  unfold X9_behind bh
  by_cases q2 : k = 6
  · simp (disch := omega) only [b2_if0, b2_ifn, b2_if1, jn_def, nm_def, bp_some, bn_some, wiZ, wlZ, wiD, if_pos, if_neg, if_true, if_false, not_true_eq_false, not_false_eq_true, Int.toNat_natCast]
  · rw [q_rem3 hk]
    by_cases q : 3 ≤ k
    · have hm : mS c s (k - 3) := by
        rcases hd with hh | hh | hh
        · exact absurd hh q2
        · omega
        · exact hh.2.2
      have hw := hm.1
      have h5 := hm.2.1
      have h6 := po_lt s (k - 3)
      have h3 := po_le_s s (k - 3)
      rw [show k % 3 = k - 3 by omega]
      simp (disch := omega) only [b2_if0, b2_ifn, b2_if1, jn_def, nm_def, bp_some, bn_some, wiZ, wlZ, wiD, if_pos, if_neg, if_true, if_false, not_true_eq_false, not_false_eq_true, Int.toNat_natCast]
      rw [(h.2.2.2.2.1 _ hw).2, ← h5, show (4 : Int) * ((k - 3 : Nat) : Int) = ((4 * (k - 3) : Nat) : Int) by push_cast; rfl]
      have hp : 2 ^ (4 * (k - 3)) = 16 ^ (k - 3) := by rw [Nat.pow_mul]
      rw [q_shlN (by rw [hp]; omega) (by omega), hp]
      exact congrArg some (by omega)
    · have hm : mE c s k := by
        rcases hd with hh | hh | hh
        · exact absurd hh q2
        · exact hh.2
        · omega
      have hw := hm.1
      have h5 : 1 * 16 ^ k ≤ po s k * 16 ^ k := Nat.mul_le_mul_right _ hm.2.1
      have h3 := po_le_s s k
      rw [show k % 3 = k by omega]
      simp (disch := omega) only [b2_if0, b2_ifn, b2_if1, jn_def, nm_def, bp_some, bn_some, wiZ, wlZ, wiD, if_pos, if_neg, if_true, if_false, not_true_eq_false, not_false_eq_true, Int.toNat_natCast]
      rw [show (4 : Int) * (k : Int) = ((4 * k : Nat) : Int) by push_cast; rfl]
      have hp : 2 ^ (4 * k) = 16 ^ k := by rw [Nat.pow_mul]
      rw [show (1 : Int) = ((1 : Nat) : Int) from rfl, q_shlN (by rw [hp]; omega) (by omega), hp]
      exact congrArg some (by omega)
