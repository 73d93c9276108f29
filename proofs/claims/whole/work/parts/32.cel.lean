theorem lp_succ {α β : Type} (B : (β → Option α) → β → Option α) (n : Nat) (x : β) : lp B (n + 1) x = B (lp B n) x := rfl
theorem jn_def {α β : Type} (J : β → Option α) (B : (β → Option α) → Option α) : jn J B = B J := rfl
theorem nm_def {α β : Type} (x : β) (k : β → Option α) : nm x k = k x := rfl
theorem bp_some {α : Type} (r : Int) (k : Int → Option α) : bp (some r) k = k r := rfl
theorem bn_some {α β : Type} (r : Int) (s : β) (k : Int → β → Option α) : bn (some (r, s)) k = k r s := rfl
theorem wi_b2 (p : Prop) [Decidable p] : wi (b2 p) = b2 p := by unfold b2; split <;> decide
theorem b2_0 (p : Prop) [Decidable p] : (b2 p = 0) ↔ ¬ p := by unfold b2; split <;> simp_all
theorem b2_t {p : Prop} [Decidable p] (h : p) : b2 p = 1 := if_pos h
theorem b2_f {p : Prop} [Decidable p] (h : ¬ p) : b2 p = 0 := if_neg h
theorem b2_01 (p : Prop) [Decidable p] : wi (b2 p) = 0 ∨ wi (b2 p) = 1 := by unfold b2; split <;> decide
/-- a stand that may be -/
def Vs (c : cC) (s : Nat) : Prop := s < 16 ^ cW c ∧ ∀ w, w < 3 → po s w ≤ cZ c w
def opn (c : cC) (s w : Nat) : Nat := if 0 < po s w ∧ po s w < cZ c w then 1 else 0
def nop (c : cC) (s : Nat) : Nat := opn c s 0 + opn c s 1 + opn c s 2
theorem Vs.lt {c : cC} {s : Nat} (hc : OkC c) (h : Vs c s) : s < 4096 := by
  have h1 := h.1
  have h2 := hc.2.1
  have : 16 ^ cW c ≤ 16 ^ 3 := Nat.pow_le_pow_right (by decide) h2
  omega
theorem e_trait {c : cC} {σ : sM} (h : RelX c σ) (hc : OkC c) {i k : Nat} (hi : i < cS c) (hk : k < 14) : X1_trait σ (i : Int) (k : Int) = some (cT c i k : Int) := by
  have h4 := hc.1
  unfold X1_trait
  rw [wiN (n := i) (by omega), wiN (n := k) (by omega)]
  rw [if_neg (by omega), if_neg (by omega), if_neg (by omega), if_pos (by omega), if_pos (by omega), if_pos (by omega)]
  rw [Int.toNat_natCast, Int.toNat_natCast, h.2.2.2.2.2.2.2 i hi k hk]
theorem e_sortOf {c : cC} {σ : sM} (h : RelX c σ) (hc : OkC c) {w : Nat} (hw : w < cW c) : X1_sortOf σ (w : Int) = some (cO c w : Int) := by
  have h4 := hc.2.1
  unfold X1_sortOf
  rw [wiN (n := w) (by omega), if_neg (by omega), if_neg (by omega), if_pos (by omega), Int.toNat_natCast, h.2.2.2.2.2.1 w hw]
theorem e_size {c : cC} {σ : sM} (h : RelX c σ) {w : Nat} (hw : w < 3) : X1_portionsAtFirst σ (w : Int) = some (cZ c w : Int) := by
  unfold X1_portionsAtFirst
  rw [wiN (n := w) (by omega), if_neg (by omega), if_neg (by omega), if_pos (by omega), Int.toNat_natCast, h.2.2.2.2.1 w hw]
theorem e_warmthOf {c : cC} {σ : sM} (h : RelX c σ) (hc : OkC c) {t : Nat} (ht : t < 1000) : X1_warmthOf σ (t : Int) = some (cH c t : Int) := by
  unfold X1_warmthOf
  rw [wiN (n := t) (by omega), if_neg (by omega)]
  by_cases q : t < 8
  · rw [if_neg (by omega), if_pos (by omega), Int.toNat_natCast, (h.2.2.2.2.2.2.1 t q).1]
  · rw [if_pos (by omega), (hc.2.2.2.2.2.2.2.1 t (by omega)).1]; rfl
theorem e_priceOf {c : cC} {σ : sM} (h : RelX c σ) (hc : OkC c) {t : Nat} (ht : t < 1000) : X1_priceOf σ (t : Int) = some (cP c t : Int) := by
  unfold X1_priceOf
  rw [wiN (n := t) (by omega), if_neg (by omega)]
  by_cases q : t < 8
  · rw [if_neg (by omega), if_pos (by omega), Int.toNat_natCast, (h.2.2.2.2.2.2.1 t q).2]
  · rw [if_pos (by omega), (hc.2.2.2.2.2.2.2.1 t (by omega)).2]; rfl
theorem cZ_le {c : cC} (hc : OkC c) (w : Nat) : cZ c w ≤ 3 := by
  by_cases h : w < cW c
  · exact (hc.2.2.2.2.1 w h).2.2
  · rw [hc.2.2.2.2.2.1 w (by omega)]; omega
theorem e_isWhole {c : cC} {σ : sM} (h : RelX c σ) (hc : OkC c) {s w : Nat} (hs : s < 4096) (hw : w < 3) : X1_isWhole σ (s : Int) (w : Int) = some (b2 (po s w = cZ c w)) := by
  have h1 := po_lt s w
  have h2 := cZ_le hc w
  unfold X1_isWhole
  simp only [jn_def, e_portionsOf σ hs hw, bp_some]
  rw [wiN (n := w) (by omega), if_neg (by omega), if_neg (by omega), if_pos (by omega), Int.toNat_natCast, h.2.2.2.2.1 w hw, wiN (by omega), wiN (by omega)]
  unfold b2
  by_cases q : po s w = cZ c w
  · rw [if_neg (by omega), if_pos q]
  · rw [if_pos (by omega), if_neg q]
/-- a loop whose rounds are known: place i of x ahead of round i, n rounds, then o -/
theorem lp_run {α β : Type} {B : (β → Option α) → β → Option α} {o : Option α} (x : Nat → β) (n : Nat) (hs : ∀ i, i < n → ∀ K, B K (x i) = K (x (i + 1))) (he : ∀ K, B K (x n) = o) {F : Nat} (hF : n < F) : lp B F (x 0) = o := by
  have key : ∀ m i F, i + m = n → m < F → lp B F (x i) = o := by
    intro m
    induction m with
    | zero =>
      intro i F h1 h2
      obtain ⟨G, rfl⟩ : ∃ G, F = G + 1 := ⟨F - 1, by omega⟩
      rw [lp_succ, show i = n by omega]
      exact he _
    | succ m ih =>
      intro i F h1 h2
      obtain ⟨G, rfl⟩ : ∃ G, F = G + 1 := ⟨F - 1, by omega⟩
      rw [lp_succ, hs i (by omega)]
      exact ih (i + 1) G (by omega) (by omega)
  exact key n 0 F (by omega) hF
def nopTo (c : cC) (s : Nat) : Nat → Nat
  | 0 => 0
  | i + 1 => nopTo c s i + opn c s i
theorem e_countOpen {c : cC} {σ : sM} {F : Nat} (h : RelX c σ) (hc : OkC c) (hF : 10 ≤ F) {s : Nat} (hs : s < 4096) : X1_countOpen F σ (s : Int) = some (nop c s : Int) := by
  unfold X1_countOpen
  refine lp_run (fun i => (((nopTo c s i : Nat) : Int), ((i : Nat) : Int))) 3 (fun w hw K => ?_) (fun K => ?_) (by omega)
  · have h1 := po_lt s w
    have h2 := cZ_le hc w
    simp only [jn_def, e_portionsOf σ hs hw, bp_some]
    rw [wiN (n := po s w) (by omega), wiN (n := w) (by omega), Int.toNat_natCast, h.2.2.2.2.1 w hw, wiN (n := cZ c w) (by omega), if_neg (by omega)]
    have e1 : ((w + 1 : Nat) : Int) = (w : Int) + 1 := by omega
    have e2 : ((nopTo c s (w + 1) : Nat) : Int) = (nopTo c s w : Int) + (opn c s w : Int) := by show ((nopTo c s w + opn c s w : Nat) : Int) = _; omega
    rw [e1, e2]
    unfold opn
    by_cases q : po s w = 0
    · rw [if_pos (by omega), if_neg (by omega)]; rfl
    · rw [if_neg (by omega), if_pos (by omega)]
      by_cases q2 : po s w < cZ c w
      · rw [if_neg (by omega), if_pos (by omega)]; rfl
      · rw [if_pos (by omega), if_neg (by omega)]; rfl
  · show (if 3 ≤ wi ((3 : Nat) : Int) then some ((nopTo c s 3 : Nat) : Int) else _) = _
    rw [if_pos (by decide)]
    show some (((0 + opn c s 0 + opn c s 1 + opn c s 2 : Nat)) : Int) = some ((opn c s 0 + opn c s 1 + opn c s 2 : Nat) : Int)
    rw [Nat.zero_add]
