/-- THE CELLAR, abstract: 0: sorts, wheels, weeks, open; 1: sort of a wheel; 2: its size; 3: warmth; 4: price; 5 + i: the traits of sort i -/
abbrev cC : Type := Nat → Nat → Nat
abbrev cS (c : cC) : Nat := c 0 0
abbrev cW (c : cC) : Nat := c 0 1
abbrev cK (c : cC) : Nat := c 0 2
abbrev cM (c : cC) : Nat := c 0 3
abbrev cO (c : cC) (w : Nat) : Nat := c 1 w
abbrev cZ (c : cC) (w : Nat) : Nat := c 2 w
abbrev cH (c : cC) (t : Nat) : Nat := c 3 t
abbrev cP (c : cC) (t : Nat) : Nat := c 4 t
abbrev cT (c : cC) (i k : Nat) : Nat := c (5 + i) k
def OkC (c : cC) : Prop := cS c ≤ 4 ∧ cW c ≤ 3 ∧ (1 ≤ cK c ∧ cK c ≤ 8) ∧ (1 ≤ cM c ∧ cM c ≤ 3) ∧ (∀ w, w < cW c → cO c w < cS c ∧ 1 ≤ cZ c w ∧ cZ c w ≤ 3) ∧ (∀ w, cW c ≤ w → cZ c w = 0) ∧ (∀ t, cH c t ≤ 5 ∧ cP c t ≤ 99) ∧ (∀ t, 8 ≤ t → cH c t = 0 ∧ cP c t = 0) ∧ ∀ i k, cT c i k ≤ 99 ∧ (4 ≤ k → cT c i k ≤ 10)
/-- the class's cells hold it -/
def RelX (c : cC) (σ : sM) : Prop := σ 2 5 = (cS c : Int) ∧ σ 2 6 = (cW c : Int) ∧ σ 2 7 = (cK c : Int) ∧ σ 2 8 = (cM c : Int) ∧ (∀ w, w < 3 → σ 9 w = (cZ c w : Int)) ∧ (∀ w, w < cW c → σ 8 w = (cO c w : Int)) ∧ (∀ t, t < 8 → σ 10 t = (cH c t : Int) ∧ σ 11 t = (cP c t : Int)) ∧ ∀ i, i < cS c → ∀ k, k < 14 → σ (4 + i) k = (cT c i k : Int)
/-- the reference's cells hold it -/
def RelM (c : cC) (σ : sM) : Prop := σ 57 0 = (cS c : Int) ∧ σ 58 0 = (cW c : Int) ∧ σ 59 0 = (cK c : Int) ∧ σ 60 0 = (cM c : Int) ∧ (∀ w, w < cW c → σ 62 w = (cO c w : Int) ∧ σ 63 w = (cZ c w : Int)) ∧ (∀ t, t < 8 → σ 64 t = (cH c t : Int) ∧ σ 65 t = (cP c t : Int)) ∧ ∀ i, i < cS c → ∀ k, k < 14 → σ 61 (14 * i + k) = (cT c i k : Int)
theorem RelX.congr {c : cC} {σ σ' : sM} (h : RelX c σ) (hc : OkC c) (he : ∀ k, 2 ≤ k → k ≤ 11 → σ' k = σ k) : RelX c σ' := by
  obtain ⟨h1, h2, h3, h4, h5, h6, h7, h8⟩ := h
  have e2 := he 2 (by omega) (by omega)
  have e8 := he 8 (by omega) (by omega)
  have e9 := he 9 (by omega) (by omega)
  have e10 := he 10 (by omega) (by omega)
  have e11 := he 11 (by omega) (by omega)
  refine ⟨by rw [e2]; exact h1, by rw [e2]; exact h2, by rw [e2]; exact h3, by rw [e2]; exact h4, fun w hw => by rw [e9]; exact h5 w hw, fun w hw => by rw [e8]; exact h6 w hw, fun t ht => by rw [e10, e11]; exact h7 t ht, fun i hi k hk => ?_⟩
  have := hc.1
  rw [he (4 + i) (by omega) (by omega)]; exact h8 i hi k hk
def po (s w : Nat) : Nat := s / 16 ^ w % 4
def sp (s w : Nat) : Nat := s / 16 ^ w / 4 % 4
def b2 (p : Prop) [Decidable p] : Int := if p then 1 else 0
theorem po_lt (s w : Nat) : po s w < 4 := Nat.mod_lt _ (by decide)
theorem sp_lt (s w : Nat) : sp s w < 4 := Nat.mod_lt _ (by decide)
theorem e_portionsOf (σ : sM) {s w : Nat} (hs : s < 4096) (hw : w < 3) : X8_portionsOf σ (s : Int) (w : Int) = some (po s w : Int) := by
  unfold X8_portionsOf po
  rw [show (4 : Int) * (w : Int) = ((4 * w : Nat) : Int) by push_cast; rfl, q_shrN (by omega) (by omega), q_andN (Nat.lt_of_le_of_lt (Nat.div_le_self _ _) (by omega)) 2 3 (by decide)]
  rw [show 2 ^ (4 * w) = 16 ^ w by rw [Nat.pow_mul]]
theorem e_stepOf (σ : sM) {s w : Nat} (hs : s < 4096) (hw : w < 3) : X8_stepOf σ (s : Int) (w : Int) = some (sp s w : Int) := by
  unfold X8_stepOf sp
  rw [show (4 : Int) * (w : Int) + 2 = ((4 * w + 2 : Nat) : Int) by push_cast; rfl, q_shrN (by omega) (by omega), q_andN (Nat.lt_of_le_of_lt (Nat.div_le_self _ _) (by omega)) 2 3 (by decide)]
  rw [show 2 ^ (4 * w + 2) = 16 ^ w * 4 by rw [Nat.pow_add, Nat.pow_mul], Nat.div_div_eq_div_mul]
theorem e_isWheel {c : cC} {σ : sM} (h : RelX c σ) (hc : OkC c) (a : Int) (ha : wi a = a) : X1_isWheel σ a = some (b2 (0 ≤ a ∧ a < (cW c : Int))) := by
  obtain ⟨h1, h2, h3, h4, h5, h6, h7, h8⟩ := h
  have hw : wi (σ 2 6) = (cW c : Int) := by rw [h2]; exact wiN (by have := hc.2.1; omega)
  unfold X1_isWheel b2
  rw [ha, hw]
  by_cases q1 : a < 0
  · rw [if_pos q1, if_neg (by omega)]
  · rw [if_neg q1]
    by_cases q2 : (cW c : Int) ≤ a
    · rw [if_pos q2, if_neg (by omega)]
    · rw [if_neg q2, if_pos (by omega)]
