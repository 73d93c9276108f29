theorem sC0 : strC 0 0 = 119 ∧ strC 0 1 = 101 ∧ strC 0 2 = 101 ∧ strC 0 3 = 107 ∧ strC 0 4 = 115 ∧ strL.getD 0 0 = 5 := by decide +kernel
theorem sC1 : strC 1 0 = 115 ∧ strC 1 1 = 111 ∧ strC 1 2 = 114 ∧ strC 1 3 = 116 ∧ strL.getD 1 0 = 4 := by decide +kernel
theorem sC2 : strC 2 0 = 119 ∧ strC 2 1 = 104 ∧ strC 2 2 = 111 ∧ strC 2 3 = 108 ∧ strC 2 4 = 101 ∧ strL.getD 2 0 = 5 := by decide +kernel
theorem sC3 : strC 3 0 = 99 ∧ strC 3 1 = 117 ∧ strC 3 2 = 116 ∧ strL.getD 3 0 = 3 := by decide +kernel
theorem sC4 : strC 4 0 = 115 ∧ strC 4 1 = 105 ∧ strC 4 2 = 103 ∧ strC 4 3 = 110 ∧ strL.getD 4 0 = 4 := by decide +kernel
theorem sC5 : strC 5 0 = 119 ∧ strC 5 1 = 104 ∧ strC 5 2 = 101 ∧ strC 5 3 = 101 ∧ strC 5 4 = 108 ∧ strL.getD 5 0 = 5 := by decide +kernel
theorem sC6 : strC 6 0 = 111 ∧ strC 6 1 = 112 ∧ strC 6 2 = 101 ∧ strC 6 3 = 110 ∧ strL.getD 6 0 = 4 := by decide +kernel
theorem sC7 : strC 7 0 = 119 ∧ strC 7 1 = 97 ∧ strC 7 2 = 114 ∧ strC 7 3 = 109 ∧ strL.getD 7 0 = 4 := by decide +kernel
theorem sC8 : strC 8 0 = 112 ∧ strC 8 1 = 114 ∧ strC 8 2 = 105 ∧ strC 8 3 = 99 ∧ strC 8 4 = 101 ∧ strL.getD 8 0 = 5 := by decide +kernel
theorem wC_e (b : Nat → Int) (p : Nat) : wC b p 1 = b (p + 0) - 96 ∧ wC b p 2 = 27 * (b (p + 0) - 96) + b (p + 1) - 96 ∧ wC b p 3 = 27 * (27 * (b (p + 0) - 96) + b (p + 1) - 96) + b (p + 2) - 96 ∧ wC b p 4 = 27 * (27 * (27 * (b (p + 0) - 96) + b (p + 1) - 96) + b (p + 2) - 96) + b (p + 3) - 96 ∧ wC b p 5 = 27 * (27 * (27 * (27 * (b (p + 0) - 96) + b (p + 1) - 96) + b (p + 2) - 96) + b (p + 3) - 96) + b (p + 4) - 96 := by
  unfold wC
  simp only [if_pos (show 1 ≤ 5 by decide), if_pos (show 2 ≤ 5 by decide), if_pos (show 3 ≤ 5 by decide), if_pos (show 4 ≤ 5 by decide), if_pos (show 5 ≤ 5 by decide), cdN]
  omega
theorem w_i0 {b : Nat → Int} {p L : Nat} (hL : 1 ≤ L) (h : ∀ j, j < L → 97 ≤ b (p + j) ∧ b (p + j) ≤ 122) : (L = 5 ∧ ∀ k, k < 5 → b (p + k) = strC 0 k) ↔ wC b p L = 12325519 := by
  obtain ⟨s0, s1, s2, s3, s4, -⟩ := sC0
  obtain ⟨e1, e2, e3, e4, e5⟩ := wC_e b p
  constructor
  · intro ⟨hl, hk⟩
    subst hl
    have k0 := hk 0 (by omega)
    have k1 := hk 1 (by omega)
    have k2 := hk 2 (by omega)
    have k3 := hk 3 (by omega)
    have k4 := hk 4 (by omega)
    rw [e5]
    omega
  · intro hz
    by_cases q : L ≤ 5
    · rcases (show L = 1 ∨ L = 2 ∨ L = 3 ∨ L = 4 ∨ L = 5 by omega) with rfl | rfl | rfl | rfl | rfl
      · have k0 := h 0 (by omega)
        rw [e1] at hz
        omega
      · have k0 := h 0 (by omega); have k1 := h 1 (by omega)
        rw [e2] at hz
        omega
      · have k0 := h 0 (by omega); have k1 := h 1 (by omega); have k2 := h 2 (by omega)
        rw [e3] at hz
        omega
      · have k0 := h 0 (by omega); have k1 := h 1 (by omega); have k2 := h 2 (by omega); have k3 := h 3 (by omega)
        rw [e4] at hz
        omega
      · have k0 := h 0 (by omega); have k1 := h 1 (by omega); have k2 := h 2 (by omega); have k3 := h 3 (by omega); have k4 := h 4 (by omega)
        rw [e5] at hz
        refine ⟨rfl, fun k hk => ?_⟩
        rcases (show k = 0 ∨ k = 1 ∨ k = 2 ∨ k = 3 ∨ k = 4 by omega) with rfl | rfl | rfl | rfl | rfl
        · rw [s0]; omega
        · rw [s1]; omega
        · rw [s2]; omega
        · rw [s3]; omega
        · rw [s4]; omega
    · unfold wC at hz; rw [if_neg q] at hz; omega
theorem w_i1 {b : Nat → Int} {p L : Nat} (hL : 1 ≤ L) (h : ∀ j, j < L → 97 ≤ b (p + j) ∧ b (p + j) ≤ 122) : (L = 4 ∧ ∀ k, k < 4 → b (p + k) = strC 1 k) ↔ wC b p L = 385418 := by
  obtain ⟨s0, s1, s2, s3, -⟩ := sC1
  obtain ⟨e1, e2, e3, e4, e5⟩ := wC_e b p
  constructor
  · intro ⟨hl, hk⟩
    subst hl
    have k0 := hk 0 (by omega)
    have k1 := hk 1 (by omega)
    have k2 := hk 2 (by omega)
    have k3 := hk 3 (by omega)
    rw [e4]
    omega
  · intro hz
    by_cases q : L ≤ 5
    · rcases (show L = 1 ∨ L = 2 ∨ L = 3 ∨ L = 4 ∨ L = 5 by omega) with rfl | rfl | rfl | rfl | rfl
      · have k0 := h 0 (by omega)
        rw [e1] at hz
        omega
      · have k0 := h 0 (by omega); have k1 := h 1 (by omega)
        rw [e2] at hz
        omega
      · have k0 := h 0 (by omega); have k1 := h 1 (by omega); have k2 := h 2 (by omega)
        rw [e3] at hz
        omega
      · have k0 := h 0 (by omega); have k1 := h 1 (by omega); have k2 := h 2 (by omega); have k3 := h 3 (by omega)
        rw [e4] at hz
        refine ⟨rfl, fun k hk => ?_⟩
        rcases (show k = 0 ∨ k = 1 ∨ k = 2 ∨ k = 3 by omega) with rfl | rfl | rfl | rfl
        · rw [s0]; omega
        · rw [s1]; omega
        · rw [s2]; omega
        · rw [s3]; omega
      · have k0 := h 0 (by omega); have k1 := h 1 (by omega); have k2 := h 2 (by omega); have k3 := h 3 (by omega); have k4 := h 4 (by omega)
        rw [e5] at hz
        omega
    · unfold wC at hz; rw [if_neg q] at hz; omega
theorem w_i2 {b : Nat → Int} {p L : Nat} (hL : 1 ≤ L) (h : ∀ j, j < L → 97 ≤ b (p + j) ∧ b (p + j) ≤ 122) : (L = 5 ∧ ∀ k, k < 5 → b (p + k) = strC 2 k) ↔ wC b p L = 12391871 := by
  obtain ⟨s0, s1, s2, s3, s4, -⟩ := sC2
  obtain ⟨e1, e2, e3, e4, e5⟩ := wC_e b p
  constructor
  · intro ⟨hl, hk⟩
    subst hl
    have k0 := hk 0 (by omega)
    have k1 := hk 1 (by omega)
    have k2 := hk 2 (by omega)
    have k3 := hk 3 (by omega)
    have k4 := hk 4 (by omega)
    rw [e5]
    omega
  · intro hz
    by_cases q : L ≤ 5
    · rcases (show L = 1 ∨ L = 2 ∨ L = 3 ∨ L = 4 ∨ L = 5 by omega) with rfl | rfl | rfl | rfl | rfl
      · have k0 := h 0 (by omega)
        rw [e1] at hz
        omega
      · have k0 := h 0 (by omega); have k1 := h 1 (by omega)
        rw [e2] at hz
        omega
      · have k0 := h 0 (by omega); have k1 := h 1 (by omega); have k2 := h 2 (by omega)
        rw [e3] at hz
        omega
      · have k0 := h 0 (by omega); have k1 := h 1 (by omega); have k2 := h 2 (by omega); have k3 := h 3 (by omega)
        rw [e4] at hz
        omega
      · have k0 := h 0 (by omega); have k1 := h 1 (by omega); have k2 := h 2 (by omega); have k3 := h 3 (by omega); have k4 := h 4 (by omega)
        rw [e5] at hz
        refine ⟨rfl, fun k hk => ?_⟩
        rcases (show k = 0 ∨ k = 1 ∨ k = 2 ∨ k = 3 ∨ k = 4 by omega) with rfl | rfl | rfl | rfl | rfl
        · rw [s0]; omega
        · rw [s1]; omega
        · rw [s2]; omega
        · rw [s3]; omega
        · rw [s4]; omega
    · unfold wC at hz; rw [if_neg q] at hz; omega
theorem w_i3 {b : Nat → Int} {p L : Nat} (hL : 1 ≤ L) (h : ∀ j, j < L → 97 ≤ b (p + j) ∧ b (p + j) ≤ 122) : (L = 3 ∧ ∀ k, k < 3 → b (p + k) = strC 3 k) ↔ wC b p L = 2774 := by
  obtain ⟨s0, s1, s2, -⟩ := sC3
  obtain ⟨e1, e2, e3, e4, e5⟩ := wC_e b p
  constructor
  · intro ⟨hl, hk⟩
    subst hl
    have k0 := hk 0 (by omega)
    have k1 := hk 1 (by omega)
    have k2 := hk 2 (by omega)
    rw [e3]
    omega
  · intro hz
    by_cases q : L ≤ 5
    · rcases (show L = 1 ∨ L = 2 ∨ L = 3 ∨ L = 4 ∨ L = 5 by omega) with rfl | rfl | rfl | rfl | rfl
      · have k0 := h 0 (by omega)
        rw [e1] at hz
        omega
      · have k0 := h 0 (by omega); have k1 := h 1 (by omega)
        rw [e2] at hz
        omega
      · have k0 := h 0 (by omega); have k1 := h 1 (by omega); have k2 := h 2 (by omega)
        rw [e3] at hz
        refine ⟨rfl, fun k hk => ?_⟩
        rcases (show k = 0 ∨ k = 1 ∨ k = 2 by omega) with rfl | rfl | rfl
        · rw [s0]; omega
        · rw [s1]; omega
        · rw [s2]; omega
      · have k0 := h 0 (by omega); have k1 := h 1 (by omega); have k2 := h 2 (by omega); have k3 := h 3 (by omega)
        rw [e4] at hz
        omega
      · have k0 := h 0 (by omega); have k1 := h 1 (by omega); have k2 := h 2 (by omega); have k3 := h 3 (by omega); have k4 := h 4 (by omega)
        rw [e5] at hz
        omega
    · unfold wC at hz; rw [if_neg q] at hz; omega
theorem w_i4 {b : Nat → Int} {p L : Nat} (hL : 1 ≤ L) (h : ∀ j, j < L → 97 ≤ b (p + j) ∧ b (p + j) ≤ 122) : (L = 4 ∧ ∀ k, k < 4 → b (p + k) = strC 4 k) ↔ wC b p L = 380741 := by
  obtain ⟨s0, s1, s2, s3, -⟩ := sC4
  obtain ⟨e1, e2, e3, e4, e5⟩ := wC_e b p
  constructor
  · intro ⟨hl, hk⟩
    subst hl
    have k0 := hk 0 (by omega)
    have k1 := hk 1 (by omega)
    have k2 := hk 2 (by omega)
    have k3 := hk 3 (by omega)
    rw [e4]
    omega
  · intro hz
    by_cases q : L ≤ 5
    · rcases (show L = 1 ∨ L = 2 ∨ L = 3 ∨ L = 4 ∨ L = 5 by omega) with rfl | rfl | rfl | rfl | rfl
      · have k0 := h 0 (by omega)
        rw [e1] at hz
        omega
      · have k0 := h 0 (by omega); have k1 := h 1 (by omega)
        rw [e2] at hz
        omega
      · have k0 := h 0 (by omega); have k1 := h 1 (by omega); have k2 := h 2 (by omega)
        rw [e3] at hz
        omega
      · have k0 := h 0 (by omega); have k1 := h 1 (by omega); have k2 := h 2 (by omega); have k3 := h 3 (by omega)
        rw [e4] at hz
        refine ⟨rfl, fun k hk => ?_⟩
        rcases (show k = 0 ∨ k = 1 ∨ k = 2 ∨ k = 3 by omega) with rfl | rfl | rfl | rfl
        · rw [s0]; omega
        · rw [s1]; omega
        · rw [s2]; omega
        · rw [s3]; omega
      · have k0 := h 0 (by omega); have k1 := h 1 (by omega); have k2 := h 2 (by omega); have k3 := h 3 (by omega); have k4 := h 4 (by omega)
        rw [e5] at hz
        omega
    · unfold wC at hz; rw [if_neg q] at hz; omega
theorem w_i5 {b : Nat → Int} {p L : Nat} (hL : 1 ≤ L) (h : ∀ j, j < L → 97 ≤ b (p + j) ∧ b (p + j) ≤ 122) : (L = 5 ∧ ∀ k, k < 5 → b (p + k) = strC 5 k) ↔ wC b p L = 12384399 := by
  obtain ⟨s0, s1, s2, s3, s4, -⟩ := sC5
  obtain ⟨e1, e2, e3, e4, e5⟩ := wC_e b p
  constructor
  · intro ⟨hl, hk⟩
    subst hl
    have k0 := hk 0 (by omega)
    have k1 := hk 1 (by omega)
    have k2 := hk 2 (by omega)
    have k3 := hk 3 (by omega)
    have k4 := hk 4 (by omega)
    rw [e5]
    omega
  · intro hz
    by_cases q : L ≤ 5
    · rcases (show L = 1 ∨ L = 2 ∨ L = 3 ∨ L = 4 ∨ L = 5 by omega) with rfl | rfl | rfl | rfl | rfl
      · have k0 := h 0 (by omega)
        rw [e1] at hz
        omega
      · have k0 := h 0 (by omega); have k1 := h 1 (by omega)
        rw [e2] at hz
        omega
      · have k0 := h 0 (by omega); have k1 := h 1 (by omega); have k2 := h 2 (by omega)
        rw [e3] at hz
        omega
      · have k0 := h 0 (by omega); have k1 := h 1 (by omega); have k2 := h 2 (by omega); have k3 := h 3 (by omega)
        rw [e4] at hz
        omega
      · have k0 := h 0 (by omega); have k1 := h 1 (by omega); have k2 := h 2 (by omega); have k3 := h 3 (by omega); have k4 := h 4 (by omega)
        rw [e5] at hz
        refine ⟨rfl, fun k hk => ?_⟩
        rcases (show k = 0 ∨ k = 1 ∨ k = 2 ∨ k = 3 ∨ k = 4 by omega) with rfl | rfl | rfl | rfl | rfl
        · rw [s0]; omega
        · rw [s1]; omega
        · rw [s2]; omega
        · rw [s3]; omega
        · rw [s4]; omega
    · unfold wC at hz; rw [if_neg q] at hz; omega
theorem w_i6 {b : Nat → Int} {p L : Nat} (hL : 1 ≤ L) (h : ∀ j, j < L → 97 ≤ b (p + j) ∧ b (p + j) ≤ 122) : (L = 4 ∧ ∀ k, k < 4 → b (p + k) = strC 6 k) ↔ wC b p L = 307058 := by
  obtain ⟨s0, s1, s2, s3, -⟩ := sC6
  obtain ⟨e1, e2, e3, e4, e5⟩ := wC_e b p
  constructor
  · intro ⟨hl, hk⟩
    subst hl
    have k0 := hk 0 (by omega)
    have k1 := hk 1 (by omega)
    have k2 := hk 2 (by omega)
    have k3 := hk 3 (by omega)
    rw [e4]
    omega
  · intro hz
    by_cases q : L ≤ 5
    · rcases (show L = 1 ∨ L = 2 ∨ L = 3 ∨ L = 4 ∨ L = 5 by omega) with rfl | rfl | rfl | rfl | rfl
      · have k0 := h 0 (by omega)
        rw [e1] at hz
        omega
      · have k0 := h 0 (by omega); have k1 := h 1 (by omega)
        rw [e2] at hz
        omega
      · have k0 := h 0 (by omega); have k1 := h 1 (by omega); have k2 := h 2 (by omega)
        rw [e3] at hz
        omega
      · have k0 := h 0 (by omega); have k1 := h 1 (by omega); have k2 := h 2 (by omega); have k3 := h 3 (by omega)
        rw [e4] at hz
        refine ⟨rfl, fun k hk => ?_⟩
        rcases (show k = 0 ∨ k = 1 ∨ k = 2 ∨ k = 3 by omega) with rfl | rfl | rfl | rfl
        · rw [s0]; omega
        · rw [s1]; omega
        · rw [s2]; omega
        · rw [s3]; omega
      · have k0 := h 0 (by omega); have k1 := h 1 (by omega); have k2 := h 2 (by omega); have k3 := h 3 (by omega); have k4 := h 4 (by omega)
        rw [e5] at hz
        omega
    · unfold wC at hz; rw [if_neg q] at hz; omega
theorem w_i7 {b : Nat → Int} {p L : Nat} (hL : 1 ≤ L) (h : ∀ j, j < L → 97 ≤ b (p + j) ∧ b (p + j) ≤ 122) : (L = 4 ∧ ∀ k, k < 4 → b (p + k) = strC 7 k) ↔ wC b p L = 453937 := by
  obtain ⟨s0, s1, s2, s3, -⟩ := sC7
  obtain ⟨e1, e2, e3, e4, e5⟩ := wC_e b p
  constructor
  · intro ⟨hl, hk⟩
    subst hl
    have k0 := hk 0 (by omega)
    have k1 := hk 1 (by omega)
    have k2 := hk 2 (by omega)
    have k3 := hk 3 (by omega)
    rw [e4]
    omega
  · intro hz
    by_cases q : L ≤ 5
    · rcases (show L = 1 ∨ L = 2 ∨ L = 3 ∨ L = 4 ∨ L = 5 by omega) with rfl | rfl | rfl | rfl | rfl
      · have k0 := h 0 (by omega)
        rw [e1] at hz
        omega
      · have k0 := h 0 (by omega); have k1 := h 1 (by omega)
        rw [e2] at hz
        omega
      · have k0 := h 0 (by omega); have k1 := h 1 (by omega); have k2 := h 2 (by omega)
        rw [e3] at hz
        omega
      · have k0 := h 0 (by omega); have k1 := h 1 (by omega); have k2 := h 2 (by omega); have k3 := h 3 (by omega)
        rw [e4] at hz
        refine ⟨rfl, fun k hk => ?_⟩
        rcases (show k = 0 ∨ k = 1 ∨ k = 2 ∨ k = 3 by omega) with rfl | rfl | rfl | rfl
        · rw [s0]; omega
        · rw [s1]; omega
        · rw [s2]; omega
        · rw [s3]; omega
      · have k0 := h 0 (by omega); have k1 := h 1 (by omega); have k2 := h 2 (by omega); have k3 := h 3 (by omega); have k4 := h 4 (by omega)
        rw [e5] at hz
        omega
    · unfold wC at hz; rw [if_neg q] at hz; omega
theorem w_i8 {b : Nat → Int} {p L : Nat} (hL : 1 ≤ L) (h : ∀ j, j < L → 97 ≤ b (p + j) ∧ b (p + j) ≤ 122) : (L = 5 ∧ ∀ k, k < 5 → b (p + k) = strC 8 k) ↔ wC b p L = 8863997 := by
  obtain ⟨s0, s1, s2, s3, s4, -⟩ := sC8
  obtain ⟨e1, e2, e3, e4, e5⟩ := wC_e b p
  constructor
  · intro ⟨hl, hk⟩
    subst hl
    have k0 := hk 0 (by omega)
    have k1 := hk 1 (by omega)
    have k2 := hk 2 (by omega)
    have k3 := hk 3 (by omega)
    have k4 := hk 4 (by omega)
    rw [e5]
    omega
  · intro hz
    by_cases q : L ≤ 5
    · rcases (show L = 1 ∨ L = 2 ∨ L = 3 ∨ L = 4 ∨ L = 5 by omega) with rfl | rfl | rfl | rfl | rfl
      · have k0 := h 0 (by omega)
        rw [e1] at hz
        omega
      · have k0 := h 0 (by omega); have k1 := h 1 (by omega)
        rw [e2] at hz
        omega
      · have k0 := h 0 (by omega); have k1 := h 1 (by omega); have k2 := h 2 (by omega)
        rw [e3] at hz
        omega
      · have k0 := h 0 (by omega); have k1 := h 1 (by omega); have k2 := h 2 (by omega); have k3 := h 3 (by omega)
        rw [e4] at hz
        omega
      · have k0 := h 0 (by omega); have k1 := h 1 (by omega); have k2 := h 2 (by omega); have k3 := h 3 (by omega); have k4 := h 4 (by omega)
        rw [e5] at hz
        refine ⟨rfl, fun k hk => ?_⟩
        rcases (show k = 0 ∨ k = 1 ∨ k = 2 ∨ k = 3 ∨ k = 4 by omega) with rfl | rfl | rfl | rfl | rfl
        · rw [s0]; omega
        · rw [s1]; omega
        · rw [s2]; omega
        · rw [s3]; omega
        · rw [s4]; omega
    · unfold wC at hz; rw [if_neg q] at hz; omega
theorem e_wordOf {F : Nat} {σ : sM} {b : Nat → Int} {n p e : Nat} (hF : 500 ≤ F) (hb : Bt b n) (h1 : ∀ i, i < n → σ 1 i = b i) (hp : p < e) (he : e ≤ n) (hl : ∀ j, p ≤ j → j < e → 97 ≤ b j ∧ b j ≤ 122) : X4_wordOf F σ (p : Int) (e : Int) = some (wK (wC b p (e - p)) : Int) := by
  have hL : ∀ j, j < e - p → 97 ≤ b (p + j) ∧ b (p + j) ≤ 122 := fun j hj => hl _ (by omega) (by omega)
  have a0 : X4_isWord F 0 σ (p : Int) (e : Int) = some (b2 (wC b p (e - p) = 12325519)) := by
    rw [e_isWord (o := 0) (len := 5) (by omega) hb h1 hp he sC0.2.2.2.2.2 (by omega) (by decide +kernel), b2_congr (w_i0 (by omega) hL)]
  have a1 : X4_isWord F 1 σ (p : Int) (e : Int) = some (b2 (wC b p (e - p) = 385418)) := by
    rw [e_isWord (o := 1) (len := 4) (by omega) hb h1 hp he sC1.2.2.2.2 (by omega) (by decide +kernel), b2_congr (w_i1 (by omega) hL)]
  have a2 : X4_isWord F 2 σ (p : Int) (e : Int) = some (b2 (wC b p (e - p) = 12391871)) := by
    rw [e_isWord (o := 2) (len := 5) (by omega) hb h1 hp he sC2.2.2.2.2.2 (by omega) (by decide +kernel), b2_congr (w_i2 (by omega) hL)]
  have a3 : X4_isWord F 3 σ (p : Int) (e : Int) = some (b2 (wC b p (e - p) = 2774)) := by
    rw [e_isWord (o := 3) (len := 3) (by omega) hb h1 hp he sC3.2.2.2 (by omega) (by decide +kernel), b2_congr (w_i3 (by omega) hL)]
  have a4 : X4_isWord F 4 σ (p : Int) (e : Int) = some (b2 (wC b p (e - p) = 380741)) := by
    rw [e_isWord (o := 4) (len := 4) (by omega) hb h1 hp he sC4.2.2.2.2 (by omega) (by decide +kernel), b2_congr (w_i4 (by omega) hL)]
  have a5 : X4_isWord F 5 σ (p : Int) (e : Int) = some (b2 (wC b p (e - p) = 12384399)) := by
    rw [e_isWord (o := 5) (len := 5) (by omega) hb h1 hp he sC5.2.2.2.2.2 (by omega) (by decide +kernel), b2_congr (w_i5 (by omega) hL)]
  have a6 : X4_isWord F 6 σ (p : Int) (e : Int) = some (b2 (wC b p (e - p) = 307058)) := by
    rw [e_isWord (o := 6) (len := 4) (by omega) hb h1 hp he sC6.2.2.2.2 (by omega) (by decide +kernel), b2_congr (w_i6 (by omega) hL)]
  have a7 : X4_isWord F 7 σ (p : Int) (e : Int) = some (b2 (wC b p (e - p) = 453937)) := by
    rw [e_isWord (o := 7) (len := 4) (by omega) hb h1 hp he sC7.2.2.2.2 (by omega) (by decide +kernel), b2_congr (w_i7 (by omega) hL)]
  have a8 : X4_isWord F 8 σ (p : Int) (e : Int) = some (b2 (wC b p (e - p) = 8863997)) := by
    rw [e_isWord (o := 8) (len := 5) (by omega) hb h1 hp he sC8.2.2.2.2.2 (by omega) (by decide +kernel), b2_congr (w_i8 (by omega) hL)]
  unfold X4_wordOf wK
  generalize wC b p (e - p) = z at *
  rw [a0, bp_some]
  by_cases q0 : z = 12325519
  · rw [if_pos q0, b2_t q0]; rfl
  rw [if_neg q0, b2_f q0, if_pos (show wi 0 = 0 by decide)]
  rw [a1, bp_some]
  by_cases q1 : z = 385418
  · rw [if_pos q1, b2_t q1]; rfl
  rw [if_neg q1, b2_f q1, if_pos (show wi 0 = 0 by decide)]
  rw [a2, bp_some]
  by_cases q2 : z = 12391871
  · rw [if_pos q2, b2_t q2]; rfl
  rw [if_neg q2, b2_f q2, if_pos (show wi 0 = 0 by decide)]
  rw [a3, bp_some]
  by_cases q3 : z = 2774
  · rw [if_pos q3, b2_t q3]; rfl
  rw [if_neg q3, b2_f q3, if_pos (show wi 0 = 0 by decide)]
  rw [a4, bp_some]
  by_cases q4 : z = 380741
  · rw [if_pos q4, b2_t q4]; rfl
  rw [if_neg q4, b2_f q4, if_pos (show wi 0 = 0 by decide)]
  rw [a5, bp_some]
  by_cases q5 : z = 12384399
  · rw [if_pos q5, b2_t q5]; rfl
  rw [if_neg q5, b2_f q5, if_pos (show wi 0 = 0 by decide)]
  rw [a6, bp_some]
  by_cases q6 : z = 307058
  · rw [if_pos q6, b2_t q6]; rfl
  rw [if_neg q6, b2_f q6, if_pos (show wi 0 = 0 by decide)]
  rw [a7, bp_some]
  by_cases q7 : z = 453937
  · rw [if_pos q7, b2_t q7]; rfl
  rw [if_neg q7, b2_f q7, if_pos (show wi 0 = 0 by decide)]
  rw [a8, bp_some]
  by_cases q8 : z = 8863997
  · rw [if_pos q8, b2_t q8]; rfl
  rw [if_neg q8, b2_f q8, if_pos (show wi 0 = 0 by decide)]
  rfl
