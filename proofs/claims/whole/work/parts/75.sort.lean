def eK (j : Nat) : Nat := if j = 4 then 6 else if j = 8 then 7 else if j = 12 then 8 else if j = 17 then 2 else 1
def eL (j : Nat) : Nat := if j < 4 then 99 else 10
def ps (i : Nat) : Nat := i + (if 4 ≤ i then 1 else 0) + (if 7 ≤ i then 1 else 0) + (if 10 ≤ i then 1 else 0)
def pb (i : Nat) : Nat := if i = 0 then 0 else ps (i - 1) + 1
def gdS (b : Nat → Int) (n k j : Nat) : Prop := Tk b n (k + 1 + j) = eK j ∧ (eK j = 1 → Tv b n (k + 1 + j) ≤ eL j)
theorem ps_inj : ∀ i, i < 14 → ∀ i', i' < 14 → ps i = ps i' → i = i' := by decide
theorem ps_ne : ∀ i, i < 14 → ps i ≠ 4 ∧ ps i ≠ 8 ∧ ps i ≠ 12 ∧ ps i ≠ 17 ∧ eK (ps i) = 1 ∧ eL (ps i) = (if 4 ≤ i then 10 else 99) ∧ pb (i + 1) = ps i + 1 ∧ ps i < 17 := by decide
theorem pb_f : ∀ i, i < 14 → (i = 4 ∧ ps i = pb i + 1 ∧ pb i = 4 ∨ i = 7 ∧ ps i = pb i + 1 ∧ pb i = 8 ∨ i = 10 ∧ ps i = pb i + 1 ∧ pb i = 12 ∨ i ≠ 4 ∧ i ≠ 7 ∧ i ≠ 10 ∧ ps i = pb i) := by decide
/-- the class, j dues on -/
def Pg (b : Nat → Int) (n N k S : Nat) (σ : sM) (j : Nat) (x : sM) : Prop := Cq b n N (k + 1 + j) x ∧ (∀ m, m ≠ 14 + S → m ≠ 22 → x m = σ m) ∧ (∀ i, i < 14 → ps i < j → x (14 + S) i = (Tv b n (k + 1 + ps i) : Int)) ∧ ∀ i, i < j → gdS b n k i
def Fg (b : Nat → Int) (n N k S : Nat) (σ : sM) (x : sM) : Prop := ∃ f, f < 18 ∧ Cq b n N (k + 1 + f) x ∧ (∀ m, m ≠ 14 + S → m ≠ 22 → x m = σ m) ∧ (∀ i, i < f → gdS b n k i) ∧ ¬ gdS b n k f
theorem e_tk {b : Nat → Int} {n N k S j : Nat} {σ x : sM} (hS : S < 4) (hb : Bt b n) (hj : j = 4 ∨ j = 8 ∨ j = 12 ∨ j = 17) (h : Pg b n N k S σ j x) : (∃ y, X4_take x (eK j : Int) = some (1, y) ∧ Pg b n N k S σ (j + 1) y) ∨ X4_take x (eK j : Int) = some (0, x) ∧ Fg b n N k S σ x := by
  obtain ⟨h1, h2, h3, h4⟩ := h
  have hK : eK j ≠ 0 ∧ eK j ≠ 1 ∧ eK j < 100 := by rcases hj with rfl | rfl | rfl | rfl <;> decide
  by_cases q : Tk b n (k + 1 + j) = eK j
  · left
    obtain ⟨y, e, r1, r2⟩ := e_take1 hb h1 hK.1 q
    refine ⟨y, e, r1, fun m a1 a2 => by rw [r2 m a2, h2 m a1 a2], fun i hi hp => ?_, fun i hi => ?_⟩
    · have := ps_ne i hi
      have hp' : ps i < j := by rcases hj with rfl | rfl | rfl | rfl <;> omega
      rw [r2 _ (by omega)]; exact h3 i hi hp'
    · by_cases w : i = j
      · subst w; exact ⟨q, fun z => absurd z hK.2.1⟩
      · exact h4 i (by omega)
  · right
    refine ⟨e_take0 h1 hK.2.2 q, j, by omega, h1, h2, h4, fun z => q z.1⟩
theorem e_row {F : Nat} {b : Nat → Int} {n N k S a e j lim : Nat} {σ x : sM} (hF : 500 ≤ F) (hS : S < 4) (hb : Bt b n) (hae : a < e ∧ e ≤ 14) (hp : ∀ i, i < e → a ≤ i → ps i = j + (i - a) ∧ eL (ps i) = lim) (hl : lim ≤ 99) (h : Pg b n N k S σ j x) : (∃ y, X4_takeRow F (14 + S) 14 x (a : Int) (e : Int) (lim : Int) = some (1, y) ∧ Pg b n N k S σ (j + (e - a)) y) ∨ ∃ y, X4_takeRow F (14 + S) 14 x (a : Int) (e : Int) (lim : Int) = some (0, y) ∧ Fg b n N k S σ y := by
  unfold X4_takeRow
  refine lp_ms (fun y : sM × Int => ∃ m, m ≤ e - a ∧ y.2 = ((a + m : Nat) : Int) ∧ Pg b n N k S σ (j + m) y.1) (fun y => e - y.2.toNat) (fun (o : Option (Int × sM)) => (∃ y : sM, o = some (1, y) ∧ Pg b n N k S σ (j + (e - a)) y) ∨ ∃ y : sM, o = some (0, y) ∧ Fg b n N k S σ y) (fun y hI K => ?_) F _ ⟨0, by omega, rfl, h⟩ (by simp only []; omega)
  obtain ⟨y, v⟩ := y
  obtain ⟨m, hm, hv, hP⟩ := hI
  simp only [] at hv hP ⊢
  subst hv
  rw [wiN (n := a + m) (by omega), wiN (n := e) (by omega), wiN (n := 14) (by omega)]
  by_cases q : m = e - a
  · right; left
    rw [if_pos (by omega)]
    subst q
    exact ⟨y, rfl, hP⟩
  · obtain ⟨p1, p2⟩ := hp (a + m) (by omega) (by omega)
    rw [show a + m - a = m by omega] at p1
    obtain ⟨-, -, -, -, p3, -, -, p4⟩ := ps_ne (a + m) (by omega)
    obtain ⟨h1, h2, h3, h4⟩ := hP
    rw [if_neg (by omega), if_neg (by omega), if_neg (by omega), e_isNum h1 (by decide) (wiN (by omega)), bp_some]
    by_cases g : Tk b n (k + 1 + (j + m)) = 1 ∧ 0 ≤ (Tv b n (k + 1 + (j + m)) : Int) ∧ (Tv b n (k + 1 + (j + m)) : Int) ≤ (lim : Int)
    · left
      rw [b2_t g, if_pos (by decide), if_pos (by omega), Int.toNat_natCast (a + m), h1.2.2.2.2 g.1]
      obtain ⟨z, e1, r1, r2⟩ := e_nxt hb (h1.set (m := 14 + S) (a + m) (Tv b n (k + 1 + (j + m)) : Int) (by omega)) (by omega)
      rw [e1, bn_some]
      refine ⟨_, ⟨m + 1, by omega, rfl, r1, fun i a1 a2 => ?_, fun i hi hpi => ?_, fun i hi => ?_⟩, by simp only []; omega, rfl⟩
      · simp only []; rw [r2 i a2, sU_ne a1]; exact h2 i a1 a2
      · simp only []
        rw [r2 _ (by omega)]
        by_cases w : i = a + m
        · subst w; rw [sUv, p1]
        · rw [sUnj w]
          refine h3 i hi ?_
          by_cases w2 : ps i = j + m
          · exact absurd (ps_inj i hi (a + m) (by omega) (by omega)) w
          · omega
      · by_cases w : i = j + m
        · subst w; rw [← p1]; exact ⟨by rw [p3, p1]; exact g.1, fun _ => by rw [p2, p1]; omega⟩
        · exact h4 i (by omega)
    · right; right
      rw [b2_f g, if_neg (by decide)]
      refine ⟨y, rfl, j + m, by omega, h1, h2, h4, fun z => g ?_⟩
      rw [← p1] at z ⊢
      have z2 := z.2 p3
      exact ⟨by rw [z.1]; exact p3, by omega, by omega⟩
theorem e_readSort {F : Nat} {b : Nat → Int} {n N k S : Nat} {σ : sM} (hF : 500 ≤ F) (hS : S < 4) (hb : Bt b n) (h : Cq b n N k σ) (hk : Tk b n k = 5) (h5 : σ 12 5 = (S : Int)) : (∃ y, X4_readSort F σ = some (1, sU y 12 5 ((S + 1 : Nat) : Int)) ∧ Pg b n N k S σ 18 y) ∨ ∃ y, X4_readSort F σ = some (0, y) ∧ Fg b n N k S σ y := by
  have fin : ∀ (x : sM) (o : Option (Int × sM)), o = some (0, x) → Fg b n N k S σ x → (∃ y, o = some (1, sU y 12 5 ((S + 1 : Nat) : Int)) ∧ Pg b n N k S σ 18 y) ∨ ∃ y, o = some (0, y) ∧ Fg b n N k S σ y := fun x o ho hx => Or.inr ⟨x, ho, hx⟩
  unfold X4_readSort
  obtain ⟨x0, e0, r1, r2⟩ := e_take1 (K := 5) hb h (by omega) hk
  have P0 : Pg b n N k S σ 0 x0 := ⟨r1, fun m a1 a2 => r2 m a2, fun i hi hp => by omega, fun i hi => by omega⟩
  rw [show ((5 : Nat) : Int) = 5 from rfl] at e0
  rw [h5, wiN (by omega), if_neg (by omega), if_pos (by omega), if_pos (by omega), Int.toNat_natCast, e0, bn_some, jn_def, jn_def, if_neg (show ¬ wi 1 = 0 by decide)]
  rcases e_row (F := F) (a := 0) (e := 4) (lim := 99) (j := 0) hF hS hb (by omega) (by decide) (by omega) P0 with ⟨x1, e1, P1⟩ | ⟨x1, e1, P1⟩
  case inr => rw [show ((0 : Nat) : Int) = 0 from rfl, show ((4 : Nat) : Int) = 4 from rfl, show ((99 : Nat) : Int) = 99 from rfl] at e1; rw [e1, bn_some, if_pos (by decide)]; exact fin x1 _ rfl P1
  rw [show ((0 : Nat) : Int) = 0 from rfl, show ((4 : Nat) : Int) = 4 from rfl, show ((99 : Nat) : Int) = 99 from rfl] at e1
  rw [e1, bn_some, if_neg (by decide)]
  rcases e_tk hS hb (by omega) P1 with ⟨x2, e2, P2⟩ | ⟨e2, P2⟩
  case inr => rw [show ((eK (0 + (4 - 0)) : Nat) : Int) = 6 from rfl] at e2; rw [e2, bn_some, if_pos (by decide)]; exact fin x1 _ rfl P2
  rw [show ((eK (0 + (4 - 0)) : Nat) : Int) = 6 from rfl] at e2
  rw [e2, bn_some, if_neg (by decide)]
  rcases e_row (F := F) (a := 4) (e := 7) (lim := 10) (j := 5) hF hS hb (by omega) (by decide) (by omega) P2 with ⟨x3, e3, P3⟩ | ⟨x3, e3, P3⟩
  case inr => rw [show ((4 : Nat) : Int) = 4 from rfl, show ((7 : Nat) : Int) = 7 from rfl, show ((10 : Nat) : Int) = 10 from rfl] at e3; rw [e3, bn_some, if_pos (by decide)]; exact fin x3 _ rfl P3
  rw [show ((4 : Nat) : Int) = 4 from rfl, show ((7 : Nat) : Int) = 7 from rfl, show ((10 : Nat) : Int) = 10 from rfl] at e3
  rw [e3, bn_some, if_neg (by decide)]
  rcases e_tk hS hb (by omega) P3 with ⟨x4, e4, P4⟩ | ⟨e4, P4⟩
  case inr => rw [show ((eK (5 + (7 - 4)) : Nat) : Int) = 7 from rfl] at e4; rw [e4, bn_some, if_pos (by decide)]; exact fin x3 _ rfl P4
  rw [show ((eK (5 + (7 - 4)) : Nat) : Int) = 7 from rfl] at e4
  rw [e4, bn_some, if_neg (by decide)]
  rcases e_row (F := F) (a := 7) (e := 10) (lim := 10) (j := 9) hF hS hb (by omega) (by decide) (by omega) P4 with ⟨x5, e5, P5⟩ | ⟨x5, e5, P5⟩
  case inr => rw [show ((7 : Nat) : Int) = 7 from rfl, show ((10 : Nat) : Int) = 10 from rfl] at e5; rw [e5, bn_some, if_pos (by decide)]; exact fin x5 _ rfl P5
  rw [show ((7 : Nat) : Int) = 7 from rfl, show ((10 : Nat) : Int) = 10 from rfl] at e5
  rw [e5, bn_some, if_neg (by decide)]
  rcases e_tk hS hb (by omega) P5 with ⟨x6, e6, P6⟩ | ⟨e6, P6⟩
  case inr => rw [show ((eK (9 + (10 - 7)) : Nat) : Int) = 8 from rfl] at e6; rw [e6, bn_some, if_pos (by decide)]; exact fin x5 _ rfl P6
  rw [show ((eK (9 + (10 - 7)) : Nat) : Int) = 8 from rfl] at e6
  rw [e6, bn_some, if_neg (by decide)]
  rcases e_row (F := F) (a := 10) (e := 14) (lim := 10) (j := 13) hF hS hb (by omega) (by decide) (by omega) P6 with ⟨x7, e7, P7⟩ | ⟨x7, e7, P7⟩
  case inr => rw [show ((14 : Nat) : Int) = 14 from rfl, show ((10 : Nat) : Int) = 10 from rfl] at e7; rw [e7, bn_some, if_pos (by decide)]; exact fin x7 _ rfl P7
  rw [show ((14 : Nat) : Int) = 14 from rfl, show ((10 : Nat) : Int) = 10 from rfl] at e7
  rw [e7, bn_some, if_neg (by decide)]
  rcases e_tk hS hb (by omega) P7 with ⟨x8, e8, P8⟩ | ⟨e8, P8⟩
  case inr => rw [show ((eK (13 + (14 - 10)) : Nat) : Int) = 2 from rfl] at e8; rw [e8, bn_some, if_pos (by decide)]; exact fin x7 _ rfl P8
  rw [show ((eK (13 + (14 - 10)) : Nat) : Int) = 2 from rfl] at e8
  rw [e8, bn_some, if_neg (by decide)]
  refine Or.inl ⟨x8, ?_, P8⟩
  have e9 : x8 12 5 = (S : Int) := by rw [P8.2.1 12 (by omega) (by omega)]; exact h5
  show (if wi (1 : Int) = 0 then _ else if wi (1 : Int) = 0 ∨ wi (1 : Int) = 1 then some ((1 : Int), sU x8 12 5 (x8 12 5 + 1)) else none) = _
  rw [if_neg (by decide), if_pos (by decide), e9]
  rfl
