theorem lp_ms {α β : Type} {B : (β → Option α) → β → Option α} (I : β → Prop) (μ : β → Nat) (P : Option α → Prop) (hs : ∀ x, I x → ∀ K, (∃ x', I x' ∧ μ x' < μ x ∧ B K x = K x') ∨ P (B K x)) : ∀ (F : Nat) (x : β), I x → μ x < F → P (lp B F x) := by
  intro F
  induction F with
  | zero => intro x _ h; omega
  | succ F ih =>
    intro x hI hm
    rw [lp_succ]
    rcases hs x hI (lp B F) with ⟨x', h1, h2, h3⟩ | h
    · rw [h3]; exact ih x' h1 (by omega)
    · exact h
/-- the end of a run of letters, of digits, of spaces -/
def rE (Q : Int → Bool) (b : Nat → Int) : Nat → Nat → Nat
  | 0, i => i
  | f + 1, i => if Q (b i) = true then rE Q b f (i + 1) else i
def rn (Q : Int → Bool) (b : Nat → Int) (n i : Nat) : Nat := rE Q b (n - i) i
theorem rn_s {Q : Int → Bool} {b : Nat → Int} {n i : Nat} (h : i < n) (hq : Q (b i) = true) : rn Q b n i = rn Q b n (i + 1) := by
  unfold rn
  rw [show n - i = (n - (i + 1)) + 1 by omega]
  show (if Q (b i) = true then rE Q b (n - (i + 1)) (i + 1) else i) = _
  rw [if_pos hq]
theorem rn_e {Q : Int → Bool} {b : Nat → Int} {n i : Nat} (h : n ≤ i ∨ ¬ Q (b i) = true) : rn Q b n i = i := by
  unfold rn
  by_cases q : n ≤ i
  · rw [show n - i = 0 by omega]; rfl
  · rw [show n - i = (n - (i + 1)) + 1 by omega]
    show (if Q (b i) = true then rE Q b (n - (i + 1)) (i + 1) else i) = _
    rw [if_neg (by rcases h with h | h; exact absurd h q; exact h)]
theorem rn_p (Q : Int → Bool) (b : Nat → Int) (n : Nat) : ∀ m i, n - i = m → i ≤ n → i ≤ rn Q b n i ∧ rn Q b n i ≤ n ∧ ∀ j, i ≤ j → j < rn Q b n i → Q (b j) = true := by
  intro m
  induction m with
  | zero => intro i h h2; rw [rn_e (by omega)]; exact ⟨by omega, by omega, fun j a b => by omega⟩
  | succ m ih =>
    intro i h h2
    by_cases q : Q (b i) = true
    · rw [rn_s (by omega) q]
      obtain ⟨a1, a2, a3⟩ := ih (i + 1) (by omega) (by omega)
      refine ⟨by omega, a2, fun j b1 b2 => ?_⟩
      by_cases y : j = i
      · subst y; exact q
      · exact a3 j (by omega) b2
    · rw [rn_e (Or.inr q)]; exact ⟨by omega, by omega, fun j a b => by omega⟩
def qS (x : Int) : Bool := decide (x = 32)
def qL (x : Int) : Bool := decide (97 ≤ x ∧ x ≤ 122)
def qD (x : Int) : Bool := decide (48 ≤ x ∧ x ≤ 57)
theorem qS_e {x : Int} : qS x = true ↔ x = 32 := by unfold qS; rw [decide_eq_true_iff]
theorem qL_e {x : Int} : qL x = true ↔ 97 ≤ x ∧ x ≤ 122 := by unfold qL; rw [decide_eq_true_iff]
theorem qD_e {x : Int} : qD x = true ↔ 48 ≤ x ∧ x ≤ 57 := by unfold qD; rw [decide_eq_true_iff]
/-- a token's end, its kind, its number -/
def tE (b : Nat → Int) (n p : Nat) : Nat := if n ≤ p then p else if 97 ≤ b p ∧ b p ≤ 122 then rn qL b n (p + 1) else if 48 ≤ b p ∧ b p ≤ 57 then rn qD b n (p + 1) else p + 1
def cdN (b : Nat → Int) (p : Nat) : Nat → Int
  | 0 => 0
  | m + 1 => 27 * cdN b p m + b (p + m) - 96
def wC (b : Nat → Int) (p L : Nat) : Int := if L ≤ 5 then cdN b p L else 0
def wK (z : Int) : Nat := if z = 12325519 then 4 else if z = 385418 then 5 else if z = 12391871 then 6 else if z = 2774 then 7 else if z = 380741 then 8 else if z = 12384399 then 9 else if z = 307058 then 10 else if z = 453937 then 11 else if z = 8863997 then 12 else 3
def tK (b : Nat → Int) (n p : Nat) : Nat := if n ≤ p then 0 else if 97 ≤ b p ∧ b p ≤ 122 then wK (wC b p (tE b n p - p)) else if b p = 59 then 2 else if 48 ≤ b p ∧ b p ≤ 57 ∧ tE b n p - p ≤ 2 ∧ (tE b n p - p ≤ 1 ∨ b p ≠ 48) then 1 else 3
def tV (b : Nat → Int) (n p : Nat) : Nat := if tE b n p - p ≤ 1 then (b p - 48).toNat else (10 * (b p - 48) + (b (p + 1) - 48)).toNat
def mpK (K : Nat) : Nat := if K = 0 then 0 else if K = 1 then 10 else if K = 2 then 11 else if K = 3 then 12 else K - 3
def Bt (b : Nat → Int) (n : Nat) : Prop := n ≤ 400 ∧ ∀ i, i < n → -128 ≤ b i ∧ b i ≤ 127
theorem tE_p {b : Nat → Int} {n p : Nat} (h : p < n) : p + 1 ≤ tE b n p ∧ tE b n p ≤ n ∧ (97 ≤ b p ∧ b p ≤ 122 → ∀ j, p ≤ j → j < tE b n p → 97 ≤ b j ∧ b j ≤ 122) ∧ (48 ≤ b p ∧ b p ≤ 57 → ∀ j, p ≤ j → j < tE b n p → 48 ≤ b j ∧ b j ≤ 57) := by
  unfold tE
  rw [if_neg (by omega)]
  by_cases q1 : 97 ≤ b p ∧ b p ≤ 122
  · obtain ⟨a1, a2, a3⟩ := rn_p qL b n _ (p + 1) rfl (by omega)
    rw [if_pos q1]
    refine ⟨a1, a2, fun _ j h1 h2 => ?_, fun h => by omega⟩
    by_cases y : j = p
    · subst y; exact q1
    · exact qL_e.1 (a3 j (by omega) h2)
  · rw [if_neg q1]
    by_cases q2 : 48 ≤ b p ∧ b p ≤ 57
    · obtain ⟨a1, a2, a3⟩ := rn_p qD b n _ (p + 1) rfl (by omega)
      rw [if_pos q2]
      refine ⟨a1, a2, fun h => by omega, fun _ j h1 h2 => ?_⟩
      by_cases y : j = p
      · subst y; exact q2
      · exact qD_e.1 (a3 j (by omega) h2)
    · rw [if_neg q2]
      exact ⟨by omega, by omega, fun h => absurd h q1, fun h => absurd h q2⟩
theorem e_btw {σ : sM} {b : Nat → Int} {n i : Nat} (x y : Int) (hb : Bt b n) (h1 : ∀ i, i < n → σ 1 i = b i) (hi : i < n) (hx : wi x = x) (hy : wi y = y) : X4_isBetween σ (i : Int) x y = some (b2 (x ≤ b i ∧ b i ≤ y)) := by
  have hn := hb.1
  have hr := hb.2 i hi
  unfold X4_isBetween
  rw [wiN (by omega), if_neg (by omega), if_neg (by omega), if_pos (by omega), Int.toNat_natCast, h1 i hi, hx, hy, wi_id (by omega) (by omega)]
  by_cases q1 : b i < x
  · rw [if_pos q1, b2_f (by omega)]
  · rw [if_neg q1, if_pos (by omega)]
    by_cases q2 : y < b i
    · rw [if_pos q2, b2_f (by omega)]
    · rw [if_neg q2, b2_t (by omega)]
theorem e_end {F : Nat} {σ : sM} {b : Nat → Int} {n p : Nat} (hF : 500 ≤ F) (hb : Bt b n) (h1 : ∀ i, i < n → σ 1 i = b i) (h2 : σ 22 5 = (n : Int)) (hp : p < n) : X4_endOfToken F σ (p : Int) = some (tE b n p : Int) := by
  have hn := hb.1
  unfold X4_endOfToken
  rw [e_btw 97 122 hb h1 hp (by decide) (by decide), bp_some, e_btw 48 57 hb h1 hp (by decide) (by decide), bp_some, h2]
  have hE : tE b n p = if 97 ≤ b p ∧ b p ≤ 122 then rn qL b n (p + 1) else if 48 ≤ b p ∧ b p ≤ 57 then rn qD b n (p + 1) else p + 1 := by unfold tE; rw [if_neg (by omega)]
  by_cases q1 : 97 ≤ b p ∧ b p ≤ 122
  · have q2 : ¬ (48 ≤ b p ∧ b p ≤ 57) := by omega
    rw [if_pos q1] at hE
    rw [hE, b2_t q1, b2_f q2]
    refine lp_ms (fun y : Int => ∃ i : Nat, y = (i : Int) ∧ p + 1 ≤ i ∧ i ≤ n ∧ rn qL b n (p + 1) = rn qL b n i) (fun y => n - y.toNat) (fun r => r = some ((rn qL b n (p + 1) : Nat) : Int)) (fun y hI K => ?_) F _ ⟨p + 1, by omega, by omega, by omega, rfl⟩ (by omega)
    obtain ⟨i, hy, hi1, hi2, hi3⟩ := hI
    subst hy
    rw [wiN (by omega), wiN (by omega)]
    by_cases y1 : n ≤ i
    · right
      rw [if_pos (by omega), hi3, rn_e (Or.inl y1)]
    · rw [if_neg (show ¬ (n : Int) ≤ (i : Int) by omega), jn_def, jn_def, if_neg (show ¬ wi 1 = 0 by decide), e_btw 97 122 hb h1 (show i < n by omega) (by decide) (by decide), bp_some]
      by_cases y2 : 97 ≤ b i ∧ b i ≤ 122
      · left
        rw [b2_t y2, if_pos (show ¬ wi 1 = 0 by decide)]
        exact ⟨_, ⟨i + 1, rfl, by omega, by omega, by rw [hi3]; exact rn_s (by omega) (qL_e.2 y2)⟩, by omega, rfl⟩
      · right
        rw [b2_f y2, if_neg (show ¬ ¬ wi 0 = 0 by decide), if_pos (show wi 0 = 0 by decide), hi3, rn_e (Or.inr (fun h => y2 (qL_e.1 h)))]
  · rw [if_neg q1] at hE
    by_cases q2 : 48 ≤ b p ∧ b p ≤ 57
    · rw [if_pos q2] at hE
      rw [hE, b2_f q1, b2_t q2]
      refine lp_ms (fun y : Int => ∃ i : Nat, y = (i : Int) ∧ p + 1 ≤ i ∧ i ≤ n ∧ rn qD b n (p + 1) = rn qD b n i) (fun y => n - y.toNat) (fun r => r = some ((rn qD b n (p + 1) : Nat) : Int)) (fun y hI K => ?_) F _ ⟨p + 1, by omega, by omega, by omega, rfl⟩ (by omega)
      obtain ⟨i, hy, hi1, hi2, hi3⟩ := hI
      subst hy
      rw [wiN (by omega), wiN (by omega)]
      by_cases y1 : n ≤ i
      · right
        rw [if_pos (by omega), hi3, rn_e (Or.inl y1)]
      · rw [if_neg (show ¬ (n : Int) ≤ (i : Int) by omega), jn_def, jn_def, if_pos (show wi 0 = 0 by decide), if_neg (show ¬ wi 1 = 0 by decide), e_btw 48 57 hb h1 (show i < n by omega) (by decide) (by decide), bp_some]
        by_cases y2 : 48 ≤ b i ∧ b i ≤ 57
        · left
          rw [b2_t y2, if_neg (show ¬ wi 1 = 0 by decide)]
          exact ⟨_, ⟨i + 1, rfl, by omega, by omega, by rw [hi3]; exact rn_s (by omega) (qD_e.2 y2)⟩, by omega, rfl⟩
        · right
          rw [b2_f y2, if_pos (show wi 0 = 0 by decide), hi3, rn_e (Or.inr (fun h => y2 (qD_e.1 h)))]
    · rw [if_neg q2] at hE
      rw [hE, b2_f q1, b2_f q2]
      obtain ⟨F, rfl⟩ : ∃ f, F = f + 1 := ⟨F - 1, by omega⟩
      rw [lp_succ, show (p : Int) + 1 = ((p + 1 : Nat) : Int) from rfl, wiN (by omega), wiN (by omega)]
      by_cases y1 : n ≤ p + 1
      · rw [if_pos (by omega)]
      · rw [if_neg (show ¬ (n : Int) ≤ ((p + 1 : Nat) : Int) by omega), jn_def, jn_def, if_pos (show wi 0 = 0 by decide), if_pos (show wi 0 = 0 by decide)]
theorem b2_congr {p q : Prop} [Decidable p] [Decidable q] (h : p ↔ q) : b2 p = b2 q := by
  by_cases y : p
  · rw [b2_t y, b2_t (h.1 y)]
  · rw [b2_f y, b2_f (fun z => y (h.2 z))]
theorem e_isWord {F o len : Nat} {σ : sM} {b : Nat → Int} {n p e : Nat} (hF : 10 ≤ F) (hb : Bt b n) (h1 : ∀ i, i < n → σ 1 i = b i) (hp : p < e) (he : e ≤ n) (hl : strL.getD o 0 = len) (hlen : len ≤ 5) (hch : ∀ k, k < len → wi (strC o k) = strC o k) : X4_isWord F o σ (p : Int) (e : Int) = some (b2 (e - p = len ∧ ∀ k, k < len → b (p + k) = strC o k)) := by
  have hn := hb.1
  unfold X4_isWord
  rw [hl, show (e : Int) - (p : Int) = ((e - p : Nat) : Int) by omega, wiN (by omega), wiN (by omega), wiN (by omega), wiN (by omega)]
  by_cases q : e - p = len
  · rw [if_neg (by omega), if_neg (by omega), if_pos (by omega)]
    refine lp_ms (fun y : Int => ∃ k : Nat, y = (k : Int) ∧ k ≤ len ∧ ∀ j, j < k → b (p + j) = strC o j) (fun y => len - y.toNat) (fun r => r = some (b2 (e - p = len ∧ ∀ k, k < len → b (p + k) = strC o k))) (fun y hI K => ?_) F _ ⟨0, rfl, by omega, fun j h => absurd h (by omega)⟩ (by omega)
    obtain ⟨k, hy, hk, hj⟩ := hI
    subst hy
    rw [wiN (n := k) (by omega)]
    by_cases y : len ≤ k
    · right
      rw [if_pos (by omega), b2_t ⟨q, fun j hj' => hj j (by omega)⟩]
    · rw [if_neg (by omega), show (p : Int) + (k : Int) = ((p + k : Nat) : Int) by omega, wiN (n := p + k) (by omega), if_pos (by omega), if_pos (by omega), Int.toNat_natCast, Int.toNat_natCast, h1 _ (by omega), hch k (by omega), wi_id (by have := hb.2 (p + k) (by omega); omega) (by have := hb.2 (p + k) (by omega); omega)]
      by_cases z : b (p + k) = strC o k
      · left
        rw [if_pos z]
        refine ⟨_, ⟨k + 1, rfl, by omega, fun j hj' => ?_⟩, by omega, rfl⟩
        by_cases w : j = k
        · subst w; exact z
        · exact hj j (by omega)
      · right
        rw [if_neg z, b2_f (fun h => z (h.2 k (by omega)))]
  · rw [if_pos (by omega), b2_f (fun h => q h.1)]
