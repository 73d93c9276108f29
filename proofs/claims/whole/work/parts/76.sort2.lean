/-- the reference, j dues on; f: the first that fails -/
def StS (b : Nat → Int) (n k f j : Nat) (x : sM) : Prop := j ≤ f ∧ Rf b n (k + 1 + j) x ∨ f < j ∧ x 55 16 = (pP b n (k + 1 + f) : Int)
theorem f_kw {α : Type} {F : Nat} {b : Nat → Int} {n k f j : Nat} {x : sM} (hF : 500 ≤ F) (hb : Bt b n) (hg : ∀ i, i < 17 → i < f → gdS b n k i) (hn : f < 17 → ¬ gdS b n k f) (hj : j = 4 ∨ j = 8 ∨ j = 12) (h : StS b n k f j x) (G : Int → sM → Option α) : ∃ r y, (if ¬ wi (x 55 14) = (mpK (eK j) : Int) then bn (X9_due F x 0) G else bn (X9_due F x 1) G) = G r y ∧ StS b n k f (j + 1) y ∧ fQq x y := by
  have hK : eK j ≠ 1 ∧ (eK j = 6 ∨ eK j = 7 ∨ eK j = 8) := by rcases hj with rfl | rfl | rfl <;> decide
  rcases h with ⟨h1, h2⟩ | ⟨h1, h2⟩
  · have hk := Tk_le b n (k + 1 + j)
    have m1 := mpK_i hk
    have m2 := mpK_i (show eK j ≤ 12 by omega)
    rw [h2.knd, wiN (by omega)]
    by_cases q : j < f
    · have g := hg j (by omega) q
      obtain ⟨y, e, r1, r2⟩ := f_due1 hF hb h2
      rw [g.1, if_neg (by omega), e, bn_some]
      exact ⟨_, y, rfl, Or.inl ⟨by omega, r1⟩, r2⟩
    · have e1 : f = j := by omega
      subst e1
      have g := hn (by omega)
      obtain ⟨y, e, r1, r2⟩ := f_due0 (F := F) h2
      have q2 : Tk b n (k + 1 + f) ≠ eK f := fun z => g ⟨z, fun w => absurd w hK.1⟩
      rw [if_pos (by omega), e, bn_some]
      exact ⟨_, y, rfl, Or.inr ⟨by omega, r1⟩, r2⟩
  · rw [f_dueF hb h2, f_dueF hb h2, bn_some]
    refine ⟨x 55 15, x, ?_, Or.inr ⟨by omega, h2⟩, fQq.refl x⟩
    split <;> rfl
theorem f_nmS {F : Nat} {b : Nat → Int} {n k f j : Nat} {x : sM} (hF : 500 ≤ F) (hb : Bt b n) (hg : ∀ i, i < 17 → i < f → gdS b n k i) (hn : f < 17 → ¬ gdS b n k f) (hj : j < 17) (hK : eK j = 1) (h : StS b n k f j x) : ∃ r y, X9_number F x 0 (eL j : Int) = some (r, y) ∧ StS b n k f (j + 1) y ∧ fQq x y ∧ (j < f → r = (Tv b n (k + 1 + j) : Int)) := by
  have hL : eL j ≤ 99 := by unfold eL; split <;> omega
  rcases h with ⟨h1, h2⟩ | ⟨h1, h2⟩
  · by_cases q : j < f
    · have g := hg j hj q
      have g2 := g.2 hK
      obtain ⟨y, e, r1, r2⟩ := f_numY (lo := 0) (hi := (eL j : Int)) hF hb h2 (by decide) (wiN (by omega)) ⟨by rw [g.1]; exact hK, by omega, by omega⟩
      exact ⟨_, y, e, Or.inl ⟨by omega, r1⟩, r2, fun _ => rfl⟩
    · have e1 : f = j := by omega
      subst e1
      have g := hn hj
      obtain ⟨v, y, e, r1, r2⟩ := f_numN (F := F) (lo := 0) (hi := (eL f : Int)) h2 (by decide) (wiN (by omega)) (fun z => g ⟨by rw [hK]; exact z.1, fun _ => by omega⟩)
      exact ⟨_, y, e, Or.inr ⟨by omega, r1⟩, r2, fun z => absurd z (by omega)⟩
  · exact ⟨_, x, f_numF hb h2 _ _, Or.inr ⟨by omega, h2⟩, fQq.refl x, fun z => absurd z (by omega)⟩
def fSs (S : Nat) (τ x : sM) : Prop := (∀ m, m ≠ 55 → m ≠ 61 → x m = τ m) ∧ (∀ j, j < 12 ∨ 17 ≤ j → x 55 j = τ 55 j) ∧ ∀ j, j < 56 + 14 * S ∨ 56 + 14 * S + 14 ≤ j → x 61 j = τ 61 j
theorem fSs.q {S : Nat} {τ x y : sM} (h : fSs S τ x) (h2 : fQq x y) : fSs S τ y := ⟨fun m a1 a2 => by rw [h2.1 m a1]; exact h.1 m a1 a2, fun j hj => by rw [h2.2 j hj]; exact h.2.1 j hj, fun j hj => by rw [h2.1 61 (by omega)]; exact h.2.2 j hj⟩
theorem fSs.dD {S : Nat} {τ x : sM} (h : fSs S τ x) : fD τ x := fun k j hk => by
  by_cases q : k = 55
  · subst q; exact h.2.1 j (by omega)
  · by_cases q2 : k = 61
    · subst q2; exact h.2.2 j (by omega)
    · rw [h.1 k q q2]
theorem f_readSort {F : Nat} {b : Nat → Int} {n k f S : Nat} {τ : sM} (hF : 500 ≤ F) (hb : Bt b n) (hS : S < 4) (h57 : τ 57 1 = (S : Int)) (hg : ∀ i, i < 17 → i < f → gdS b n k i) (hn : f < 17 → ¬ gdS b n k f) (h : Rf b n (k + 1) τ) : ∃ x, X9_readSort F τ = some (0, sU x 57 1 ((S + 1 : Nat) : Int)) ∧ StS b n k f 17 x ∧ fSs S τ x ∧ (17 ≤ f → ∀ i, i < 14 → x 61 (56 + 14 * S + i) = (Tv b n (k + 1 + ps i) : Int)) := by
  unfold X9_readSort
  rw [jn_def, h57, wiN (by omega), if_neg (by omega)]
  refine lp_inv (fun i (x : sM × Int) => x.2 = (i : Int) ∧ StS b n k f (pb i) x.1 ∧ fSs S τ x.1 ∧ (pb i ≤ f → ∀ i', i' < i → x.1 61 (56 + 14 * S + i') = (Tv b n (k + 1 + ps i') : Int))) 14 (fun (o : Option (Int × sM)) => ∃ x : sM, o = some (0, sU x 57 1 ((S + 1 : Nat) : Int)) ∧ StS b n k f 17 x ∧ fSs S τ x ∧ (17 ≤ f → ∀ i, i < 14 → x 61 (56 + 14 * S + i) = (Tv b n (k + 1 + ps i) : Int))) (fun i x hi hI K => ?_) (fun x hI K => ?_) ⟨rfl, Or.inl ⟨Nat.zero_le _, h⟩, ⟨fun _ _ _ => rfl, fun _ _ => rfl, fun _ _ => rfl⟩, fun _ i' hi' => absurd hi' (by omega)⟩ (by omega)
  · obtain ⟨x, v⟩ := x
    obtain ⟨hv, h1, h2, h3⟩ := hI
    simp only [] at hv h1 h2 h3 ⊢
    subst hv
    obtain ⟨p1, p2, p3, p4, p5, p6, p7, p8⟩ := ps_ne i hi
    have pf := pb_f i hi
    rw [if_neg (show ¬ 14 ≤ wi (i : Int) by rw [wiN (by omega)]; omega), wiN (n := i) (by omega)]
    -- the number's part
    have num : ∀ y : sM, StS b n k f (ps i) y → fSs S τ y → (ps i < f → ∀ i', i' < i → y 61 (56 + 14 * S + i') = (Tv b n (k + 1 + ps i') : Int)) → ∀ (L : Int), L = (eL (ps i) : Int) → ∃ x' : sM × Int, (x'.2 = ((i + 1 : Nat) : Int) ∧ StS b n k f (pb (i + 1)) x'.1 ∧ fSs S τ x'.1 ∧ (pb (i + 1) ≤ f → ∀ i', i' < i + 1 → x'.1 61 (56 + 14 * S + i') = (Tv b n (k + 1 + ps i') : Int))) ∧ bn (X9_number F y 0 L) (fun r10 σ12 => jn (fun q13 : Int => if 0 ≤ wi ((56 + (14 * (S : Int))) + (i : Int)) ∧ wi ((56 + (14 * (S : Int))) + (i : Int)) < 112 then K ((sU σ12 61 (wi ((56 + (14 * (S : Int))) + (i : Int))).toNat q13), (i : Int) + 1) else none) (fun K14 => if ¬ wi (σ12 55 16) = (-9) then if 0 ≤ wi ((56 + (14 * (S : Int))) + (i : Int)) ∧ wi ((56 + (14 * (S : Int))) + (i : Int)) < 112 then K14 (σ12 61 (wi ((56 + (14 * (S : Int))) + (i : Int))).toNat) else none else K14 r10)) = K x' := by
      intro y y1 y2 y3 L hL
      subst hL
      obtain ⟨r, z, e, z1, z2, z3⟩ := f_nmS hF hb hg hn (by omega) p5 y1
      rw [e, bn_some, jn_def, show 56 + 14 * (S : Int) + (i : Int) = ((56 + 14 * S + i : Nat) : Int) by omega, wiN (n := 56 + 14 * S + i) (by omega), Int.toNat_natCast, if_pos (show 0 ≤ ((56 + 14 * S + i : Nat) : Int) ∧ ((56 + 14 * S + i : Nat) : Int) < 112 by omega)]
      have hz := y2.q z2
      have fin : ∀ q13 : Int, (ps i < f → q13 = (Tv b n (k + 1 + ps i) : Int)) → ∃ x' : sM × Int, (x'.2 = ((i + 1 : Nat) : Int) ∧ StS b n k f (pb (i + 1)) x'.1 ∧ fSs S τ x'.1 ∧ (pb (i + 1) ≤ f → ∀ i', i' < i + 1 → x'.1 61 (56 + 14 * S + i') = (Tv b n (k + 1 + ps i') : Int))) ∧ (if 0 ≤ ((56 + 14 * S + i : Nat) : Int) ∧ ((56 + 14 * S + i : Nat) : Int) < 112 then K (sU z 61 (56 + 14 * S + i) q13, (i : Int) + 1) else none) = K x' := by
        intro q13 hq
        rw [if_pos (show 0 ≤ ((56 + 14 * S + i : Nat) : Int) ∧ ((56 + 14 * S + i : Nat) : Int) < 112 by omega)]
        refine ⟨_, ⟨rfl, ?_, ⟨fun m a1 a2 => ?_, fun j hj => ?_, fun j hj => ?_⟩, fun hf i' hi' => ?_⟩, rfl⟩
        · rw [p7]
          rcases z1 with ⟨w1, w2⟩ | ⟨w1, w2⟩
          · exact Or.inl ⟨w1, w2.set _ _ (by omega)⟩
          · exact Or.inr ⟨w1, by simp only []; rw [sU_ne (by omega)]; exact w2⟩
        · simp only []; rw [sU_ne a2]; exact hz.1 m a1 a2
        · simp only []; rw [sU_ne (by omega)]; exact hz.2.1 j hj
        · simp only []; rw [sUnj (by omega)]; exact hz.2.2 j hj
        · simp only []
          rw [p7] at hf
          by_cases w : i' = i
          · subst w; rw [sUv]; exact hq (by omega)
          · rw [sUnj (by omega), z2.1 61 (by omega)]; exact y3 (by omega) i' (by omega)
      rcases z1 with ⟨w1, w2⟩ | ⟨w1, w2⟩
      · rw [if_neg (show ¬ ¬ wi (z 55 16) = -9 by rw [w2.2.1]; decide)]
        exact fin r z3
      · rw [if_pos (flt hb w2)]
        exact fin _ (fun w => absurd w (by omega))
    have hLL : (if 4 ≤ (i : Int) then (10 : Int) else 99) = (eL (ps i) : Int) := by
      rw [p6]
      by_cases w : 4 ≤ i
      · rw [if_pos (by omega), if_pos w]; rfl
      · rw [if_neg (by omega), if_neg w]; rfl
    have num2 : ∀ y : sM, StS b n k f (ps i) y → fSs S τ y → (ps i < f → ∀ i', i' < i → y 61 (56 + 14 * S + i') = (Tv b n (k + 1 + ps i') : Int)) → ∃ x' : sM × Int, (x'.2 = ((i + 1 : Nat) : Int) ∧ StS b n k f (pb (i + 1)) x'.1 ∧ fSs S τ x'.1 ∧ (pb (i + 1) ≤ f → ∀ i', i' < i + 1 → x'.1 61 (56 + 14 * S + i') = (Tv b n (k + 1 + ps i') : Int))) ∧ (jn (fun q8 : Int => bn (X9_number F y 0 q8) (fun r10 σ12 => jn (fun q13 : Int => if 0 ≤ wi ((56 + (14 * (S : Int))) + (i : Int)) ∧ wi ((56 + (14 * (S : Int))) + (i : Int)) < 112 then K ((sU σ12 61 (wi ((56 + (14 * (S : Int))) + (i : Int))).toNat q13), (i : Int) + 1) else none) (fun K14 => if ¬ wi (σ12 55 16) = (-9) then if 0 ≤ wi ((56 + (14 * (S : Int))) + (i : Int)) ∧ wi ((56 + (14 * (S : Int))) + (i : Int)) < 112 then K14 (σ12 61 (wi ((56 + (14 * (S : Int))) + (i : Int))).toNat) else none else K14 r10))) (fun K9 => if 4 ≤ (i : Int) then K9 10 else K9 99)) = K x' := by
      intro y y1 y2 y3
      rw [jn_def]
      by_cases w : 4 ≤ (i : Int)
      · rw [if_pos w] at hLL ⊢; exact num y y1 y2 y3 _ hLL
      · rw [if_neg w] at hLL ⊢; exact num y y1 y2 y3 _ hLL
    have kw : ∀ c : Int, c = (mpK (eK (pb i)) : Int) → (pb i = 4 ∨ pb i = 8 ∨ pb i = 12) → ps i = pb i + 1 → ∀ G : sM → Option (Int × sM), (∀ y : sM, StS b n k f (ps i) y → fSs S τ y → (ps i < f → ∀ i', i' < i → y 61 (56 + 14 * S + i') = (Tv b n (k + 1 + ps i') : Int)) → ∃ x' : sM × Int, (x'.2 = ((i + 1 : Nat) : Int) ∧ StS b n k f (pb (i + 1)) x'.1 ∧ fSs S τ x'.1 ∧ (pb (i + 1) ≤ f → ∀ i', i' < i + 1 → x'.1 61 (56 + 14 * S + i') = (Tv b n (k + 1 + ps i') : Int))) ∧ G y = K x') → ∃ x' : sM × Int, (x'.2 = ((i + 1 : Nat) : Int) ∧ StS b n k f (pb (i + 1)) x'.1 ∧ fSs S τ x'.1 ∧ (pb (i + 1) ≤ f → ∀ i', i' < i + 1 → x'.1 61 (56 + 14 * S + i') = (Tv b n (k + 1 + ps i') : Int))) ∧ (if ¬ wi (x 55 14) = c then bn (X9_due F x 0) (fun r25 σ27 => G σ27) else bn (X9_due F x 1) (fun r25 σ27 => G σ27)) = K x' := by
      intro c hc hp1 hp2 G hG
      obtain ⟨r, y, e, y1, y2⟩ := f_kw hF hb hg hn hp1 h1 (fun r25 σ27 => G σ27)
      rw [hc, e]
      refine hG y (by rw [hp2]; exact y1) (h2.q y2) (fun hf i' hi' => ?_)
      rw [y2.1 61 (by omega)]; exact h3 (by omega) i' hi'
    rw [jn_def, jn_def]
    rcases pf with ⟨rfl, q1, q2⟩ | ⟨rfl, q1, q2⟩ | ⟨rfl, q1, q2⟩ | ⟨q1, q2, q3, q4⟩
    · rw [if_pos (show ((4 : Nat) : Int) = 4 from rfl)]
      exact kw 3 (by rw [q2]; rfl) (by omega) q1 _ num2
    · rw [if_neg (show ¬ ((7 : Nat) : Int) = 4 by decide), if_pos (show ((7 : Nat) : Int) = 7 from rfl)]
      exact kw 4 (by rw [q2]; rfl) (by omega) q1 _ num2
    · rw [if_neg (show ¬ ((10 : Nat) : Int) = 4 by decide), if_neg (show ¬ ((10 : Nat) : Int) = 7 by decide), if_neg (show ¬ ¬ ((10 : Nat) : Int) = 10 by decide)]
      exact kw 5 (by rw [q2]; rfl) (by omega) q1 _ num2
    · rw [if_neg (show ¬ (i : Int) = 4 by omega), if_neg (show ¬ (i : Int) = 7 by omega), if_pos (show ¬ (i : Int) = 10 by omega)]
      exact num2 x (by rw [q4]; exact h1) h2 (fun hf i' hi' => h3 (by omega) i' hi')
  · obtain ⟨x, v⟩ := x
    obtain ⟨hv, h1, h2, h3⟩ := hI
    simp only [] at hv h1 h2 h3 ⊢
    subst hv
    rw [if_pos (show 14 ≤ wi ((14 : Nat) : Int) by decide), h2.1 57 (by omega) (by omega), h57]
    exact ⟨x, rfl, h1, h2, h3⟩
