/-- the row of shares of one wheel, told as far as i -/
def TsI (c : cC) (o w u : Nat) (σ : sM) (i : Nat) (x : sM × Int) : Prop := x.2 = (i : Int) ∧ (∀ k, k ≠ shC o → x.1 k = σ k) ∧ (∀ f, f < i → x.1 (shC o) (16 * w + f) = ((u * wy1 (cZ c w) f : Nat) : Int)) ∧ ∀ j, ¬ (16 * w ≤ j ∧ j < 16 * w + 16) → x.1 (shC o) j = σ (shC o) j
theorem e_tell {c : cC} {σ : sM} {o F w u : Nat} (hc : OkC c) (hX : RelX c σ) (hw : w < 3) (hF : 20 ≤ F) : ∃ σ1, X3_tellShares F o σ (w : Int) (u : Int) = some (0, σ1) ∧ TsI c o w u σ 16 (σ1, 16) := by
  have hz := cZ_le hc w
  unfold X3_tellShares
  rw [e_size hX hw, bp_some]
  refine lp_inv (TsI c o w u σ) 16 (fun O => ∃ σ1, O = some (0, σ1) ∧ TsI c o w u σ 16 (σ1, 16)) (fun i x hi hI K => ?_) (fun x hI K => ?_) ⟨rfl, fun _ _ => rfl, fun f hf => absurd hf (by omega), fun _ _ => rfl⟩ (by omega)
  · obtain ⟨τ, v⟩ := x
    obtain ⟨hv, f1, f2, f3⟩ := hI
    simp only [] at hv f1 f2 f3 ⊢
    subst hv
    have tail : ∀ v : Int, v = ((u * wy1 (cZ c w) i : Nat) : Int) → TsI c o w u σ (i + 1) (sU τ (shC o) (16 * w + i) v, (i : Int) + 1) := by
      intro v hv
      refine ⟨by simp only []; omega, fun k hk => ?_, fun f hf => ?_, fun j hj => ?_⟩
      · simp only []; rw [sU_ne hk]; exact f1 k hk
      · simp only []
        by_cases y : f = i
        · subst y; rw [sUv]; exact hv
        · rw [sUnj (by omega)]; exact f2 f (by omega)
      · simp only []; rw [sUnj (by omega)]; exact f3 j hj
    have p0 := e_portionsOf τ (s := i) (w := 0) (by omega) (by omega)
    have s0 := e_stepOf τ (s := i) (w := 0) (by omega) (by omega)
    rw [show ((0 : Nat) : Int) = 0 from rfl] at p0 s0
    have ep : po i 0 = i % 4 := by unfold po; rw [Nat.pow_zero, Nat.div_one]
    have es : sp i 0 = i / 4 := by unfold sp; rw [Nat.pow_zero, Nat.div_one]; omega
    rw [ep] at p0
    rw [es] at s0
    simp only [jn_def]
    rw [if_neg (by rw [wiN (by omega)]; omega), if_neg (by rw [wiN (by omega)]; omega), if_neg (by rw [wiN (by omega)]; omega), p0, bp_some, s0, bp_some, show (w : Int) * 16 + (i : Int) = ((16 * w + i : Nat) : Int) by omega, wiN (n := 16 * w + i) (by omega), Int.toNat_natCast, wiN (n := i % 4) (by omega), wiN (n := cZ c w) (by omega)]
    by_cases q1 : i % 4 = 0
    · rw [if_pos (by omega), if_pos (by omega)]
      refine ⟨_, tail _ ?_, rfl⟩
      unfold wy1
      rw [if_pos (Or.inl q1), Int.mul_zero, Nat.mul_zero]; rfl
    · rw [if_neg (by omega)]
      by_cases q2 : i % 4 ≤ cZ c w
      · rw [if_pos (by omega), if_pos (by omega)]
        refine ⟨_, tail _ ?_, rfl⟩
        unfold wy1
        rw [if_neg (by omega)]; push_cast; rfl
      · rw [if_neg (by omega), if_pos (by omega)]
        refine ⟨_, tail _ ?_, rfl⟩
        unfold wy1
        rw [if_pos (Or.inr (by omega)), Int.mul_zero, Nat.mul_zero]; rfl
  · obtain ⟨τ, v⟩ := x
    have hv : v = 16 := hI.1
    subst hv
    simp only []
    rw [if_pos (by decide)]
    exact ⟨τ, rfl, hI⟩
/-- all shares, told as far as wheel i -/
def FgI (c : cC) (o : Nat) (σ : sM) (i : Nat) (x : sM × Int) : Prop := x.2 = (i : Int) ∧ (∀ k, k ≠ o → k ≠ shC o → x.1 k = σ k) ∧ x.1 o 1 = σ o 1 ∧ x.1 o 2 = σ o 2 ∧ x.1 o 4 = ((un c i : Nat) : Int) ∧ x.1 o 5 = σ o 5 + 1 ∧ ∀ w, w < i → ∀ f, f < 16 → x.1 (shC o) (16 * w + f) = ((un c w * wy1 (cZ c w) f : Nat) : Int)
def FgO (c : cC) (o : Nat) (σ : sM) (O : Option (Int × sM)) : Prop := ∃ σ1, O = some (0, σ1) ∧ (∀ k, k ≠ o → k ≠ shC o → σ1 k = σ k) ∧ σ1 o 1 = σ o 1 ∧ σ1 o 2 = σ o 2 ∧ σ1 o 4 = ((un c 3 : Nat) : Int) ∧ σ1 o 5 = σ o 5 + 1 ∧ Shr c (shC o) σ1
theorem e_fgt {c : cC} {o F : Nat} {σ : sM} (hc : OkC c) (hX : RelX c σ) (ho : o = 29 ∨ o = 33) (hF : 20 ≤ F) : FgO c o σ (X3_forgetAll F o σ) := by
  have h12 : 12 ≤ o ∧ 12 ≤ shC o ∧ o ≠ shC o := by rcases ho with rfl | rfl <;> decide
  unfold X3_forgetAll
  refine lp_inv (FgI c o σ) 3 (FgO c o σ) (fun i x hi hI K => ?_) (fun x hI K => ?_) ⟨rfl, fun k h1 h2 => ?_, ?_, ?_, ?_, ?_, fun w hw => absurd hw (by omega)⟩ (by omega)
  · obtain ⟨τ, v⟩ := x
    obtain ⟨hv, f1, f2, f3, f4, f5, f6⟩ := hI
    simp only [] at hv f1 f2 f3 f4 f5 f6 ⊢
    subst hv
    have hXt : RelX c τ := hX.congr hc (fun k a1 a2 => f1 k (by omega) (by omega))
    obtain ⟨τ1, e, t0, t1, t2, t3⟩ := e_tell (o := o) (u := un c i) hc hXt hi hF
    simp only [] at t1 t2 t3
    have hX1 : RelX c τ1 := hXt.congr hc (fun k a1 a2 => t1 k (by omega))
    rw [if_neg (by rw [wiN (by omega)]; omega), f4, e, bn_some, e_size hX1 hi, bp_some]
    have to : τ1 o = τ o := t1 o h12.2.2
    refine ⟨_, ⟨?_, fun k h1 h2 => ?_, ?_, ?_, ?_, ?_, fun w hw f hf => ?_⟩, rfl⟩
    · simp only []; omega
    · simp only []; rw [sU_ne h1, t1 k h2]; exact f1 k h1 h2
    · simp only []; rw [sUnj (by omega), to]; exact f2
    · simp only []; rw [sUnj (by omega), to]; exact f3
    · simp only []; rw [sUv, to, f4]
      show _ = ((un c i * (4 * cZ c i + 1) : Nat) : Int)
      push_cast; rfl
    · simp only []; rw [sUnj (by omega), to]; exact f5
    · simp only []; rw [sU_ne (fun z => h12.2.2 z.symm)]
      by_cases y : w = i
      · subst y; exact t2 f hf
      · rw [t3 _ (by omega)]; exact f6 w (by omega) f hf
  · obtain ⟨τ, v⟩ := x
    obtain ⟨hv, f1, f2, f3, f4, f5, f6⟩ := hI
    simp only [] at hv f1 f2 f3 f4 f5 f6 ⊢
    subst hv
    rw [if_pos (by decide)]
    exact ⟨τ, rfl, f1, f2, f3, f4, f5, f6⟩
  · simp only []; rw [sU_ne h1, sU_ne h1]
  · simp only []; rw [sUnj (by omega), sUnj (by omega)]
  · simp only []; rw [sUnj (by omega), sUnj (by omega)]
  · simp only []; rw [sUv]; rfl
  · simp only []; rw [sUnj (by omega), sUv]
