theorem codM_ch {j : Nat} (hj : j ≤ 3) : codM (chK j) = (j : Int) := by
  unfold codM chK
  by_cases y : j = 3
  · rw [if_pos y, if_pos rfl, y]; rfl
  · rw [if_neg y, if_neg (by omega)]
theorem Nk_ch {c : cC} (hc : OkC c) {s0 f k s j : Nat} {cu : Nat → Nat} (h : Nk c s0 f k s cu) (hj : j ≤ 3) (hm : j = 3 ∨ mE c s j) (hk : f + k < 8) : Nk c s0 f (k + 1) (chS s j) (chC cu j (f + k)) := by
  unfold chS chC
  by_cases y : j = 3
  · rw [if_pos y, if_pos y]; exact ⟨h.1, Nd_no h.2⟩
  · rw [if_neg y, if_neg y]
    rcases hm with hm | hm
    · exact absurd hm y
    · exact ⟨bh_Vs hc h.1 (Or.inr (Or.inl ⟨by omega, hm⟩)), Nd_eat (u := f + k) hc (h.1.lt hc) h.2 hm (by omega) hk⟩
section TREE
variable {c : cC} {p s0 t f n F : Nat} {σ σ0 : sM}
def Qj (c : cC) (p s0 t f n F : Nat) (σ σ0 : sM) (k s : Nat) (cu : Nat → Nat) (sum : Nat) (pa : Nat → Nat) (j : Nat) (R : Int × (Nat → Nat) → Int × (Nat → Nat)) (M : Nat) : Prop := ∀ (rr : Nat) (b : Int × (Nat → Nat)) (τ : sM) (S : Int), rr ≤ j → (∀ i, rr ≤ i → i < j → i < 3 ∧ ¬ mE c s i) → Ap c p s0 t k (f + k) s cu sum rr τ S → rwM k pa τ → bsM n b τ → fQ σ0 τ → -1 ≤ b.1 → b.1 ≤ 99000 * 10 → ∃ cnt τ', cnt ≤ M ∧ Rch (oB F σ (f : Int)) cnt (τ, b.1, S, (k : Int)) (τ', (R b).1, (sum : Int), (k : Int) + (-1)) ∧ Cl c s cu τ' ∧ (∀ i, i < k → τ' 80 i = τ 80 i) ∧ bsM n (R b) τ' ∧ fQ σ0 τ'
theorem o_tree (hc : OkC c) (hM : RelM c σ0) (hT : Tg c p s0 t f σ0) (h0 : ∀ τ, fQ σ0 τ → X9_firstWeek τ = some (f : Int)) (hn : f + n = cK c) (hF : 200 ≤ F) (h59 : σ 59 0 = (cK c : Int)) (m : Nat) : m + 1 ≤ n → ∀ (s : Nat) (cu : Nat → Nat) (sum : Nat) (pa : Nat → Nat) (b : Int × (Nat → Nat)) (τ : sM), Nk c s0 f (n - (m + 1)) s cu → okP (n - (m + 1)) pa → sum + 99000 * (m + 1) ≤ 99000 * 8 → -1 ≤ b.1 → b.1 ≤ 99000 * 10 → τ 80 (n - (m + 1)) = -1 → Cl c s cu τ → rwM (n - (m + 1)) pa τ → bsM n b τ → fQ σ0 τ → ∃ cnt τ', cnt ≤ NN (m + 1) ∧ Rch (oB F σ (f : Int)) cnt (τ, b.1, (sum : Int), ((n - (m + 1) : Nat) : Int)) (τ', (uPd c (gn c p s0 t) f n (m + 1) s cu sum pa b).1, (sum : Int), ((n - (m + 1) : Nat) : Int) + (-1)) ∧ Cl c s cu τ' ∧ (∀ i, i < n - (m + 1) → τ' 80 i = τ 80 i) ∧ bsM n (uPd c (gn c p s0 t) f n (m + 1) s cu sum pa b) τ' ∧ fQ σ0 τ' := by
  have c5 := hc.2.2.1
  have hGb : ∀ w cu u, gn c p s0 t w cu u ≤ 99000 := fun w cu u => gn_le hc p s0 t w cu u
  induction m with
  | zero =>
    intro hm s cu sum pa b τ hN hpa hsum hb1 hb2 h80 hC hrw hbs hf
    obtain ⟨k, hk⟩ : ∃ k, n - (0 + 1) = k := ⟨_, rfl⟩
    rw [hk] at hN hpa h80 hrw ⊢
    have Q4 : Qj c p s0 t f n F σ σ0 k s cu sum pa 4 (fun b => b) 1 := by
      intro rr b τ S h1 h2 hA hrw hbs hf hb1 hb2
      have r4 : rr = 4 := by
        by_cases y : rr = 4
        · exact y
        · have := (h2 3 (by omega) (by omega)).1; omega
      subst r4
      obtain ⟨τ', e1, e2, e3, e4, e5⟩ := o_last (σ := σ) (most := b.1) hc hM hT h0 hn hF hN (by omega) hA hf
      exact ⟨1, τ', Nat.le_refl _, e1, e2, e3, by rcases hbs with y | y; exact Or.inl y; exact Or.inr (fun i hi => by rw [e4]; exact y i hi), e5⟩
    have step : ∀ (j : Nat) (R R' : Int × (Nat → Nat) → Int × (Nat → Nat)) (M : Nat), j ≤ 3 → (∀ b, (j = 3 ∨ mE c s j) → R b = R' (uPd c (gn c p s0 t) f n 0 (chS s j) (chC cu j (f + k)) (chG c p s0 t cu sum j (f + k)) (paS pa k (chK j)) b)) → (∀ b, j < 3 → ¬ mE c s j → R b = R' b) → Qj c p s0 t f n F σ σ0 k s cu sum pa (j + 1) R' M → Qj c p s0 t f n F σ σ0 k s cu sum pa j R (M + 1) := by
      intro j R R' M hj hal hsk hQ rr b τ S h1 h2 hA hrw hbs hf hb1 hb2
      by_cases y : j = 3 ∨ mE c s j
      · obtain ⟨τ1, e1, e2, e3, e4, e5, e6⟩ := (o_round (σ := σ) (S := S) hc hM hT h0 hn hF h59 hN (by omega) hA (by omega) hf hpa hrw hbs hb1 hb2 (by omega) h1 h2 y hj).2 (by omega)
        have hb := uPd_b (c := c) (f := f) (n := n) hGb 0 (chS s j) (chC cu j (f + k)) (chG c p s0 t cu sum j (f + k)) (paS pa k (chK j)) b hb1 hb2 (by unfold chG; have := hGb j (cuE cu j (f + k) j) (f + k); split <;> omega)
        obtain ⟨cnt, τ', d1, d2, d3, d4, d5, d6⟩ := hQ (j + 1) _ τ1 _ (Nat.le_refl _) (fun i a1 a2 => by omega) (Ap_ch (p := p) (sum := sum) hj e2 e3 y) (fun i hi => by rw [e4 i hi]; exact hrw i hi) e5 e6 hb.1 hb.2
        rw [← hal b y] at d2 d5
        exact ⟨1 + cnt, τ', by omega, e1.trans d2, d3, fun i hi => by rw [d4 i hi, e4 i hi], d5, d6⟩
      · have yj : j < 3 ∧ ¬ mE c s j := ⟨by by_cases z : j = 3; exact absurd (Or.inl z) y; omega, fun z => y (Or.inr z)⟩
        obtain ⟨cnt, τ', d1, d2, d3, d4, d5, d6⟩ := hQ rr b τ S (by omega) (fun i a1 a2 => by by_cases z : i = j; rw [z]; exact yj; exact h2 i a1 (by omega)) hA hrw hbs hf hb1 hb2
        rw [← hsk b yj.1 yj.2] at d2 d5
        exact ⟨cnt, τ', by omega, d2, d3, d4, d5, d6⟩
    have Q3 := step 3 (fun b => uPd c (gn c p s0 t) f n 0 s cu sum (paS pa k 6) b) (fun b => b) 1 (by omega) (fun b _ => rfl) (fun b h => by omega) Q4
    have Q2 := step 2 (fun b => uPd c (gn c p s0 t) f n 0 s cu sum (paS pa k 6) (usp c (gn c p s0 t) k (f + k) (uPd c (gn c p s0 t) f n 0) s cu sum pa 2 b)) _ _ (by omega) (fun b h => by rcases h with h | h; omega; show uPd c (gn c p s0 t) f n 0 s cu sum (paS pa k 6) (if mE c s 2 then _ else _) = _; rw [if_pos h]; rfl) (fun b _ h => by show uPd c (gn c p s0 t) f n 0 s cu sum (paS pa k 6) (if mE c s 2 then _ else b) = _; rw [if_neg h]) Q3
    have Q1 := step 1 (fun b => uPd c (gn c p s0 t) f n 0 s cu sum (paS pa k 6) (usp c (gn c p s0 t) k (f + k) (uPd c (gn c p s0 t) f n 0) s cu sum pa 2 (usp c (gn c p s0 t) k (f + k) (uPd c (gn c p s0 t) f n 0) s cu sum pa 1 b))) _ _ (by omega) (fun b h => by rcases h with h | h; omega; show uPd c (gn c p s0 t) f n 0 s cu sum (paS pa k 6) (usp c (gn c p s0 t) k (f + k) (uPd c (gn c p s0 t) f n 0) s cu sum pa 2 (if mE c s 1 then _ else _)) = _; rw [if_pos h]; rfl) (fun b _ h => by show uPd c (gn c p s0 t) f n 0 s cu sum (paS pa k 6) (usp c (gn c p s0 t) k (f + k) (uPd c (gn c p s0 t) f n 0) s cu sum pa 2 (if mE c s 1 then _ else b)) = _; rw [if_neg h]) Q2
    have Q0 := step 0 (fun b => uPd c (gn c p s0 t) f n 0 s cu sum (paS pa k 6) (usp c (gn c p s0 t) k (f + k) (uPd c (gn c p s0 t) f n 0) s cu sum pa 2 (usp c (gn c p s0 t) k (f + k) (uPd c (gn c p s0 t) f n 0) s cu sum pa 1 (usp c (gn c p s0 t) k (f + k) (uPd c (gn c p s0 t) f n 0) s cu sum pa 0 b)))) _ _ (by omega) (fun b h => by rcases h with h | h; omega; show uPd c (gn c p s0 t) f n 0 s cu sum (paS pa k 6) (usp c (gn c p s0 t) k (f + k) (uPd c (gn c p s0 t) f n 0) s cu sum pa 2 (usp c (gn c p s0 t) k (f + k) (uPd c (gn c p s0 t) f n 0) s cu sum pa 1 (if mE c s 0 then _ else _))) = _; rw [if_pos h]; rfl) (fun b _ h => by show uPd c (gn c p s0 t) f n 0 s cu sum (paS pa k 6) (usp c (gn c p s0 t) k (f + k) (uPd c (gn c p s0 t) f n 0) s cu sum pa 2 (usp c (gn c p s0 t) k (f + k) (uPd c (gn c p s0 t) f n 0) s cu sum pa 1 (if mE c s 0 then _ else b))) = _; rw [if_neg h]) Q1
    have key := Q0 0 b τ (sum : Int) (Nat.le_refl _) (fun i h1 h2 => by omega) ⟨h80, Or.inl ⟨Or.inl rfl, hC, rfl⟩⟩ hrw hbs hf hb1 hb2
    have eu : uPd c (gn c p s0 t) f n (0 + 1) s cu sum pa b = uPd c (gn c p s0 t) f n 0 s cu sum (paS pa k 6) (usp c (gn c p s0 t) k (f + k) (uPd c (gn c p s0 t) f n 0) s cu sum pa 2 (usp c (gn c p s0 t) k (f + k) (uPd c (gn c p s0 t) f n 0) s cu sum pa 1 (usp c (gn c p s0 t) k (f + k) (uPd c (gn c p s0 t) f n 0) s cu sum pa 0 b))) := by rw [uPd_suc, hk]
    rw [eu]
    obtain ⟨cnt, τ', d1, d2⟩ := key
    exact ⟨cnt, τ', d1, d2⟩
  | succ m ih =>
    intro hm s cu sum pa b τ hN hpa hsum hb1 hb2 h80 hC hrw hbs hf
    obtain ⟨k, hk⟩ : ∃ k, n - (m + 1 + 1) = k := ⟨_, rfl⟩
    have hk1 : n - (m + 1) = k + 1 := by omega
    rw [hk] at hN hpa h80 hrw ⊢
    rw [hk1] at ih
    obtain ⟨N1, hN1⟩ : ∃ N1, NN (m + 1) = N1 := ⟨_, rfl⟩
    rw [hN1] at ih
    have hsum' : sum + 99000 + 99000 * (m + 1) ≤ 99000 * 8 := by
      have e : 99000 * (m + 1 + 1) = 99000 * (m + 1) + 99000 := Nat.mul_succ _ _
      rw [e] at hsum
      generalize 99000 * (m + 1) = X at hsum ⊢
      omega
    have Q4 : Qj c p s0 t f n F σ σ0 k s cu sum pa 4 (fun b => b) 1 := by
      intro rr b τ S h1 h2 hA hrw hbs hf hb1 hb2
      have r4 : rr = 4 := by
        by_cases y : rr = 4
        · exact y
        · have := (h2 3 (by omega) (by omega)).1; omega
      subst r4
      obtain ⟨τ', e1, e2, e3, e4, e5⟩ := o_last (σ := σ) (most := b.1) hc hM hT h0 hn hF hN (by omega) hA hf
      exact ⟨1, τ', Nat.le_refl _, e1, e2, e3, by rcases hbs with y | y; exact Or.inl y; exact Or.inr (fun i hi => by rw [e4]; exact y i hi), e5⟩
    have step : ∀ (j : Nat) (R R' : Int × (Nat → Nat) → Int × (Nat → Nat)) (M : Nat), j ≤ 3 → (∀ b, (j = 3 ∨ mE c s j) → R b = R' (uPd c (gn c p s0 t) f n (m + 1) (chS s j) (chC cu j (f + k)) (chG c p s0 t cu sum j (f + k)) (paS pa k (chK j)) b)) → (∀ b, j < 3 → ¬ mE c s j → R b = R' b) → Qj c p s0 t f n F σ σ0 k s cu sum pa (j + 1) R' M → Qj c p s0 t f n F σ σ0 k s cu sum pa j R (M + (1 + N1)) := by
      intro j R R' M hj hal hsk hQ rr b τ S h1 h2 hA hrw hbs hf hb1 hb2
      by_cases y : j = 3 ∨ mE c s j
      · obtain ⟨τ1, e1, e2, e2', e3, e4, e5, e6⟩ := (o_round (σ := σ) (S := S) hc hM hT h0 hn hF h59 hN (by omega) hA (by omega) hf hpa hrw hbs hb1 hb2 (by omega) h1 h2 y hj).1 (by omega)
        have hgb := hGb j (cuE cu j (f + k) j) (f + k)
        have hGl : chG c p s0 t cu sum j (f + k) ≤ sum + 99000 := by unfold chG; split <;> omega
        have hGs : chG c p s0 t cu sum j (f + k) + 99000 * (m + 1) ≤ 99000 * 8 := Nat.le_trans (Nat.add_le_add_right hGl _) hsum'
        have hGs' : chG c p s0 t cu sum j (f + k) + 99000 * (m + 1) ≤ 99000 * 10 := Nat.le_trans hGs (by decide)
        obtain ⟨cnt1, τ2, g1, g2, g3, g4, g5, g6⟩ := ih (by omega) (chS s j) (chC cu j (f + k)) (chG c p s0 t cu sum j (f + k)) (paS pa k (chK j)) b τ1 (Nk_ch hc hN hj y (by omega)) (fun i hi => by
          unfold paS
          by_cases z : i = k
          · rw [if_pos z]; unfold chK; split <;> omega
          · rw [if_neg z]; exact hpa i (by omega)) hGs hb1 hb2 e2 e3 (fun i hi => by
          unfold paS
          by_cases z : i = k
          · rw [if_pos z, z, e2', codM_ch hj]
          · rw [if_neg z, e4 i (by omega)]; exact hrw i (by omega)) e5 e6
        have hb := uPd_b (c := c) (f := f) (n := n) hGb (m + 1) (chS s j) (chC cu j (f + k)) (chG c p s0 t cu sum j (f + k)) (paS pa k (chK j)) b hb1 hb2 hGs'
        rw [show ((k + 1 : Nat) : Int) + (-1) = (k : Int) by omega] at g2
        obtain ⟨cnt, τ', d1, d2, d3, d4, d5, d6⟩ := hQ (j + 1) _ τ2 _ (Nat.le_refl _) (fun i a1 a2 => by omega) (Ap_ch (p := p) (sum := sum) hj (by rw [g4 k (by omega)]; exact e2') g3 y) (fun i hi => by rw [g4 i (by omega), e4 i hi]; exact hrw i hi) g5 g6 hb.1 hb.2
        rw [← hal b y] at d2 d5
        exact ⟨1 + cnt1 + cnt, τ', by omega, (e1.trans g2).trans d2, d3, fun i hi => by rw [d4 i hi, g4 i (by omega), e4 i hi], d5, d6⟩
      · have yj : j < 3 ∧ ¬ mE c s j := ⟨by by_cases z : j = 3; exact absurd (Or.inl z) y; omega, fun z => y (Or.inr z)⟩
        obtain ⟨cnt, τ', d1, d2, d3, d4, d5, d6⟩ := hQ rr b τ S (by omega) (fun i a1 a2 => by by_cases z : i = j; rw [z]; exact yj; exact h2 i a1 (by omega)) hA hrw hbs hf hb1 hb2
        rw [← hsk b yj.1 yj.2] at d2 d5
        exact ⟨cnt, τ', by omega, d2, d3, d4, d5, d6⟩
    have Q3 := step 3 (fun b => uPd c (gn c p s0 t) f n (m + 1) s cu sum (paS pa k 6) b) (fun b => b) 1 (by omega) (fun b _ => rfl) (fun b h => by omega) Q4
    have Q2 := step 2 (fun b => uPd c (gn c p s0 t) f n (m + 1) s cu sum (paS pa k 6) (usp c (gn c p s0 t) k (f + k) (uPd c (gn c p s0 t) f n (m + 1)) s cu sum pa 2 b)) _ _ (by omega) (fun b h => by rcases h with h | h; omega; show uPd c (gn c p s0 t) f n (m + 1) s cu sum (paS pa k 6) (if mE c s 2 then _ else _) = _; rw [if_pos h]; rfl) (fun b _ h => by show uPd c (gn c p s0 t) f n (m + 1) s cu sum (paS pa k 6) (if mE c s 2 then _ else b) = _; rw [if_neg h]) Q3
    have Q1 := step 1 (fun b => uPd c (gn c p s0 t) f n (m + 1) s cu sum (paS pa k 6) (usp c (gn c p s0 t) k (f + k) (uPd c (gn c p s0 t) f n (m + 1)) s cu sum pa 2 (usp c (gn c p s0 t) k (f + k) (uPd c (gn c p s0 t) f n (m + 1)) s cu sum pa 1 b))) _ _ (by omega) (fun b h => by rcases h with h | h; omega; show uPd c (gn c p s0 t) f n (m + 1) s cu sum (paS pa k 6) (usp c (gn c p s0 t) k (f + k) (uPd c (gn c p s0 t) f n (m + 1)) s cu sum pa 2 (if mE c s 1 then _ else _)) = _; rw [if_pos h]; rfl) (fun b _ h => by show uPd c (gn c p s0 t) f n (m + 1) s cu sum (paS pa k 6) (usp c (gn c p s0 t) k (f + k) (uPd c (gn c p s0 t) f n (m + 1)) s cu sum pa 2 (if mE c s 1 then _ else b)) = _; rw [if_neg h]) Q2
    have Q0 := step 0 (fun b => uPd c (gn c p s0 t) f n (m + 1) s cu sum (paS pa k 6) (usp c (gn c p s0 t) k (f + k) (uPd c (gn c p s0 t) f n (m + 1)) s cu sum pa 2 (usp c (gn c p s0 t) k (f + k) (uPd c (gn c p s0 t) f n (m + 1)) s cu sum pa 1 (usp c (gn c p s0 t) k (f + k) (uPd c (gn c p s0 t) f n (m + 1)) s cu sum pa 0 b)))) _ _ (by omega) (fun b h => by rcases h with h | h; omega; show uPd c (gn c p s0 t) f n (m + 1) s cu sum (paS pa k 6) (usp c (gn c p s0 t) k (f + k) (uPd c (gn c p s0 t) f n (m + 1)) s cu sum pa 2 (usp c (gn c p s0 t) k (f + k) (uPd c (gn c p s0 t) f n (m + 1)) s cu sum pa 1 (if mE c s 0 then _ else _))) = _; rw [if_pos h]; rfl) (fun b _ h => by show uPd c (gn c p s0 t) f n (m + 1) s cu sum (paS pa k 6) (usp c (gn c p s0 t) k (f + k) (uPd c (gn c p s0 t) f n (m + 1)) s cu sum pa 2 (usp c (gn c p s0 t) k (f + k) (uPd c (gn c p s0 t) f n (m + 1)) s cu sum pa 1 (if mE c s 0 then _ else b))) = _; rw [if_neg h]) Q1
    have key := Q0 0 b τ (sum : Int) (Nat.le_refl _) (fun i h1 h2 => by omega) ⟨h80, Or.inl ⟨Or.inl rfl, hC, rfl⟩⟩ hrw hbs hf hb1 hb2
    have eu : uPd c (gn c p s0 t) f n (m + 1 + 1) s cu sum pa b = uPd c (gn c p s0 t) f n (m + 1) s cu sum (paS pa k 6) (usp c (gn c p s0 t) k (f + k) (uPd c (gn c p s0 t) f n (m + 1)) s cu sum pa 2 (usp c (gn c p s0 t) k (f + k) (uPd c (gn c p s0 t) f n (m + 1)) s cu sum pa 1 (usp c (gn c p s0 t) k (f + k) (uPd c (gn c p s0 t) f n (m + 1)) s cu sum pa 0 b))) := by rw [uPd_suc, hk]
    rw [eu]
    obtain ⟨cnt, τ', d1, d2⟩ := key
    have eN : NN (m + 1 + 1) = 4 * (1 + NN (m + 1)) + 1 := rfl
    rw [hN1] at eN
    rw [eN]
    exact ⟨cnt, τ', by omega, d2⟩
end TREE
