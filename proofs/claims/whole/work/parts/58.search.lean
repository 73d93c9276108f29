theorem e_fill {F o n : Nat} {σ : sM} (a : Int) (hF : 200 ≤ F) (hn : n ≤ 192) : ∃ σ1, J7_fill_53178 F o n σ a = some (0, σ1) ∧ (∀ k, k ≠ o → σ1 k = σ k) ∧ (∀ j, j < n → σ1 o j = a) ∧ ∀ j, n ≤ j → σ1 o j = σ o j := by
  unfold J7_fill_53178
  refine lp_inv (fun i (y : sM × Int) => y.2 = (i : Int) ∧ (∀ k, k ≠ o → y.1 k = σ k) ∧ (∀ j, j < i → y.1 o j = a) ∧ ∀ j, n ≤ j → y.1 o j = σ o j) n (fun (r : Option (Int × sM)) => ∃ σ1 : sM, r = some (0, σ1) ∧ (∀ k, k ≠ o → σ1 k = σ k) ∧ (∀ j, j < n → σ1 o j = a) ∧ ∀ j, n ≤ j → σ1 o j = σ o j) (fun i y hi hI K => ?_) (fun y hI K => ?_) ⟨rfl, fun _ _ => rfl, fun j hj => absurd hj (by omega), fun _ _ => rfl⟩ (by omega)
  · obtain ⟨τ, u⟩ := y
    obtain ⟨hu, hf, hr, hr2⟩ := hI
    simp only [] at hu hf hr hr2 ⊢
    subst hu
    rw [wiN (n := n) (by omega), wiN (n := i) (by omega), if_neg (by omega), if_pos (by omega), Int.toNat_natCast]
    refine ⟨_, ⟨?_, fun k hk => ?_, fun j hj => ?_, fun j hj => ?_⟩, rfl⟩
    · simp only []; omega
    · simp only []; rw [sU_ne hk]; exact hf k hk
    · simp only []
      by_cases y : j = i
      · subst y; rw [sUv]
      · rw [sUnj y]; exact hr j (by omega)
    · simp only []; rw [sUnj (by omega)]; exact hr2 j hj
  · obtain ⟨τ, u⟩ := y
    obtain ⟨hu, hf, hr, hr2⟩ := hI
    simp only [] at hu hf hr hr2 ⊢
    subst hu
    rw [if_pos (by omega)]
    exact ⟨_, rfl, hf, hr, hr2⟩
theorem e_meanAt {τ : sM} {w cu u : Nat} (hw : w < 3) (hc : cu < 8) (hu : u < 8) : X0_meanAt τ (w : Int) (cu : Int) (u : Int) = some (τ 42 ((w * 8 + cu) * 8 + u)) := by
  unfold X0_meanAt X0_meanPlace
  rw [bp_some, show ((w : Int) * 8 + (cu : Int)) * 8 + (u : Int) = (((w * 8 + cu) * 8 + u : Nat) : Int) by push_cast; omega, wiN (n := (w * 8 + cu) * 8 + u) (by omega), if_neg (by omega), if_neg (by omega), if_pos (by omega), Int.toNat_natCast]
def MfO (Mf : Nat → Nat) (σ : sM) : Prop := (∀ u, u < 8 → Mf (u + 1) ≤ Mf u) ∧ (∀ u, Mf u ≤ 800000) ∧ ∀ u w cu n : Nat, u < 8 → w < 3 → cu ≤ u → σ 42 ((w * 8 + cu) * 8 + u) = (n : Int) → n + Mf (u + 1) ≤ Mf u
theorem e_tellMost {F : Nat} {σ : sM} (hF : 200 ≤ F) (hMn : Mn σ) : ∃ σ1 Mf, X0_tellMost F σ = some (0, σ1) ∧ (∀ k, k ≠ 43 → σ1 k = σ k) ∧ (∀ u, u ≤ 8 → σ1 43 u = (Mf u : Int)) ∧ MfO Mf σ := by
  obtain ⟨σ0, e0, f0, g0, -⟩ := e_fill (F := F) (o := 43) (n := 9) (σ := σ) 0 hF (by omega)
  unfold X0_tellMost
  rw [e0, bn_some]
  refine lp_inv (fun i (y : sM × Int) => y.2 = 7 - (i : Int) ∧ (∀ k, k ≠ 43 → y.1 k = σ k) ∧ ∃ Mf : Nat → Nat, (∀ u, 8 - i ≤ u → u ≤ 8 → y.1 43 u = (Mf u : Int)) ∧ (∀ u, 8 - i ≤ u → u < 8 → Mf (u + 1) ≤ Mf u) ∧ (∀ u, Mf u ≤ 100000 * i) ∧ ∀ u w cu n : Nat, 8 - i ≤ u → u < 8 → w < 3 → cu ≤ u → σ 42 ((w * 8 + cu) * 8 + u) = (n : Int) → n + Mf (u + 1) ≤ Mf u) 8 (fun (r : Option (Int × sM)) => ∃ (σ1 : sM) (Mf : Nat → Nat), r = some (0, σ1) ∧ (∀ k, k ≠ 43 → σ1 k = σ k) ∧ (∀ u, u ≤ 8 → σ1 43 u = (Mf u : Int)) ∧ MfO Mf σ) (fun i y hi hI K => ?_) (fun y hI K => ?_) ⟨rfl, f0, fun _ => 0, fun u h1 h2 => g0 u (by omega), fun u h1 h2 => Nat.le_refl _, fun u => Nat.zero_le _, fun u w cu n h1 h2 => by omega⟩ (by omega)
  · obtain ⟨τ, v⟩ := y
    obtain ⟨hv, hf, Mf, m1, m2, m3, m4⟩ := hI
    simp only [] at hv hf m1 ⊢
    have hv' : v = ((7 - i : Nat) : Int) := by omega
    subst hv'
    rw [if_neg (by rw [wiN (by omega)]; omega)]
    have hmt : ∀ k, k < 192 → ∃ n : Nat, τ 42 k = (n : Int) ∧ n ≤ 99000 := fun k hk => by rw [hf 42 (by omega)]; exact hMn k hk
    refine lp_inv (fun j (y : Int × Int) => y.2 = (j : Int) ∧ ∃ m : Nat, y.1 = (m : Int) ∧ m ≤ 99000 ∧ ∀ cu w n : Nat, cu < j → w < 3 → τ 42 ((w * 8 + cu) * 8 + (7 - i)) = (n : Int) → n ≤ m) (7 - i + 1) (fun (r : Option (Int × sM)) => ∃ x' : sM × Int, (x'.2 = 7 - ((i + 1 : Nat) : Int) ∧ (∀ k, k ≠ 43 → x'.1 k = σ k) ∧ ∃ Mf : Nat → Nat, (∀ u, 8 - (i + 1) ≤ u → u ≤ 8 → x'.1 43 u = (Mf u : Int)) ∧ (∀ u, 8 - (i + 1) ≤ u → u < 8 → Mf (u + 1) ≤ Mf u) ∧ (∀ u, Mf u ≤ 100000 * (i + 1)) ∧ ∀ u w cu n : Nat, 8 - (i + 1) ≤ u → u < 8 → w < 3 → cu ≤ u → σ 42 ((w * 8 + cu) * 8 + u) = (n : Int) → n + Mf (u + 1) ≤ Mf u) ∧ r = K x') (fun j y hj hJ K1 => ?_) (fun y hJ K1 => ?_) ⟨rfl, 0, rfl, by omega, fun cu w n h1 => by omega⟩ (by omega)
    · obtain ⟨mm, v⟩ := y
      obtain ⟨hv, m, hm, hml, hmb⟩ := hJ
      simp only [] at hv hm ⊢
      subst hv hm
      rw [if_neg (by rw [wiN (by omega), wiN (by omega)]; omega)]
      refine lp_inv (fun l (y : Int × Int) => y.2 = (l : Int) ∧ ∃ m : Nat, y.1 = (m : Int) ∧ m ≤ 99000 ∧ (∀ cu w n : Nat, cu < j → w < 3 → τ 42 ((w * 8 + cu) * 8 + (7 - i)) = (n : Int) → n ≤ m) ∧ ∀ w n : Nat, w < l → τ 42 ((w * 8 + j) * 8 + (7 - i)) = (n : Int) → n ≤ m) 3 (fun (r : Option (Int × sM)) => ∃ x' : Int × Int, (x'.2 = ((j + 1 : Nat) : Int) ∧ ∃ m : Nat, x'.1 = (m : Int) ∧ m ≤ 99000 ∧ ∀ cu w n : Nat, cu < j + 1 → w < 3 → τ 42 ((w * 8 + cu) * 8 + (7 - i)) = (n : Int) → n ≤ m) ∧ r = K1 x') (fun l y hl hL K2 => ?_) (fun y hL K2 => ?_) ⟨rfl, m, rfl, hml, hmb, fun w n h1 => by omega⟩ (by omega)
      · obtain ⟨mm, v⟩ := y
        obtain ⟨hv, m', hm', hml', hmb', hmw'⟩ := hL
        simp only [] at hv hm' ⊢
        subst hv hm'
        obtain ⟨e, he, hel⟩ := hmt ((l * 8 + j) * 8 + (7 - i)) (by omega)
        rw [if_neg (by rw [wiN (by omega)]; omega), e_meanAt hl (by omega) (by omega), bp_some, he, wiN (n := m') (by omega), wiN (n := e) (by omega)]
        refine ⟨_, ⟨?_, (if m' < e then e else m'), ?_, ?_, fun cu w n h1 h2 h3 => ?_, fun w n h1 h2 => ?_⟩, rfl⟩
        · simp only []; omega
        · simp only []
          by_cases y : m' < e
          · rw [if_pos (by omega), if_pos y]
          · rw [if_neg (by omega), if_neg y]
        · split <;> omega
        · have := hmb' cu w n h1 h2 h3
          split <;> omega
        · by_cases y : w = l
          · subst y
            rw [he] at h2
            split <;> omega
          · have := hmw' w n (by omega) h2
            split <;> omega
      · obtain ⟨mm, v⟩ := y
        obtain ⟨hv, m', hm', hml', hmb', hmw'⟩ := hL
        simp only [] at hv hm' ⊢
        subst hv hm'
        rw [if_pos (by decide)]
        refine ⟨_, ⟨?_, m', rfl, hml', fun cu w n h1 h2 h3 => ?_⟩, rfl⟩
        · simp only []; omega
        · by_cases y : cu = j
          · subst y; exact hmw' w n h2 h3
          · exact hmb' cu w n (by omega) h2 h3
    · obtain ⟨mm, v⟩ := y
      obtain ⟨hv, m, hm, hml, hmb⟩ := hJ
      simp only [] at hv hm ⊢
      subst hv hm
      have hb := m3 (8 - i)
      rw [if_pos (by rw [wiN (by omega), wiN (by omega)]; omega), show ((7 - i : Nat) : Int) + 1 = ((8 - i : Nat) : Int) by omega, wiN (n := 8 - i) (by omega), if_pos (by omega), wiN (n := 7 - i) (by omega), if_pos (by omega), Int.toNat_natCast, Int.toNat_natCast, m1 (8 - i) (by omega) (by omega)]
      refine ⟨_, ⟨?_, fun k hk => ?_, (fun u => if u = 7 - i then Mf (8 - i) + m else Mf u), fun u h1 h2 => ?_, fun u h1 h2 => ?_, fun u => ?_, fun u w cu n h1 h2 h3 h4 h5 => ?_⟩, rfl⟩
      · simp only []; omega
      · simp only []; rw [sU_ne hk]; exact hf k hk
      · simp only []
        by_cases y : u = 7 - i
        · subst y; rw [sUv, if_pos rfl]; omega
        · rw [sUnj y, if_neg y]; exact m1 u (by omega) h2
      · simp only []
        rw [if_neg (show ¬ u + 1 = 7 - i by omega)]
        by_cases y : u = 7 - i
        · rw [if_pos y, show u + 1 = 8 - i by omega]; omega
        · rw [if_neg y]; exact m2 u (by omega) h2
      · have := m3 u
        show (if u = 7 - i then Mf (8 - i) + m else Mf u) ≤ _
        split <;> omega
      · simp only []
        rw [if_neg (show ¬ u + 1 = 7 - i by omega)]
        by_cases y : u = 7 - i
        · rw [if_pos y, show u + 1 = 8 - i by omega]
          subst y
          have := hmb cu w n (by omega) h3 (by rw [hf 42 (by omega)]; exact h5)
          omega
        · rw [if_neg y]; exact m4 u w cu n (by omega) h2 h3 h4 h5
  · obtain ⟨τ, v⟩ := y
    obtain ⟨hv, hf, Mf, m1, m2, m3, m4⟩ := hI
    simp only [] at hv hf m1 ⊢
    subst hv
    rw [if_pos (by decide)]
    exact ⟨_, Mf, rfl, hf, fun u hu => m1 u (by omega) hu, fun u hu => m2 u (by omega) hu, fun u => by have := m3 u; omega, fun u w cu n h1 h2 h3 h4 => m4 u w cu n (by omega) h1 h2 h3 h4⟩
/-- a node of the search that may be -/
def Nd (c : cC) (s0 f u s : Nat) (cu : Nat → Nat) : Prop := ∀ w, w < cW c → po s w ≤ po s0 w ∧ (cu w = 9 ∧ po s w = cZ c w ∧ po s0 w = cZ c w ∨ cu w = 8 ∧ po s0 w < cZ c w ∨ f ≤ cu w ∧ cu w < u ∧ cu w < 8 ∧ po s w < cZ c w ∧ po s0 w = cZ c w)
theorem Nd_no {c : cC} {s0 f u s : Nat} {cu : Nat → Nat} (h : Nd c s0 f u s cu) : Nd c s0 f (u + 1) s cu := by
  intro w hw
  obtain ⟨h1, h2⟩ := h w hw
  refine ⟨h1, ?_⟩
  rcases h2 with h2 | h2 | h2
  · exact Or.inl h2
  · exact Or.inr (Or.inl h2)
  · exact Or.inr (Or.inr ⟨h2.1, by omega, h2.2.2⟩)
theorem Nd_eat {c : cC} (hc : OkC c) {s0 f u s w : Nat} {cu : Nat → Nat} (hs : s < 4096) (h : Nd c s0 f u s cu) (hm : mE c s w) (hf : f ≤ u) (hu : u < 8) : Nd c s0 f (u + 1) (bh s w) (cuE cu w u) := by
  have c3 := hc.2.1
  have hw := hm.1
  have hp := hm.2.1
  intro v hv
  obtain ⟨e1, e2⟩ := bh_E hs (k := w) (by omega) hp (w := v) (by omega)
  obtain ⟨h1, h2⟩ := Nd_no h v hv
  rw [e1]
  unfold cuE
  by_cases y : v = w
  · subst y
    rw [if_pos rfl]
    refine ⟨by omega, ?_⟩
    rcases h2 with h2 | h2 | h2
    · rw [if_pos ⟨rfl, h2.1⟩]; exact Or.inr (Or.inr ⟨hf, by omega, hu, by omega, h2.2.2⟩)
    · rw [if_neg (by omega)]; exact Or.inr (Or.inl h2)
    · rw [if_neg (by omega)]; exact Or.inr (Or.inr ⟨h2.1, h2.2.1, h2.2.2.1, by omega, h2.2.2.2.2⟩)
  · rw [if_neg y, if_neg (fun z => y z.1)]
    exact ⟨h1, h2⟩
theorem uPd_suc (c : cC) (G : Nat → Nat → Nat → Nat) (f n m s : Nat) (cu : Nat → Nat) (sum : Nat) (pa : Nat → Nat) (b : Int × (Nat → Nat)) : uPd c G f n (m + 1) s cu sum pa b = uPd c G f n m s cu sum (paS pa (n - (m + 1)) 6) (usp c G (n - (m + 1)) (f + (n - (m + 1))) (uPd c G f n m) s cu sum pa 2 (usp c G (n - (m + 1)) (f + (n - (m + 1))) (uPd c G f n m) s cu sum pa 1 (usp c G (n - (m + 1)) (f + (n - (m + 1))) (uPd c G f n m) s cu sum pa 0 b))) := rfl
theorem uP_prune {c : cC} (hc : OkC c) {G : Nat → Nat → Nat → Nat} {Mf : Nat → Nat} {s0 f n : Nat} (hn : f + n ≤ 8) (hM : ∀ u, u < 8 → Mf (u + 1) ≤ Mf u) (hG : ∀ u s cu w, f ≤ u → u < f + n → Nd c s0 f u s cu → mE c s w → G w (cuE cu w u w) u + Mf (u + 1) ≤ Mf u) (m : Nat) : ∀ (s : Nat) (cu : Nat → Nat) (sum : Nat) (pa : Nat → Nat) (b : Int × (Nat → Nat)), m ≤ n → Vs c s → Nd c s0 f (f + (n - m)) s cu → (sum : Int) + (Mf (f + (n - m)) : Int) ≤ b.1 → uPd c G f n m s cu sum pa b = b := by
  induction m with
  | zero =>
    intro s cu sum pa b hm hv hN hb
    show (if b.1 < (sum : Int) then ((sum : Int), pa) else b) = b
    rw [if_neg (by omega)]
  | succ m ih =>
    intro s cu sum pa b hm hv hN hb
    rw [uPd_suc]
    have hk : n - m = n - (m + 1) + 1 := by omega
    have hMk := hM (f + (n - (m + 1))) (by omega)
    have step : ∀ w, usp c G (n - (m + 1)) (f + (n - (m + 1))) (uPd c G f n m) s cu sum pa w b = b := by
      intro w
      unfold usp
      by_cases y : mE c s w
      · rw [if_pos y]
        have hg := hG _ s cu w (by omega) (by omega) hN y
        have hd : mD c s w := Or.inr (Or.inl ⟨by have := y.1; have := hc.2.1; omega, y⟩)
        refine ih _ _ _ _ _ (by omega) (bh_Vs hc hv hd) ?_ ?_
        · have := Nd_eat hc (hv.lt hc) hN y (by omega) (by omega)
          rw [show f + (n - m) = f + (n - (m + 1)) + 1 by omega]; exact this
        · rw [show f + (n - m) = f + (n - (m + 1)) + 1 by omega]
          omega
      · rw [if_neg y]
    rw [step 0, step 1, step 2]
    refine ih _ _ _ _ _ (by omega) hv ?_ ?_
    · have := Nd_no hN
      rw [show f + (n - m) = f + (n - (m + 1)) + 1 by omega]; exact this
    · rw [show f + (n - m) = f + (n - (m + 1)) + 1 by omega]
      omega
def encX (t v : Nat) : Int := if v = 9 then -1 else if v = 8 then (t : Int) else (v : Int)
/-- what the search may change -/
def fS (σ σ' : sM) : Prop := ∀ k j, (k ≠ 37 ∨ j ≠ 8) → k ≠ 44 → k ≠ 45 → k ≠ 46 → σ' k j = σ k j
theorem fS.refl (σ : sM) : fS σ σ := fun _ _ _ _ _ _ => rfl
theorem fS.trans {a b d : sM} (h : fS a b) (h2 : fS b d) : fS a d := fun k j e1 e2 e3 e4 => by rw [h2 k j e1 e2 e3 e4, h k j e1 e2 e3 e4]
theorem fS.row {σ σ' : sM} (h : fS σ σ') {k : Nat} (h1 : k ≠ 37 ∧ k ≠ 44 ∧ k ≠ 45 ∧ k ≠ 46) : σ' k = σ k := funext fun j => h k j (Or.inl h1.1) h1.2.1 h1.2.2.1 h1.2.2.2
/-- what stays for the search -/
def Sst (c : cC) (p s0 t f : Nat) (Mf : Nat → Nat) (σ : sM) : Prop := RelX c σ ∧ σ 37 10 = (f : Int) ∧ (∀ w, w < cW c → 0 < po s0 w → Tbw c p s0 t w σ) ∧ (∀ u, u ≤ 8 → σ 43 u = (Mf u : Int)) ∧ MfO Mf σ
theorem Sst.fr {c : cC} {p s0 t f : Nat} {Mf : Nat → Nat} {σ σ' : sM} (hc : OkC c) (h : Sst c p s0 t f Mf σ) (hf : fS σ σ') : Sst c p s0 t f Mf σ' := by
  obtain ⟨h1, h2, h3, h4, h5⟩ := h
  have e42 := hf.row (k := 42) (by omega)
  refine ⟨h1.congr hc (fun k b1 b2 => hf.row (by omega)), by rw [hf 37 10 (by omega) (by omega) (by omega) (by omega)]; exact h2, fun w hw hp => ?_, fun u hu => by rw [hf.row (k := 43) (by omega)]; exact h4 u hu, ?_⟩
  · have := h3 w hw hp
    unfold Tbw at *; rw [e42]; exact this
  · unfold MfO at *; rw [e42]; exact h5
/-- the best so far -/
def Bst (n : Nat) (b : Int × (Nat → Nat)) (σ : sM) : Prop := σ 37 8 = b.1 ∧ (b.1 = -1 ∨ ∀ i, i < n → σ 46 i = (b.2 i : Int))
theorem uPd_b {c : cC} {G : Nat → Nat → Nat → Nat} {f n : Nat} (hG : ∀ w cu u, G w cu u ≤ 99000) (m : Nat) : ∀ (s : Nat) (cu : Nat → Nat) (sum : Nat) (pa : Nat → Nat) (b : Int × (Nat → Nat)), -1 ≤ b.1 → b.1 ≤ 99000 * 10 → sum + 99000 * m ≤ 99000 * 10 → -1 ≤ (uPd c G f n m s cu sum pa b).1 ∧ (uPd c G f n m s cu sum pa b).1 ≤ 99000 * 10 := by
  induction m with
  | zero =>
    intro s cu sum pa b h1 h2 h3
    show -1 ≤ (if b.1 < (sum : Int) then ((sum : Int), pa) else b).1 ∧ (if b.1 < (sum : Int) then ((sum : Int), pa) else b).1 ≤ 99000 * 10
    by_cases y : b.1 < (sum : Int)
    · rw [if_pos y]; simp only []; omega
    · rw [if_neg y]; omega
  | succ m ih =>
    intro s cu sum pa b h1 h2 h3
    rw [uPd_suc]
    have step : ∀ w (b' : Int × (Nat → Nat)), -1 ≤ b'.1 → b'.1 ≤ 99000 * 10 → -1 ≤ (usp c G (n - (m + 1)) (f + (n - (m + 1))) (uPd c G f n m) s cu sum pa w b').1 ∧ (usp c G (n - (m + 1)) (f + (n - (m + 1))) (uPd c G f n m) s cu sum pa w b').1 ≤ 99000 * 10 := by
      intro w b' g1 g2
      unfold usp
      by_cases y : mE c s w
      · rw [if_pos y]
        have := hG w (cuE cu w (f + (n - (m + 1))) w) (f + (n - (m + 1)))
        exact ih _ _ _ _ _ g1 g2 (by omega)
      · rw [if_neg y]; exact ⟨g1, g2⟩
    have s0 := step 0 b h1 h2
    have s1 := step 1 _ s0.1 s0.2
    have s2 := step 2 _ s1.1 s1.2
    exact ih _ _ _ _ _ s2.1 s2.2 (by omega)
theorem e_tellRow {σ : sM} {f u v : Nat} (h : σ 37 10 = (f : Int)) (h1 : f ≤ u) (h2 : u < f + 8) (hu : u < 100) : X0_tellRow σ (u : Int) (v : Int) = some (0, sU σ 45 (u - f) (v : Int)) := by
  unfold X0_tellRow
  rw [h, show (u : Int) - (f : Int) = ((u - f : Nat) : Int) by omega, wiN (n := u - f) (by omega), if_neg (by omega), if_neg (by omega), if_pos (by omega), Int.toNat_natCast]
theorem enc_ok {t u w f : Nat} {cu : Nat → Nat} (ht : t < 8) (hu : u < 8) (h : cu w = 9 ∨ cu w = 8 ∨ cu w < 8) : ∃ en : Nat, encX t (cuE cu w u w) = (en : Int) ∧ en < 8 ∧ (∀ (J : Int → Option (Int × sM)), (if ¬ wi (encX t (cu w)) = -1 then J (encX t (cu w)) else J (u : Int)) = J (en : Int)) ∧ (cu w = 9 ∧ en = u ∧ cuE cu w u w = u ∨ cu w = 8 ∧ en = t ∧ cuE cu w u w = 8 ∨ cu w < 8 ∧ en = cu w ∧ cuE cu w u w = cu w) := by
  rcases h with q | q | q
  · have e : cuE cu w u w = u := by unfold cuE; rw [if_pos ⟨rfl, q⟩]
    have e2 : encX t (cu w) = -1 := by unfold encX; rw [if_pos q]
    have e3 : encX t u = (u : Int) := by unfold encX; rw [if_neg (by omega), if_neg (by omega)]
    refine ⟨u, by rw [e, e3], hu, fun J => ?_, Or.inl ⟨q, rfl, e⟩⟩
    rw [e2, if_neg (by decide)]
  · have e : cuE cu w u w = 8 := by unfold cuE; rw [if_neg (by omega), q]
    have e2 : encX t 8 = (t : Int) := by unfold encX; rw [if_neg (by decide), if_pos rfl]
    refine ⟨t, by rw [e, e2], ht, fun J => ?_, Or.inr (Or.inl ⟨q, rfl, e⟩)⟩
    rw [q, e2, if_pos (by rw [wiN (by omega)]; omega)]
  · have e : cuE cu w u w = cu w := by unfold cuE; rw [if_neg (by omega)]
    have e2 : encX t (cu w) = (cu w : Int) := by unfold encX; rw [if_neg (by omega), if_neg (by omega)]
    refine ⟨cu w, by rw [e, e2], q, fun J => ?_, Or.inr (Or.inr ⟨q, rfl, e⟩)⟩
    rw [e2, if_pos (by rw [wiN (by omega)]; omega)]
theorem e_search {c : cC} (hc : OkC c) {p s0 t f n F : Nat} {Mf : Nat → Nat} (hv0 : Vs c s0) (htf : t ≤ f) (hft : f ≤ t + 1) (hn : f + n = cK c) (hF : 200 ≤ F) (hGM : ∀ u s cu w, f ≤ u → u < f + n → Nd c s0 f u s cu → mE c s w → gn c p s0 t w (cuE cu w u w) u + Mf (u + 1) ≤ Mf u) (m : Nat) : ∀ (d s : Nat) (cu : Nat → Nat) (sum : Nat) (pa : Nat → Nat) (b : Int × (Nat → Nat)) (σ : sM), m ≤ n → m + 1 ≤ d → Vs c s → Nd c s0 f (f + (n - m)) s cu → sum + 99000 * m ≤ 99000 * 8 → -1 ≤ b.1 → b.1 ≤ 99000 * 10 → Sst c p s0 t f Mf σ → (∀ w, w < cW c → 0 < po s0 w → σ 44 w = encX t (cu w)) → (∀ i, i < n - m → σ 45 i = (pa i : Int)) → Bst n b σ → ∃ σ', SEA F d 0 σ ((f + (n - m) : Nat) : Int) (s : Int) (sum : Int) = some (0, σ') ∧ fS σ σ' ∧ σ' 44 = σ 44 ∧ (∀ i, i < n - m → σ' 45 i = σ 45 i) ∧ Bst n (uPd c (gn c p s0 t) f n m s cu sum pa b) σ' := by
  have c3 := hc.2.1
  have c5 := hc.2.2.1
  have hGb : ∀ w cu u, gn c p s0 t w cu u ≤ 99000 := fun w cu u => gn_le hc p s0 t w cu u
  induction m with
  | zero =>
    intro d s cu sum pa b σ hm hd hv hN hsum hb1 hb2 hS h44 h45 hB
    obtain ⟨d, rfl⟩ : ∃ d', d = d' + 1 := ⟨d - 1, by omega⟩
    show ∃ σ', X0_search F (SEA F d) σ ((f + (n - 0) : Nat) : Int) (s : Int) (sum : Int) = some (0, σ') ∧ _
    unfold X0_search X0_takeIfBetter
    simp only [jn_def, nm_def]
    rw [hS.1.2.2.1, hB.1, show f + (n - 0) = cK c by omega, if_neg (by rw [wiN (by omega)]; omega), if_pos (by omega), wiN (n := sum) (by omega), wi_id (z := b.1) (by omega) (by omega)]
    have e0 : uPd c (gn c p s0 t) f n 0 s cu sum pa b = if b.1 < (sum : Int) then ((sum : Int), pa) else b := rfl
    rw [e0]
    by_cases y : b.1 < (sum : Int)
    · rw [if_neg (by omega), if_pos y, bn_some]
      refine ⟨_, rfl, fun k j e1 e2 e3 e4 => ?_, ?_, fun i hi => ?_, ?_, Or.inr (fun i hi => ?_)⟩
      · rw [sUc_ne e4]
        by_cases z : k = 37
        · rw [z, sUnj (by omega)]
        · rw [sU_ne z]
      · rw [sUc_ne (by omega), sU_ne (by omega)]
      · rw [sUc_ne (by omega), sU_ne (by omega)]
      · rw [sUc_ne (by omega), sUv]
      · rw [sUc_at, if_pos (by omega), sU_ne (by omega)]; exact h45 i (by omega)
    · rw [if_pos (by omega), if_neg y, bn_some]
      exact ⟨_, rfl, fS.refl _, rfl, fun _ _ => rfl, hB⟩
  | succ m ih =>
    intro d s cu sum pa b σ hm hd hv hN hsum hb1 hb2 hS h44 h45 hB
    have hs := hv.lt hc
    obtain ⟨d, rfl⟩ : ∃ d', d = d' + 1 := ⟨d - 1, by omega⟩
    show ∃ σ', X0_search F (SEA F d) σ ((f + (n - (m + 1)) : Nat) : Int) (s : Int) (sum : Int) = some (0, σ') ∧ _
    obtain ⟨k, hk⟩ : ∃ k, n - (m + 1) = k := ⟨_, rfl⟩
    have hk1 : n - m = k + 1 := by omega
    rw [uPd_suc]
    rw [hk] at hN h45 ⊢
    obtain ⟨u, hu⟩ : ∃ u, f + k = u := ⟨_, rfl⟩
    rw [hu] at hN ⊢
    have hMf := hS.2.2.2.2.2.1 u
    unfold X0_search
    simp only [jn_def]
    rw [hS.1.2.2.1, wiN (n := u) (by omega), wiN (n := cK c) (by omega), if_neg (by omega), if_neg (by omega), if_pos (by omega), if_pos (by omega), Int.toNat_natCast, hS.2.2.2.1 u (by omega), hB.1, show (sum : Int) + (Mf u : Int) = ((sum + Mf u : Nat) : Int) by omega, wiN (n := sum + Mf u) (by omega), wi_id (z := b.1) (by omega) (by omega)]
    by_cases hpr : b.1 < ((sum + Mf u : Nat) : Int)
    · rw [if_pos hpr]
      -- the three wheels, one behind the other
      have hus : ∀ w b', usp c (gn c p s0 t) k u (uPd c (gn c p s0 t) f n m) s cu sum pa w b' = if mE c s w then uPd c (gn c p s0 t) f n m (bh s w) (cuE cu w u) (sum + gn c p s0 t w (cuE cu w u w) u) (paS pa k w) b' else b' := fun w b' => rfl
      refine lp_inv (fun w (y : sM × Int) => y.2 = (w : Int) ∧ fS σ y.1 ∧ y.1 44 = σ 44 ∧ (∀ i, i < k → y.1 45 i = σ 45 i) ∧ ∃ b', b' = (match w with | 0 => b | 1 => usp c (gn c p s0 t) k u (uPd c (gn c p s0 t) f n m) s cu sum pa 0 b | 2 => usp c (gn c p s0 t) k u (uPd c (gn c p s0 t) f n m) s cu sum pa 1 (usp c (gn c p s0 t) k u (uPd c (gn c p s0 t) f n m) s cu sum pa 0 b) | _ => usp c (gn c p s0 t) k u (uPd c (gn c p s0 t) f n m) s cu sum pa 2 (usp c (gn c p s0 t) k u (uPd c (gn c p s0 t) f n m) s cu sum pa 1 (usp c (gn c p s0 t) k u (uPd c (gn c p s0 t) f n m) s cu sum pa 0 b))) ∧ -1 ≤ b'.1 ∧ b'.1 ≤ 99000 * 10 ∧ Bst n b' y.1) 3 (fun (r : Option (Int × sM)) => ∃ σ' : sM, r = some (0, σ') ∧ fS σ σ' ∧ σ' 44 = σ 44 ∧ (∀ i, i < k → σ' 45 i = σ 45 i) ∧ Bst n (uPd c (gn c p s0 t) f n m s cu sum (paS pa k 6) (usp c (gn c p s0 t) k u (uPd c (gn c p s0 t) f n m) s cu sum pa 2 (usp c (gn c p s0 t) k u (uPd c (gn c p s0 t) f n m) s cu sum pa 1 (usp c (gn c p s0 t) k u (uPd c (gn c p s0 t) f n m) s cu sum pa 0 b)))) σ') (fun w y hw hI K => ?_) (fun y hI K => ?_) ⟨rfl, fS.refl _, rfl, fun _ _ => rfl, b, rfl, hb1, hb2, hB⟩ (by omega)
      · obtain ⟨τ, v⟩ := y
        obtain ⟨hv', hf1, h44', h45', b', hbe, hb1', hb2', hB'⟩ := hI
        simp only [] at hv' hf1 h44' h45' hB' ⊢
        subst hv'
        have hSτ := hS.fr hc hf1
        -- what this wheel makes of b'
        have goal : ∀ (o : Option (Int × sM)), (∃ τ' : sM, o = K (τ', (w : Int) + 1) ∧ fS σ τ' ∧ τ' 44 = σ 44 ∧ (∀ i, i < k → τ' 45 i = σ 45 i) ∧ Bst n (usp c (gn c p s0 t) k u (uPd c (gn c p s0 t) f n m) s cu sum pa w b') τ') → ∃ x' : sM × Int, (x'.2 = ((w + 1 : Nat) : Int) ∧ fS σ x'.1 ∧ x'.1 44 = σ 44 ∧ (∀ i, i < k → x'.1 45 i = σ 45 i) ∧ ∃ b', b' = (match w + 1 with | 0 => b | 1 => usp c (gn c p s0 t) k u (uPd c (gn c p s0 t) f n m) s cu sum pa 0 b | 2 => usp c (gn c p s0 t) k u (uPd c (gn c p s0 t) f n m) s cu sum pa 1 (usp c (gn c p s0 t) k u (uPd c (gn c p s0 t) f n m) s cu sum pa 0 b) | _ => usp c (gn c p s0 t) k u (uPd c (gn c p s0 t) f n m) s cu sum pa 2 (usp c (gn c p s0 t) k u (uPd c (gn c p s0 t) f n m) s cu sum pa 1 (usp c (gn c p s0 t) k u (uPd c (gn c p s0 t) f n m) s cu sum pa 0 b))) ∧ -1 ≤ b'.1 ∧ b'.1 ≤ 99000 * 10 ∧ Bst n b' x'.1) ∧ o = K x' := by
          rintro o ⟨τ', e1, e2, e3, e4, e5⟩
          refine ⟨(τ', (w : Int) + 1), ⟨by simp only []; omega, e2, e3, e4, usp c (gn c p s0 t) k u (uPd c (gn c p s0 t) f n m) s cu sum pa w b', ?_, ?_, ?_, e5⟩, e1⟩
          · rcases (show w = 0 ∨ w = 1 ∨ w = 2 by omega) with z | z | z
            · subst z; rw [hbe]; rfl
            · subst z; rw [hbe]; rfl
            · subst z; rw [hbe]; rfl
          · rw [hus]
            by_cases z : mE c s w
            · rw [if_pos z]
              have := hGb w (cuE cu w u w) u
              exact (uPd_b hGb m _ _ _ _ _ hb1' hb2' (by omega)).1
            · rw [if_neg z]; exact hb1'
          · rw [hus]
            by_cases z : mE c s w
            · rw [if_pos z]
              have := hGb w (cuE cu w u w) u
              exact (uPd_b hGb m _ _ _ _ _ hb1' hb2' (by omega)).2
            · rw [if_neg z]; exact hb2'
        rw [if_neg (by rw [wiN (by omega)]; omega), e_mayEat hSτ.1 hc (by omega) hs hw, bp_some, b2_if0]
        apply goal
        rw [hus]
        by_cases z : mE c s w
        · rw [if_pos z, if_pos z, wiN (n := w) (by omega), if_pos (by omega)]
          have hww := z.1
          have hNw := hN w hww
          have hp0 : 0 < po s0 w := by have := z.2.1; omega
          have hd' : mD c s w := Or.inr (Or.inl ⟨hw, z⟩)
          have h44w : τ 44 w = encX t (cu w) := by rw [h44']; exact h44 w hww hp0
          simp only [if_pos (show 0 ≤ (w : Int) ∧ (w : Int) < 3 by omega), Int.toNat_natCast]
          rw [h44w]
          -- the week of the cut
          obtain ⟨en, hen, hen2, eK, hcs⟩ := enc_ok (t := t) (u := u) (w := w) (cu := cu) (f := f) (by omega) (by omega) (show cu w = 9 ∨ cu w = 8 ∨ cu w < 8 by omega)
          -- the gain
          have hgain : τ 42 ((w * 8 + en) * 8 + u) = (gn c p s0 t w (cuE cu w u w) u : Int) := by
            have hT := hSτ.2.2.1 w hww hp0
            rcases hcs with q | q | q
            · rw [q.2.1, q.2.2]
              exact hT.2 (by omega) u u (by omega) (Nat.le_refl _) (by omega)
            · rw [q.2.1, q.2.2]
              exact hT.1 (by omega) u (by omega) (by omega)
            · rw [q.2.1, q.2.2]
              exact hT.2 (by omega) (cu w) u (by omega) (by omega) (by omega)
          have hS1 : Sst c p s0 t f Mf (sU τ 44 w (en : Int)) := hSτ.fr hc (fun k j e1 e2 e3 e4 => by rw [sU_ne e2])
          have eb := eK (fun q26 => bn (X0_tellRow (sU τ 44 w q26) (u : Int) (w : Int)) (fun r29 σ31 => bp (X1_standAfter σ31 (s : Int) (w : Int)) (fun r32 => bp (X0_meanAt σ31 (w : Int) (σ31 44 w) (u : Int)) (fun r35 => bn (SEA F d 0 σ31 ((u : Int) + 1) r32 ((sum : Int) + r35)) (fun r37 σ39 => K (sU σ39 44 w (encX t (cu w)), (w : Int) + 1))))))
          rw [eb, e_tellRow (f := f) hS1.2.1 (by omega) (by omega) (by omega), bn_some, e_standAfter (c := c) hs (by omega) (fun _ => z.2.1), bp_some, sU_ne (k' := 44) (by omega), sUv, e_meanAt hw hen2 (by omega), bp_some, sU_ne (k' := 42) (by omega), sU_ne (k' := 42) (by omega), hgain, show (u : Int) + 1 = ((f + (n - m) : Nat) : Int) by omega, show (sum : Int) + (gn c p s0 t w (cuE cu w u w) u : Int) = ((sum + gn c p s0 t w (cuE cu w u w) u : Nat) : Int) by omega]
          have hgb := hGb w (cuE cu w u w) u
          have hS2 : Sst c p s0 t f Mf (sU (sU τ 44 w (en : Int)) 45 (u - f) (w : Int)) := hS1.fr hc (fun k j e1 e2 e3 e4 => by rw [sU_ne e3])
          obtain ⟨σ', e', f', g44, g45, gB⟩ := ih d (bh s w) (cuE cu w u) (sum + gn c p s0 t w (cuE cu w u w) u) (paS pa k w) b' (sU (sU τ 44 w (en : Int)) 45 (u - f) (w : Int)) (by omega) (by omega) (bh_Vs hc hv hd') (by rw [show f + (n - m) = u + 1 by omega]; exact Nd_eat hc hs hN z (by omega) (by omega)) (by omega) hb1' hb2' hS2 (fun v hv1 hv2 => by
            rw [sU_ne (by omega)]
            by_cases y : v = w
            · subst y; rw [sUv, hen]
            · rw [sUnj y, h44', h44 v hv1 hv2]
              unfold cuE
              rw [if_neg (fun q => y q.1)]) (fun i hi => by
            unfold paS
            by_cases y : i = k
            · subst y; rw [if_pos rfl, show u - f = i by omega, sUv]
            · rw [sUnj (by omega), if_neg y, sU_ne (by omega), h45' i (by omega)]; exact h45 i (by omega)) ⟨by rw [sU_ne (by omega), sU_ne (by omega)]; exact hB'.1, by rcases hB'.2 with y | y; exact Or.inl y; exact Or.inr (fun i hi => by rw [sU_ne (by omega), sU_ne (by omega)]; exact y i hi)⟩
          rw [e', bn_some]
          refine ⟨sU σ' 44 w (encX t (cu w)), rfl, ?_, ?_, fun i hi => ?_, ?_, ?_⟩
          · intro k j e1 e2 e3 e4
            rw [sU_ne e2, f' k j e1 e2 e3 e4, sU_ne e3, sU_ne e2]
            exact hf1 k j e1 e2 e3 e4
          · funext v
            by_cases y : v = w
            · subst y; rw [sUv, ← h44w, h44']
            · rw [sUnj y, g44, sU_ne (by omega), sUnj y, h44']
          · rw [sU_ne (by omega), g45 i (by omega), sUnj (by omega), sU_ne (by omega)]; exact h45' i hi
          · rw [sU_ne (by omega)]; exact gB.1
          · rcases gB.2 with y | y
            · exact Or.inl y
            · exact Or.inr (fun i hi => by rw [sU_ne (by omega)]; exact y i hi)
        · rw [if_neg z, if_neg z]
          exact ⟨τ, rfl, hf1, h44', h45', hB'⟩
      · obtain ⟨τ, v⟩ := y
        obtain ⟨hv', hf1, h44', h45', b', hbe, hb1', hb2', hB'⟩ := hI
        simp only [] at hv' hf1 h44' h45' hbe hB' ⊢
        subst hv'
        rw [← hbe]
        have hSτ := hS.fr hc hf1
        have e6 := e_tellRow (u := u) (v := 6) hSτ.2.1 (by omega) (by omega) (by omega)
        rw [show ((6 : Nat) : Int) = 6 from rfl] at e6
        have hS2 : Sst c p s0 t f Mf (sU τ 45 (u - f) 6) := hSτ.fr hc (fun k j e1 e2 e3 e4 => by rw [sU_ne e3])
        rw [if_pos (by decide), e6, bn_some, show (u : Int) + 1 = ((f + (n - m) : Nat) : Int) by omega]
        obtain ⟨σ', e', f', g44, g45, gB⟩ := ih d s cu sum (paS pa k 6) b' (sU τ 45 (u - f) 6) (by omega) (by omega) hv (by rw [show f + (n - m) = u + 1 by omega]; exact Nd_no hN) (by omega) hb1' hb2' hS2 (fun v hv1 hv2 => by rw [sU_ne (by omega), h44']; exact h44 v hv1 hv2) (fun i hi => by
            unfold paS
            by_cases y : i = k
            · subst y; rw [if_pos rfl, show u - f = i by omega, sUv]; rfl
            · rw [sUnj (by omega), if_neg y, h45' i (by omega)]; exact h45 i (by omega)) ⟨by rw [sU_ne (by omega)]; exact hB'.1, by rcases hB'.2 with y | y; exact Or.inl y; exact Or.inr (fun i hi => by rw [sU_ne (by omega)]; exact y i hi)⟩
        rw [e', bn_some]
        refine ⟨σ', rfl, ?_, ?_, fun i hi => ?_, gB⟩
        · intro k j e1 e2 e3 e4
          rw [f' k j e1 e2 e3 e4, sU_ne e3]
          exact hf1 k j e1 e2 e3 e4
        · rw [g44, sU_ne (by omega), h44']
        · rw [g45 i (by omega), sUnj (by omega)]; exact h45' i hi
    · rw [if_neg hpr]
      have hpr' := uP_prune hc (G := gn c p s0 t) (Mf := Mf) (s0 := s0) (f := f) (n := n) (by omega) hS.2.2.2.2.1 hGM (m + 1) s cu sum pa b hm hv (by rw [hk, hu]; exact hN) (by rw [hk, hu]; omega)
      rw [uPd_suc, hk, hu] at hpr'
      rw [hpr']
      exact ⟨_, rfl, fS.refl _, rfl, fun _ _ => rfl, hB⟩
