theorem e_becomeLike {F : Nat} {d : cC} {σ : sM} (hF : 500 ≤ F) (hc : OkC d) (hy : RelY d σ) : ∃ σ1, X1_becomeLike F σ = some (0, σ1) ∧ RelX d σ1 ∧ ∀ k, k < 2 ∨ 12 ≤ k → σ1 k = σ k := by
  obtain ⟨y1, y2, y3, y4, y5, y6, y7, y8⟩ := hy
  have c1 : d 0 0 ≤ 4 := hc.1
  have c2 : d 0 1 ≤ 3 := hc.2.1
  unfold X1_becomeLike
  refine lp_inv (fun i (x : sM × Int) => x.2 = (i : Int) ∧ (∀ k, k < 4 ∨ 8 ≤ k → x.1 k = σ k) ∧ ∀ i', i' < i → ∀ k, k < 14 → x.1 (4 + i') k = σ (14 + i') k) 4 (fun (o : Option (Int × sM)) => ∃ σ1 : sM, o = some (0, σ1) ∧ RelX d σ1 ∧ ∀ k, k < 2 ∨ 12 ≤ k → σ1 k = σ k) (fun i x hi hI K => ?_) (fun x hI K => ?_) ⟨rfl, fun _ _ => rfl, fun i' hi' => absurd hi' (by omega)⟩ (by omega)
  · obtain ⟨x, v⟩ := x
    obtain ⟨hv, h1, h2⟩ := hI
    simp only [] at hv h1 h2 ⊢
    subst hv
    rw [if_neg (by rw [wiN (by omega)]; omega), wiN (n := i) (by omega), if_pos (by omega), if_pos (by omega), Int.toNat_natCast, nm_def]
    refine ⟨_, ⟨rfl, fun k hk => ?_, fun i' hi' k hk => ?_⟩, rfl⟩
    · simp only []; rw [sUc_ne (by omega)]; exact h1 k hk
    · simp only []
      by_cases w : i' = i
      · subst w; rw [sUc_at, if_pos hk, h1 _ (by omega)]
      · rw [sUc_ne (by omega)]; exact h2 i' (by omega) k hk
  · obtain ⟨x, v⟩ := x
    obtain ⟨hv, h1, h2⟩ := hI
    simp only [] at hv h1 h2 ⊢
    subst hv
    rw [if_pos (show 4 ≤ wi ((4 : Nat) : Int) by decide)]
    simp only [nm_def]
    refine ⟨_, rfl, ⟨?_, ?_, ?_, ?_, fun w hw => ?_, fun w hw => ?_, fun t ht => ⟨?_, ?_⟩, fun i hi k hk => ?_⟩, fun k hk => ?_⟩
    · rw [sUnj (by omega), sUnj (by omega), sUnj (by omega), sUv, sUc_ne (by omega), sUc_ne (by omega), sUc_ne (by omega), sUc_ne (by omega), h1 12 (by omega)]; exact y1
    · rw [sUnj (by omega), sUnj (by omega), sUv, sU_ne (by omega), sUc_ne (by omega), sUc_ne (by omega), sUc_ne (by omega), sUc_ne (by omega), h1 12 (by omega)]; exact y2
    · rw [sUnj (by omega), sUv, sU_ne (by omega), sU_ne (by omega), sUc_ne (by omega), sUc_ne (by omega), sUc_ne (by omega), sUc_ne (by omega), h1 12 (by omega)]; exact y3
    · rw [sUv, sU_ne (by omega), sU_ne (by omega), sU_ne (by omega), sUc_ne (by omega), sUc_ne (by omega), sUc_ne (by omega), sUc_ne (by omega), h1 12 (by omega)]; exact y4
    · rw [sU_ne (by omega), sU_ne (by omega), sU_ne (by omega), sU_ne (by omega), sUc_ne (by omega), sUc_ne (by omega), sUc_at, if_pos hw, sUc_ne (by omega), h1 19 (by omega)]; exact y5 w hw
    · have hw' : w < d 0 1 := hw
      rw [sU_ne (by omega), sU_ne (by omega), sU_ne (by omega), sU_ne (by omega), sUc_ne (by omega), sUc_ne (by omega), sUc_ne (by omega), sUc_at, if_pos (by omega), h1 18 (by omega)]; exact y6 w hw
    · rw [sU_ne (by omega), sU_ne (by omega), sU_ne (by omega), sU_ne (by omega), sUc_ne (by omega), sUc_at, if_pos ht, sUc_ne (by omega), sUc_ne (by omega), h1 20 (by omega)]; exact (y7 t ht).1
    · rw [sU_ne (by omega), sU_ne (by omega), sU_ne (by omega), sU_ne (by omega), sUc_at, if_pos ht, sUc_ne (by omega), sUc_ne (by omega), sUc_ne (by omega), h1 21 (by omega)]; exact (y7 t ht).2
    · have hi' : i < d 0 0 := hi
      rw [sU_ne (by omega), sU_ne (by omega), sU_ne (by omega), sU_ne (by omega), sUc_ne (by omega), sUc_ne (by omega), sUc_ne (by omega), sUc_ne (by omega), h2 i (by omega) k hk]; exact y8 i hi k hk
    · rw [sU_ne (by omega), sU_ne (by omega), sU_ne (by omega), sU_ne (by omega), sUc_ne (by omega), sUc_ne (by omega), sUc_ne (by omega), sUc_ne (by omega), h1 k (by omega)]
theorem or_st : ∀ a, a < 4 → ∀ b, b < 4 → ∀ d, d < 4 → q_or (q_or (q_or 0 (((4 * 0 + a) * 16 ^ 0 : Nat) : Int)) (((4 * 0 + b) * 16 ^ 1 : Nat) : Int)) (((4 * 0 + d) * 16 ^ 2 : Nat) : Int) = ((en a 0 b 0 d 0 : Nat) : Int) := by decide +kernel
theorem cZ_lt {c : cC} (hc : OkC c) (w : Nat) : cZ c w < 4 := by
  by_cases q : w < cW c
  · have := (hc.2.2.2.2.1 w q).2.2; omega
  · have := hc.2.2.2.2.2.1 w (by omega); omega
theorem e_startStand {F : Nat} {c : cC} {σ : sM} (hF : 10 ≤ F) (hc : OkC c) (h : RelX c σ) : X1_startStand F σ = some ((en (cZ c 0) 0 (cZ c 1) 0 (cZ c 2) 0 : Nat) : Int) := by
  have z0 := cZ_lt hc 0
  have z1 := cZ_lt hc 1
  have z2 := cZ_lt hc 2
  have pf : ∀ w : Nat, w < 3 → X1_portionsAtFirst σ (w : Int) = some (cZ c w : Int) := fun w hw => by
    unfold X1_portionsAtFirst
    rw [wiN (by omega), if_neg (by omega), if_neg (by omega), if_pos (by omega), Int.toNat_natCast, h.2.2.2.2.1 w hw]
  have fe : ∀ w : Nat, w < 3 → X8_field σ (w : Int) 0 (cZ c w : Int) = some (((4 * 0 + cZ c w) * 16 ^ w : Nat) : Int) := fun w hw => by
    have := e_field σ (a := 0) (b := cZ c w) hw (by omega) (cZ_lt hc w)
    rw [show ((0 : Nat) : Int) = 0 from rfl] at this
    exact this
  obtain ⟨F, rfl⟩ : ∃ f, F = f + 4 := ⟨F - 4, by omega⟩
  unfold X1_startStand
  rw [lp_succ]
  simp only []
  rw [if_neg (by decide), show (0 : Int) = ((0 : Nat) : Int) from rfl, pf 0 (by omega), bp_some, show ((0 : Nat) : Int) = 0 from rfl]
  have f0 := fe 0 (by omega)
  rw [show ((0 : Nat) : Int) = 0 from rfl] at f0
  rw [f0, bp_some, lp_succ]
  simp only []
  have f1 := fe 1 (by omega)
  have p1 := pf 1 (by omega)
  rw [show ((1 : Nat) : Int) = 0 + 1 from rfl] at f1 p1
  rw [if_neg (by decide), p1, bp_some, f1, bp_some, lp_succ]
  simp only []
  have f2 := fe 2 (by omega)
  have p2 := pf 2 (by omega)
  rw [show ((2 : Nat) : Int) = 0 + 1 + 1 from rfl] at f2 p2
  rw [if_neg (by decide), p2, bp_some, f2, bp_some, lp_succ]
  simp only []
  rw [if_pos (by decide), or_st _ z0 _ z1 _ z2]
theorem f_begin {F : Nat} {σ : sM} (hF : 10 ≤ F) : ∃ x, X9_begin F σ = some (0, x) ∧ (∀ k, k < 66 ∨ k = 70 ∨ 74 ≤ k → x k = σ k) ∧ x 66 0 = 0 ∧ x 67 0 = 0 ∧ x 68 0 = 0 ∧ x 69 0 = 0 ∧ ∀ w, w < 3 → x 71 w = 0 ∧ x 72 w = σ 63 w ∧ x 73 w = 0 := by
  unfold X9_begin
  refine lp_inv (fun i (x : sM × Int) => x.2 = (i : Int) ∧ (∀ k, k < 66 ∨ k = 70 ∨ 74 ≤ k → x.1 k = σ k) ∧ x.1 66 0 = 0 ∧ x.1 67 0 = 0 ∧ x.1 68 0 = 0 ∧ x.1 69 0 = 0 ∧ ∀ w, w < i → x.1 71 w = 0 ∧ x.1 72 w = σ 63 w ∧ x.1 73 w = 0) 3 (fun (o : Option (Int × sM)) => ∃ x : sM, o = some (0, x) ∧ (∀ k, k < 66 ∨ k = 70 ∨ 74 ≤ k → x k = σ k) ∧ x 66 0 = 0 ∧ x 67 0 = 0 ∧ x 68 0 = 0 ∧ x 69 0 = 0 ∧ ∀ w, w < 3 → x 71 w = 0 ∧ x 72 w = σ 63 w ∧ x 73 w = 0) (fun i x hi hI K => ?_) (fun x hI K => ?_) ⟨rfl, fun k hk => ?_, ?_, ?_, ?_, ?_, fun i' hi' => absurd hi' (by omega)⟩ (by omega)
  · obtain ⟨x, v⟩ := x
    obtain ⟨hv, h1, h2, h3, h4, h5, h6⟩ := hI
    simp only [] at hv h1 h2 h3 h4 h5 h6 ⊢
    subst hv
    rw [if_neg (by rw [wiN (by omega)]; omega), wiN (n := i) (by omega), if_pos (by omega), if_pos (by omega), if_pos (by omega), nm_def, if_pos (by omega), Int.toNat_natCast]
    refine ⟨_, ⟨rfl, fun k hk => ?_, ?_, ?_, ?_, ?_, fun w hw => ?_⟩, rfl⟩
    · simp only []; rw [sU_ne (by omega), sU_ne (by omega), sU_ne (by omega)]; exact h1 k hk
    · simp only []; rw [sU_ne (by omega), sU_ne (by omega), sU_ne (by omega)]; exact h2
    · simp only []; rw [sU_ne (by omega), sU_ne (by omega), sU_ne (by omega)]; exact h3
    · simp only []; rw [sU_ne (by omega), sU_ne (by omega), sU_ne (by omega)]; exact h4
    · simp only []; rw [sU_ne (by omega), sU_ne (by omega), sU_ne (by omega)]; exact h5
    · simp only []
      by_cases y : w = i
      · subst y
        refine ⟨?_, ?_, ?_⟩
        · rw [sU_ne (by omega), sU_ne (by omega), sUv]
        · rw [sU_ne (by omega), sUv, sU_ne (by omega), h1 63 (by omega)]
        · rw [sUv]; exact q_z01.1
      · rw [sU_ne (k' := 71) (by omega), sU_ne (k' := 71) (by omega), sUnj (k' := 71) y, sU_ne (k' := 72) (by omega), sUnj (k' := 72) y, sU_ne (k' := 72) (by omega), sUnj (k' := 73) y, sU_ne (k' := 73) (by omega), sU_ne (k' := 73) (by omega)]
        exact h6 w (by omega)
  · obtain ⟨x, v⟩ := x
    obtain ⟨hv, h1, h2, h3, h4, h5, h6⟩ := hI
    simp only [] at hv h1 h2 h3 h4 h5 h6 ⊢
    subst hv
    rw [if_pos (show 3 ≤ wi ((3 : Nat) : Int) by decide)]
    exact ⟨x, rfl, h1, h2, h3, h4, h5, h6⟩
  · simp only []; rw [sU_ne (by omega), sU_ne (by omega), sU_ne (by omega), sU_ne (by omega)]
  · simp only []; rw [sU_ne (by omega), sU_ne (by omega), sU_ne (by omega), sUv]
  · simp only []; rw [sU_ne (by omega), sU_ne (by omega), sUv]; exact q_z01.1
  · simp only []; rw [sU_ne (by omega), sUv]
  · simp only []; rw [sUv]
/-- after a good text the reference holds it -/
def RfE (d : cC) (τ x : sM) : Prop := RelM d x ∧ x 66 0 = 0 ∧ x 67 0 = 0 ∧ x 68 0 = 0 ∧ x 69 0 = 0 ∧ (∀ w, w < cW d → x 71 w = 0 ∧ x 72 w = (cZ d w : Int) ∧ x 73 w = 0) ∧ x 74 0 = 0 ∧ x 74 1 = 0 ∧ x 55 36 = 0 ∧ (∀ i, i < 4 → x 85 i = ((if i = 0 then 1 else 0 : Nat) : Int)) ∧ x 55 2 = 0 ∧ x 55 0 = τ 55 0 ∧ x 70 = τ 70 ∧ ∀ k, k < 55 ∨ 86 ≤ k → x k = τ k
theorem f_rfC {F : Nat} {d : cC} {τ : sM} (it : Int) (hF : 500 ≤ F) (hc : OkC d) (h : RelN d τ) : ∃ x, rfC F (τ, it) = some (it, x) ∧ RfE d τ x := by
  obtain ⟨n1, n2, n3, n4, n5, n6, n7⟩ := h
  have c1 : d 0 0 ≤ 4 := hc.1
  have c2 : d 0 1 ≤ 3 := hc.2.1
  unfold rfC
  rw [nm_def]
  simp only []
  generalize hy0 : sU (sU (sU (sU τ 57 0 (τ 57 1)) 58 0 ((sU τ 57 0 (τ 57 1)) 58 1)) 59 0 ((sU (sU τ 57 0 (τ 57 1)) 58 0 ((sU τ 57 0 (τ 57 1)) 58 1)) 59 1)) 60 0 ((sU (sU (sU τ 57 0 (τ 57 1)) 58 0 ((sU τ 57 0 (τ 57 1)) 58 1)) 59 0 ((sU (sU τ 57 0 (τ 57 1)) 58 0 ((sU τ 57 0 (τ 57 1)) 58 1)) 59 1)) 60 1) = y0
  have a1 : y0 57 0 = (d 0 0 : Int) := by rw [← hy0, sU_ne (by omega), sU_ne (by omega), sU_ne (by omega), sUv]; exact n1
  have a2 : y0 58 0 = (d 0 1 : Int) := by rw [← hy0, sU_ne (by omega), sU_ne (by omega), sUv, sU_ne (by omega)]; exact n2
  have a3 : y0 59 0 = (d 0 2 : Int) := by rw [← hy0, sU_ne (by omega), sUv, sU_ne (by omega), sU_ne (by omega)]; exact n3
  have a4 : y0 60 0 = (d 0 3 : Int) := by rw [← hy0, sUv, sU_ne (by omega), sU_ne (by omega), sU_ne (by omega)]; exact n4
  have a5 : ∀ k, k < 57 ∨ 60 < k → y0 k = τ k := fun k hk => by rw [← hy0, sU_ne (by omega), sU_ne (by omega), sU_ne (by omega), sU_ne (by omega)]
  clear hy0
  refine lp_inv (fun i (x : sM × Int) => x.2 = (i : Int) ∧ (∀ k, k ≠ 61 → x.1 k = y0 k) ∧ (∀ j, 56 ≤ j → x.1 61 j = y0 61 j) ∧ ∀ j, j < i → x.1 61 j = y0 61 (56 + j)) 56 (fun (o : Option (Int × sM)) => ∃ x : sM, o = some (it, x) ∧ RfE d τ x) (fun i x hi hI K => ?_) (fun x hI K => ?_) ⟨rfl, fun _ _ => rfl, fun _ _ => rfl, fun i' hi' => absurd hi' (by omega)⟩ (by omega)
  · obtain ⟨x, v⟩ := x
    obtain ⟨hv, h1, h2, h3⟩ := hI
    simp only [] at hv h1 h2 h3 ⊢
    subst hv
    rw [if_neg (by rw [wiN (by omega)]; omega), show (56 : Int) + (i : Int) = ((56 + i : Nat) : Int) by omega, wiN (n := 56 + i) (by omega), wiN (n := i) (by omega), if_pos (by omega), if_pos (by omega), Int.toNat_natCast, Int.toNat_natCast]
    refine ⟨_, ⟨rfl, fun k hk => ?_, fun j hj => ?_, fun j hj => ?_⟩, rfl⟩
    · simp only []; rw [sU_ne hk]; exact h1 k hk
    · simp only []; rw [sUnj (by omega)]; exact h2 j hj
    · simp only []
      by_cases w : j = i
      · subst w; rw [sUv]; exact h2 _ (by omega)
      · rw [sUnj w]; exact h3 j (by omega)
  obtain ⟨y1, v⟩ := x
  obtain ⟨hv, p1, -, p3⟩ := hI
  simp only [] at hv p1 p3 ⊢
  subst hv
  rw [if_pos (show 56 ≤ wi ((56 : Nat) : Int) by decide)]
  refine lp_inv (fun i (x : sM × Int) => x.2 = (i : Int) ∧ (∀ k, k ≠ 62 → k ≠ 63 → x.1 k = y1 k) ∧ (∀ j, 3 ≤ j → x.1 62 j = y1 62 j ∧ x.1 63 j = y1 63 j) ∧ ∀ j, j < i → x.1 62 j = y1 62 (3 + j) ∧ x.1 63 j = y1 63 (3 + j)) 3 (fun (o : Option (Int × sM)) => ∃ x : sM, o = some (it, x) ∧ RfE d τ x) (fun i x hi hI K => ?_) (fun x hI K => ?_) ⟨rfl, fun _ _ _ => rfl, fun _ _ => ⟨rfl, rfl⟩, fun i' hi' => absurd hi' (by omega)⟩ (by omega)
  · obtain ⟨x, v⟩ := x
    obtain ⟨hv, h1, h2, h3⟩ := hI
    simp only [] at hv h1 h2 h3 ⊢
    subst hv
    rw [if_neg (by rw [wiN (by omega)]; omega), show (3 : Int) + (i : Int) = ((3 + i : Nat) : Int) by omega, wiN (n := 3 + i) (by omega), wiN (n := i) (by omega), if_pos (by omega), if_pos (by omega), if_pos (by omega), if_pos (by omega), Int.toNat_natCast, Int.toNat_natCast, nm_def]
    refine ⟨_, ⟨rfl, fun k hk1 hk2 => ?_, fun j hj => ?_, fun j hj => ?_⟩, rfl⟩
    · simp only []; rw [sU_ne hk2, sU_ne hk1]; exact h1 k hk1 hk2
    · simp only []; rw [sU_ne (by omega), sUnj (by omega), sUnj (by omega), sU_ne (by omega)]; exact h2 j hj
    · simp only []
      by_cases w : j = i
      · subst w; rw [sU_ne (by omega), sUv, sUv, sU_ne (by omega)]; exact h2 _ (by omega)
      · rw [sU_ne (by omega), sUnj w, sUnj w, sU_ne (by omega)]; exact h3 j (by omega)
  obtain ⟨y2, v⟩ := x
  obtain ⟨hv, r1, -, r3⟩ := hI
  simp only [] at hv r1 r3 ⊢
  subst hv
  rw [if_pos (show 3 ≤ wi ((3 : Nat) : Int) by decide)]
  refine lp_inv (fun i (x : sM × Int) => x.2 = (i : Int) ∧ (∀ k, k ≠ 64 → k ≠ 65 → x.1 k = y2 k) ∧ (∀ j, 8 ≤ j → x.1 64 j = y2 64 j ∧ x.1 65 j = y2 65 j) ∧ ∀ j, j < i → x.1 64 j = y2 64 (8 + j) ∧ x.1 65 j = y2 65 (8 + j)) 8 (fun (o : Option (Int × sM)) => ∃ x : sM, o = some (it, x) ∧ RfE d τ x) (fun i x hi hI K => ?_) (fun x hI K => ?_) ⟨rfl, fun _ _ _ => rfl, fun _ _ => ⟨rfl, rfl⟩, fun i' hi' => absurd hi' (by omega)⟩ (by omega)
  · obtain ⟨x, v⟩ := x
    obtain ⟨hv, h1, h2, h3⟩ := hI
    simp only [] at hv h1 h2 h3 ⊢
    subst hv
    rw [if_neg (by rw [wiN (by omega)]; omega), show (8 : Int) + (i : Int) = ((8 + i : Nat) : Int) by omega, wiN (n := 8 + i) (by omega), wiN (n := i) (by omega), if_pos (by omega), if_pos (by omega), if_pos (by omega), if_pos (by omega), Int.toNat_natCast, Int.toNat_natCast, nm_def]
    refine ⟨_, ⟨rfl, fun k hk1 hk2 => ?_, fun j hj => ?_, fun j hj => ?_⟩, rfl⟩
    · simp only []; rw [sU_ne hk2, sU_ne hk1]; exact h1 k hk1 hk2
    · simp only []; rw [sU_ne (by omega), sUnj (by omega), sUnj (by omega), sU_ne (by omega)]; exact h2 j hj
    · simp only []
      by_cases w : j = i
      · subst w; rw [sU_ne (by omega), sUv, sUv, sU_ne (by omega)]; exact h2 _ (by omega)
      · rw [sU_ne (by omega), sUnj w, sUnj w, sU_ne (by omega)]; exact h3 j (by omega)
  obtain ⟨y3, v⟩ := x
  obtain ⟨hv, s1, -, s3⟩ := hI
  simp only [] at hv s1 s3 ⊢
  subst hv
  rw [if_pos (show 8 ≤ wi ((8 : Nat) : Int) by decide)]
  obtain ⟨y4, e4, u1, u2, u3, u4, u5, u6⟩ := f_begin (F := F) (σ := y3) (by omega)
  obtain ⟨y5, e5, w1, w2, w3, w4⟩ := f_think (F := F) (σ := sU (sU y4 74 0 (q_z 0)) 74 1 (q_z 0)) 0 (by omega)
  rw [e4, bn_some, e5, bn_some]
  have k5 : ∀ k, k ≠ 85 → k ≠ 55 → k ≠ 74 → (sU y5 55 2 0) k = y4 k := fun k q1 q2 q3 => by rw [sU_ne q2, w1 k q1 q2, sU_ne q3, sU_ne q3]
  have k3 : ∀ k, k < 66 ∧ k ≠ 55 → (sU y5 55 2 0) k = y3 k := fun k hk => by rw [k5 k (by omega) (by omega) (by omega), u1 k (by omega)]
  have z62 : ∀ w, w < cW d → y3 62 w = (cO d w : Int) ∧ y3 63 w = (cZ d w : Int) := fun w hw => by
    have hw' : w < d 0 1 := hw
    rw [s1 62 (by omega) (by omega), s1 63 (by omega) (by omega), (r3 w (by omega)).1, (r3 w (by omega)).2, p1 62 (by omega), p1 63 (by omega), a5 62 (by omega), a5 63 (by omega)]
    exact n5 w hw
  refine ⟨_, rfl, ⟨?_, ?_, ?_, ?_, fun w hw => ?_, fun t ht => ?_, fun i hi k hk => ?_⟩, ?_, ?_, ?_, ?_, fun w hw => ?_, ?_, ?_, ?_, fun i hi => ?_, sUv, ?_, ?_, fun k hk => ?_⟩
  · rw [k3 57 (by omega), s1 57 (by omega) (by omega), r1 57 (by omega) (by omega), p1 57 (by omega)]; exact a1
  · rw [k3 58 (by omega), s1 58 (by omega) (by omega), r1 58 (by omega) (by omega), p1 58 (by omega)]; exact a2
  · rw [k3 59 (by omega), s1 59 (by omega) (by omega), r1 59 (by omega) (by omega), p1 59 (by omega)]; exact a3
  · rw [k3 60 (by omega), s1 60 (by omega) (by omega), r1 60 (by omega) (by omega), p1 60 (by omega)]; exact a4
  · rw [k3 62 (by omega), k3 63 (by omega)]; exact z62 w hw
  · rw [k3 64 (by omega), k3 65 (by omega), (s3 t ht).1, (s3 t ht).2, r1 64 (by omega) (by omega), r1 65 (by omega) (by omega), p1 64 (by omega), p1 65 (by omega), a5 64 (by omega), a5 65 (by omega)]; exact n6 t ht
  · have hi' : i < d 0 0 := hi
    rw [k3 61 (by omega), s1 61 (by omega) (by omega), r1 61 (by omega) (by omega), p3 (14 * i + k) (by omega), a5 61 (by omega), show 56 + (14 * i + k) = 56 + 14 * i + k by omega]
    exact n7 i hi k hk
  · rw [k5 66 (by omega) (by omega) (by omega)]; exact u2
  · rw [k5 67 (by omega) (by omega) (by omega)]; exact u3
  · rw [k5 68 (by omega) (by omega) (by omega)]; exact u4
  · rw [k5 69 (by omega) (by omega) (by omega)]; exact u5
  · have hw' : w < d 0 1 := hw
    obtain ⟨t1, t2, t3⟩ := u6 w (by omega)
    rw [k5 71 (by omega) (by omega) (by omega), k5 72 (by omega) (by omega) (by omega), k5 73 (by omega) (by omega) (by omega), t2, (z62 w hw).2]
    exact ⟨t1, rfl, t3⟩
  · rw [sU_ne (by omega), w1 74 (by omega) (by omega), sUnj (by omega), sUv]; exact q_z01.1
  · rw [sU_ne (by omega), w1 74 (by omega) (by omega), sUv]; exact q_z01.1
  · rw [sUnj (by omega)]; exact w3
  · rw [sU_ne (by omega)]; exact w4 i hi
  · rw [sUnj (by omega), w2 0 (by omega), sU_ne (by omega), sU_ne (by omega), u1 55 (by omega), s1 55 (by omega) (by omega), r1 55 (by omega) (by omega), p1 55 (by omega), a5 55 (by omega)]
  · rw [k5 70 (by omega) (by omega) (by omega), u1 70 (by omega), s1 70 (by omega) (by omega), r1 70 (by omega) (by omega), p1 70 (by omega), a5 70 (by omega)]
  · rw [k5 k (by omega) (by omega) (by omega), u1 k (by omega), s1 k (by omega) (by omega), r1 k (by omega) (by omega), p1 k (by omega), a5 k (by omega)]
