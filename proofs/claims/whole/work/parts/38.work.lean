def okS (c : cC) (s : Nat) : Nat → Nat
  | 0 => 1
  | i + 1 => if okS c s i = 1 ∧ po s i ≤ cZ c i then 1 else 0
theorem okS_01 (c : cC) (s n : Nat) : okS c s n = 0 ∨ okS c s n = 1 := by
  cases n with
  | zero => exact Or.inr rfl
  | succ n =>
    show (if okS c s n = 1 ∧ po s n ≤ cZ c n then 1 else 0) = 0 ∨ (if okS c s n = 1 ∧ po s n ≤ cZ c n then 1 else 0) = 1
    split
    · exact Or.inr rfl
    · exact Or.inl rfl
theorem okS_iff (c : cC) (s n : Nat) : okS c s n = 1 ↔ ∀ w, w < n → po s w ≤ cZ c w := by
  induction n with
  | zero => exact ⟨fun _ w hw => absurd hw (by omega), fun _ => rfl⟩
  | succ n ih =>
    have e : okS c s (n + 1) = if okS c s n = 1 ∧ po s n ≤ cZ c n then 1 else 0 := rfl
    rw [e]
    constructor
    · intro h w hw
      by_cases q : okS c s n = 1 ∧ po s n ≤ cZ c n
      · by_cases q2 : w = n
        · rw [q2]; exact q.2
        · exact (ih.1 q.1) w (by omega)
      · rw [if_neg q] at h; omega
    · intro h
      rw [if_pos ⟨ih.2 (fun w hw => h w (by omega)), h n (by omega)⟩]
theorem f_isState {c : cC} {σ : sM} {F : Nat} (h : RelM c σ) (hc : OkC c) (hF : 10 ≤ F) {s : Nat} (hs : s < 16 ^ cW c) : X9_isState F σ (s : Int) = some (okS c s 3 : Int) := by
  have h4 := hc.2.1
  have hs2 : s < 4096 := by
    have : 16 ^ cW c ≤ 16 ^ 3 := Nat.pow_le_pow_right (by decide) h4
    omega
  unfold X9_isState
  refine lp_run (fun i => (((okS c s i : Nat) : Int), ((i : Nat) : Int))) 3 (fun w hw K => ?_) (fun K => ?_) (by omega)
  · simp only [jn_def]
    have h01 := okS_01 c s w
    have e1 : ((w + 1 : Nat) : Int) = (w : Int) + 1 := by omega
    have e : okS c s (w + 1) = if okS c s w = 1 ∧ po s w ≤ cZ c w then 1 else 0 := rfl
    have hp := po_lt s w
    have hz := cZ_le hc w
    rw [e1, e]
    simp (disch := omega) only [b2_if0, b2_ifn, b2_if1, jn_def, nm_def, bp_some, bn_some, wiZ, wlZ, wiD, if_pos, if_neg, if_true, if_false, not_true_eq_false, not_false_eq_true, Int.toNat_natCast, f_codeOf, f_isWheelN h hc]
    by_cases q0 : okS c s w = 0
    · simp (disch := omega) only [b2_if0, b2_ifn, b2_if1, jn_def, nm_def, bp_some, bn_some, wiZ, wlZ, wiD, if_pos, if_neg, if_true, if_false, not_true_eq_false, not_false_eq_true, Int.toNat_natCast]; rfl
    · by_cases q : w < cW c
      · simp (disch := omega) only [b2_if0, b2_ifn, b2_if1, jn_def, nm_def, bp_some, bn_some, wiZ, wlZ, wiD, if_pos, if_neg, if_true, if_false, not_true_eq_false, not_false_eq_true, Int.toNat_natCast, cd_and]
        rw [(h.2.2.2.2.1 w q).2]
        simp (disch := omega) only [b2_if0, b2_ifn, b2_if1, jn_def, nm_def, bp_some, bn_some, wiZ, wlZ, wiD, if_pos, if_neg, if_true, if_false, not_true_eq_false, not_false_eq_true, Int.toNat_natCast]
        by_cases q2 : po s w ≤ cZ c w
        · simp (disch := omega) only [b2_if0, b2_ifn, b2_if1, jn_def, nm_def, bp_some, bn_some, wiZ, wlZ, wiD, if_pos, if_neg, if_true, if_false, not_true_eq_false, not_false_eq_true, Int.toNat_natCast]; rfl
        · simp (disch := omega) only [b2_if0, b2_ifn, b2_if1, jn_def, nm_def, bp_some, bn_some, wiZ, wlZ, wiD, if_pos, if_neg, if_true, if_false, not_true_eq_false, not_false_eq_true, Int.toNat_natCast]; rfl
      · have hd : s / 16 ^ w = 0 := by
          have : 16 ^ cW c ≤ 16 ^ w := Nat.pow_le_pow_right (by decide) (by omega)
          exact Nat.div_eq_of_lt (by omega)
        have hp0 : po s w = 0 := by unfold po; rw [hd]
        have hc0 : cd s w = 0 := by unfold cd; rw [hd]
        simp (disch := omega) only [b2_if0, b2_ifn, b2_if1, jn_def, nm_def, bp_some, bn_some, wiZ, wlZ, wiD, if_pos, if_neg, if_true, if_false, not_true_eq_false, not_false_eq_true, Int.toNat_natCast]; rfl
  · have h01 := okS_01 c s 3
    show (if 3 ≤ wi ((3 : Nat) : Int) then _ else _) = _
    rw [if_pos (by decide), wiN (by omega), if_pos (by omega)]
theorem okS_Vs {c : cC} {s : Nat} (hs : s < 16 ^ cW c) : okS c s 3 = 1 ↔ Vs c s := by
  rw [okS_iff]
  exact ⟨fun h => ⟨hs, h⟩, fun h => h.2⟩
def pT (s : Nat) : Nat → Nat
  | 0 => 0
  | i + 1 => pT s i + po s i
theorem pT_Vs {c : cC} (hc : OkC c) {s : Nat} (hv : Vs c s) : pT s (cW c) = po s 0 + po s 1 + po s 2 := by
  have h4 := hc.2.1
  have h3 : pT s 3 = po s 0 + po s 1 + po s 2 := by show 0 + po s 0 + po s 1 + po s 2 = _; omega
  rw [← h3]
  rcases (show cW c = 0 ∨ cW c = 1 ∨ cW c = 2 ∨ cW c = 3 by omega) with q | q | q | q
  · have := po_hi hc hv (w := 0) (by omega)
    have := po_hi hc hv (w := 1) (by omega)
    have := po_hi hc hv (w := 2) (by omega)
    rw [q, h3]; show 0 = _; omega
  · have := po_hi hc hv (w := 1) (by omega)
    have := po_hi hc hv (w := 2) (by omega)
    rw [q, h3]; show 0 + po s 0 = _; omega
  · have := po_hi hc hv (w := 2) (by omega)
    rw [q, h3]; show 0 + po s 0 + po s 1 = _; omega
  · rw [q]
theorem pT_le (s n : Nat) : pT s n ≤ 3 * n := by
  induction n with
  | zero => exact Nat.zero_le _
  | succ n ih => have := po_lt s n; show pT s n + po s n ≤ _; omega
theorem sUv {σ : sM} {k j : Nat} {v : Int} : sU σ k j v k j = v := by unfold sU; rw [if_pos ⟨rfl, rfl⟩]
/-- the frame of work: only 75 .. 78 change -/
def fW (σ σ' : sM) : Prop := ∀ k, k < 75 ∨ 78 < k → σ' k = σ k
theorem q_shl1w {w : Nat} (h : w ≤ 3) : q_shl 1 (4 * (w : Int)) = ((16 ^ w : Nat) : Int) := by
  have : ∀ w : Nat, w < 4 → q_shl 1 (4 * (w : Int)) = ((16 ^ w : Nat) : Int) := by decide +kernel
  exact this w (by omega)
theorem sU2 {σ : sM} {a b j : Nat} {x y : Int} {k : Nat} (h1 : k ≠ a) (h2 : k ≠ b) : sU (sU σ a j x) b j y k = σ k := by
  rw [sU_ne h2, sU_ne h1]
theorem f_work {c : cC} {σ : sM} {p F r : Nat} (h : RelM c σ) (hc : OkC c) (hp : RelP c p σ) (hF : 5000 ≤ F) (hr : r ≤ 4) {t : Nat} (ht : t ≤ cK c) : ∃ σ', X9_work F σ (r : Int) (t : Int) = some (0, σ') ∧ RowF c (Hf c r p (cK c - t)) σ' ∧ RowG c (Hg c r p (cK c - t)) σ' ∧ fW σ σ' := by
  have h4 := hc.2.1
  have h5 := hc.2.2.1
  have h16 : 16 ^ cW c ≤ 4096 := Nat.pow_le_pow_right (n := 16) (by decide) h4
  unfold X9_work
  refine lp_inv (fun i (x : sM × Int) => x.2 = (i : Int) ∧ fW σ x.1 ∧ ∀ s, s < i → x.1 75 s = 0 ∧ x.1 76 s = ((1000 * pT s (cW c) : Nat) : Int)) 4096 (fun o => ∃ σ', o = some (0, σ') ∧ RowF c (Hf c r p (cK c - t)) σ' ∧ RowG c (Hg c r p (cK c - t)) σ' ∧ fW σ σ') (fun i x hi hI K => ?_) (fun x hI K => ?_) ⟨rfl, fun k _ => rfl, fun s hs => absurd hs (by omega)⟩ (by omega)
  · obtain ⟨τ, u⟩ := x
    obtain ⟨hu, hfr, hrow⟩ := hI
    simp only [] at hu hfr hrow ⊢
    subst hu
    simp (disch := omega) only [b2_if0, b2_ifn, b2_if1, jn_def, nm_def, bp_some, bn_some, wiZ, wlZ, wiD, if_pos, if_neg, if_true, if_false, not_true_eq_false, not_false_eq_true, Int.toNat_natCast]
    have hcW : ∀ τ' : sM, (∀ k, k < 75 ∨ 78 < k → τ' k = σ k) → τ' 58 0 = (cW c : Int) := fun τ' h' => by rw [h' 58 (by omega)]; exact h.2.1
    refine lp_inv (fun j (y : sM × Int) => y.2 = (j : Int) ∧ fW σ y.1 ∧ (∀ s, s < i → y.1 75 s = 0 ∧ y.1 76 s = ((1000 * pT s (cW c) : Nat) : Int)) ∧ y.1 75 i = 0 ∧ y.1 76 i = ((1000 * pT i j : Nat) : Int)) (cW c) (fun o => ∃ x' : sM × Int, (x'.2 = ((i + 1 : Nat) : Int) ∧ fW σ x'.1 ∧ ∀ s, s < i + 1 → x'.1 75 s = 0 ∧ x'.1 76 s = ((1000 * pT s (cW c) : Nat) : Int)) ∧ o = K x') (fun j y hj hJ K' => ?_) (fun y hJ K' => ?_) ⟨rfl, fun k hk => ?_, fun s hs => ?_, ?_, ?_⟩ (by omega)
    · obtain ⟨τ', v⟩ := y
      obtain ⟨hv, hfr', hrow', ha, hb⟩ := hJ
      simp only [] at hv hfr' hrow' ha hb ⊢
      subst hv
      rw [hcW τ' hfr']
      simp (disch := omega) only [b2_if0, b2_ifn, b2_if1, jn_def, nm_def, bp_some, bn_some, wiZ, wlZ, wiD, if_pos, if_neg, if_true, if_false, not_true_eq_false, not_false_eq_true, Int.toNat_natCast, f_codeOf, cd_and]
      refine ⟨_, ⟨by simp only []; omega, fun k hk => ?_, fun s hs => ?_, ?_, ?_⟩, rfl⟩
      · simp only []; rw [sU_ne (by omega)]; exact hfr' k hk
      · simp only []; rw [sU_ne (by omega), sUnj (by omega)]; exact hrow' s hs
      · simp only []; rw [sU_ne (by omega)]; exact ha
      · simp only []; rw [sUv, hb]; show _ = ((1000 * (pT i j + po i j) : Nat) : Int); omega
    · obtain ⟨τ', v⟩ := y
      obtain ⟨hv, hfr', hrow', ha, hb⟩ := hJ
      simp only [] at hv hfr' hrow' ha hb ⊢
      subst hv
      rw [hcW τ' hfr']
      simp (disch := omega) only [b2_if0, b2_ifn, b2_if1, jn_def, nm_def, bp_some, bn_some, wiZ, wlZ, wiD, if_pos, if_neg, if_true, if_false, not_true_eq_false, not_false_eq_true, Int.toNat_natCast]
      refine ⟨_, ⟨by simp only []; omega, hfr', fun s hs => ?_⟩, rfl⟩
      by_cases q : s = i
      · rw [q]; exact ⟨ha, hb⟩
      · exact hrow' s (by omega)
    · simp only []; rw [sU_ne (by omega), sU_ne (by omega)]; exact hfr k hk
    · simp only []; rw [sU_ne (by omega), sUnj (by omega), sUnj (by omega), sU_ne (by omega)]; exact hrow s hs
    · simp only []; rw [sU_ne (by omega), sUv]
    · simp only []; rw [sUv]; rfl
  · obtain ⟨τ, u⟩ := x
    obtain ⟨hu, hfr, hrow⟩ := hI
    simp only [] at hu hfr hrow ⊢
    subst hu
    rw [if_pos (by decide)]
    have hK : ∀ τ' : sM, fW σ τ' → τ' 59 0 = (cK c : Int) := fun τ' h' => by rw [h' 59 (by omega)]; exact h.2.2.1
    have hcW : ∀ τ' : sM, fW σ τ' → τ' 58 0 = (cW c : Int) := fun τ' h' => by rw [h' 58 (by omega)]; exact h.2.1
    have hM : ∀ τ' : sM, fW σ τ' → RelM c τ' := fun τ' h' => h.congr (fun k h1 h2 => h' k (by omega))
    have hP : ∀ τ' : sM, fW σ τ' → RelP c p τ' := fun τ' h' => hp.congr (h' 73 (by omega))
    rw [hK τ hfr]
    refine lp_inv (fun i (x : sM × Int) => x.2 = (cK c : Int) - 1 - (i : Int) ∧ fW σ x.1 ∧ RowF c (Hf c r p i) x.1 ∧ RowG c (Hg c r p i) x.1) (cK c - t) (fun o => ∃ σ', o = some (0, σ') ∧ RowF c (Hf c r p (cK c - t)) σ' ∧ RowG c (Hg c r p (cK c - t)) σ' ∧ fW σ σ') (fun i x hi hI K => ?_) (fun x hI K => ?_) ⟨by simp only []; omega, hfr, fun s hs => ?_, fun s hs => ?_⟩ (by omega)
    · obtain ⟨τ1, u⟩ := x
      obtain ⟨hu, hfr1, hf1, hg1⟩ := hI
      simp only [] at hu hfr1 hf1 hg1 ⊢
      have hu' : u = ((cK c - (i + 1) : Nat) : Int) := by omega
      subst hu'
      clear hu
      have hHf : ∀ s, Hf c r p i s < 10000000 := fun s => by have := Hf_le hc r p i s; omega
      have hHg : ∀ s, Hg c r p i s < 10000000 := fun s => by have := Hg_le c r p i s; omega
      simp (disch := omega) only [b2_if0, b2_ifn, b2_if1, jn_def, nm_def, bp_some, bn_some, wiZ, wlZ, wiD, if_pos, if_neg, if_true, if_false, not_true_eq_false, not_false_eq_true, Int.toNat_natCast]
      refine lp_inv (fun j (y : sM × Int) => y.2 = (j : Int) ∧ fW σ y.1 ∧ RowF c (Hf c r p i) y.1 ∧ RowG c (Hg c r p i) y.1 ∧ ∀ s, s < j → Vs c s → y.1 77 s = (Hf c r p (i + 1) s : Int) ∧ y.1 78 s = (Hg c r p (i + 1) s : Int)) (16 ^ cW c) (fun o => ∃ x' : sM × Int, (x'.2 = (cK c : Int) - 1 - ((i + 1 : Nat) : Int) ∧ fW σ x'.1 ∧ RowF c (Hf c r p (i + 1)) x'.1 ∧ RowG c (Hg c r p (i + 1)) x'.1) ∧ o = K x') (fun j y hj hJ K' => ?_) (fun y hJ K' => ?_) ⟨rfl, hfr1, hf1, hg1, fun s hs => absurd hs (by omega)⟩ (by omega)
      · obtain ⟨τ2, v⟩ := y
        obtain ⟨hv, hfr2, hf2, hg2, hrow⟩ := hJ
        simp only [] at hv hfr2 hf2 hg2 hrow ⊢
        subst hv
        rw [hcW τ2 hfr2, q_shl1w h4]
        simp (disch := omega) only [b2_if0, b2_ifn, b2_if1, jn_def, nm_def, bp_some, bn_some, wiZ, wlZ, wiD, if_pos, if_neg, if_true, if_false, not_true_eq_false, not_false_eq_true, Int.toNat_natCast, f_isState (hM τ2 hfr2) hc (show 10 ≤ F by omega) hj]
        have h01 := okS_01 c j 3
        by_cases q : okS c j 3 = 0
        · simp (disch := omega) only [b2_if0, b2_ifn, b2_if1, jn_def, nm_def, bp_some, bn_some, wiZ, wlZ, wiD, if_pos, if_neg, if_true, if_false, not_true_eq_false, not_false_eq_true, Int.toNat_natCast]
          refine ⟨_, ⟨by simp only []; omega, hfr2, hf2, hg2, fun s hs hvs => ?_⟩, rfl⟩
          by_cases q2 : s = j
          · rw [q2] at hvs; have := (okS_Vs hj).2 hvs; omega
          · exact hrow s (by omega) hvs
        · have hvj := (okS_Vs hj).1 (by omega)
          have hd := ch_ok hc r p (cK c - (i + 1)) (Hf c r p i) j
          have hbv := bh_Vs hc hvj hd
          have hk := mD_k hd
          simp (disch := omega) only [b2_if0, b2_ifn, b2_if1, jn_def, nm_def, bp_some, bn_some, wiZ, wlZ, wiD, if_pos, if_neg, if_true, if_false, not_true_eq_false, not_false_eq_true, Int.toNat_natCast]
          rw [f_choose (hM τ2 hfr2) hc (hP τ2 hfr2) (by omega) hvj (by omega) hr _ hHf hf2, bp_some]
          rw [f_bringsBy (hM τ2 hfr2) hc (hP τ2 hfr2) (by omega) hvj (by omega) _ hHf hf2 hd, bp_some]
          have hfr3 : fW σ (sU τ2 77 j (br c p (cK c - (i + 1)) (Hf c r p i) j (ch c r p (cK c - (i + 1)) (Hf c r p i) j) : Int)) := fun k hk => by rw [sU_ne (by omega)]; exact hfr2 k hk
          rw [f_behind (hM _ hfr3) hc (hvj.lt hc) hk hd, bp_some]
          rw [f_meanOf (hM _ hfr3) hc (hP _ hfr3) (by omega) hbv (by omega) 0 (Hg c r p i) (Or.inr ⟨rfl, fun s hs => by rw [sU_ne (by omega)]; exact hg2 s hs⟩) hHg, bp_some]
          refine ⟨_, ⟨by simp only []; omega, fun k hk => ?_, fun s hs => ?_, fun s hs => ?_, fun s hs hvs => ?_⟩, rfl⟩
          · simp only []; rw [sU_ne (by omega)]; exact hfr3 k hk
          · simp only []; rw [sU_ne (by omega), sU_ne (by omega)]; exact hf2 s hs
          · simp only []; rw [sU_ne (by omega), sU_ne (by omega)]; exact hg2 s hs
          · simp only []
            by_cases q2 : s = j
            · subst q2; rw [sU_ne (by omega), sUv, sUv]; exact ⟨rfl, rfl⟩
            · rw [sU_ne (by omega), sUnj q2, sUnj q2, sU_ne (by omega)]; exact hrow s (by omega) hvs
      · obtain ⟨τ2, v⟩ := y
        obtain ⟨hv, hfr2, hf2, hg2, hrow⟩ := hJ
        simp only [] at hv hfr2 hf2 hg2 hrow ⊢
        subst hv
        rw [hcW τ2 hfr2, q_shl1w h4]
        simp (disch := omega) only [b2_if0, b2_ifn, b2_if1, jn_def, nm_def, bp_some, bn_some, wiZ, wlZ, wiD, if_pos, if_neg, if_true, if_false, not_true_eq_false, not_false_eq_true, Int.toNat_natCast]
        refine lp_inv (fun j (y : sM × Int) => y.2 = (j : Int) ∧ fW σ y.1 ∧ (∀ s, Vs c s → y.1 77 s = (Hf c r p (i + 1) s : Int) ∧ y.1 78 s = (Hg c r p (i + 1) s : Int)) ∧ ∀ s, s < j → Vs c s → y.1 75 s = (Hf c r p (i + 1) s : Int) ∧ y.1 76 s = (Hg c r p (i + 1) s : Int)) (16 ^ cW c) (fun o => ∃ x' : sM × Int, (x'.2 = (cK c : Int) - 1 - ((i + 1 : Nat) : Int) ∧ fW σ x'.1 ∧ RowF c (Hf c r p (i + 1)) x'.1 ∧ RowG c (Hg c r p (i + 1)) x'.1) ∧ o = K x') (fun j y hj hJ K' => ?_) (fun y hJ K' => ?_) ⟨rfl, hfr2, fun s hs => hrow s hs.1 hs, fun s hs => absurd hs (by omega)⟩ (by omega)
        · obtain ⟨τ3, v⟩ := y
          obtain ⟨hv, hfr3, hr3, hrow3⟩ := hJ
          simp only [] at hv hfr3 hr3 hrow3 ⊢
          subst hv
          rw [hcW τ3 hfr3, q_shl1w h4]
          simp (disch := omega) only [b2_if0, b2_ifn, b2_if1, jn_def, nm_def, bp_some, bn_some, wiZ, wlZ, wiD, if_pos, if_neg, if_true, if_false, not_true_eq_false, not_false_eq_true, Int.toNat_natCast]
          refine ⟨_, ⟨by simp only []; omega, fun k hk => ?_, fun s hs => ?_, fun s hs hvs => ?_⟩, rfl⟩
          · simp only []; rw [sU_ne (by omega), sU_ne (by omega)]; exact hfr3 k hk
          · simp only []; rw [sU_ne (by omega), sU_ne (by omega), sU_ne (by omega), sU_ne (by omega)]; exact hr3 s hs
          · simp only []
            by_cases q2 : s = j
            · subst q2; rw [sU_ne (by omega), sUv, sUv, sU_ne (by omega)]; exact hr3 s hvs
            · rw [sU_ne (by omega), sUnj q2, sUnj q2, sU_ne (by omega)]; exact hrow3 s (by omega) hvs
        · obtain ⟨τ3, v⟩ := y
          obtain ⟨hv, hfr3, hr3, hrow3⟩ := hJ
          simp only [] at hv hfr3 hr3 hrow3 ⊢
          subst hv
          rw [hcW τ3 hfr3, q_shl1w h4]
          simp (disch := omega) only [b2_if0, b2_ifn, b2_if1, jn_def, nm_def, bp_some, bn_some, wiZ, wlZ, wiD, if_pos, if_neg, if_true, if_false, not_true_eq_false, not_false_eq_true, Int.toNat_natCast]
          exact ⟨_, ⟨by simp only []; omega, hfr3, fun s hs => (hrow3 s hs.1 hs).1, fun s hs => (hrow3 s hs.1 hs).2⟩, rfl⟩
    · obtain ⟨τ1, u⟩ := x
      obtain ⟨hu, hfr1, hf1, hg1⟩ := hI
      simp only [] at hu hfr1 hf1 hg1 ⊢
      subst hu
      rw [if_pos (by rw [wi_id (by omega) (by omega), wiN (by omega)]; omega)]
      exact ⟨_, rfl, hf1, hg1, hfr1⟩
    · simp only []; rw [(hrow s (hs.lt hc)).1]; rfl
    · simp only []; rw [(hrow s (hs.lt hc)).2, pT_Vs hc hs]; rfl
