theorem e_allGood {c : cC} {σ : sM} {F o i : Nat} (hc : OkC c) (hX : RelX c σ) (hF : 10 ≤ F) (hi : i < cS c) {W : Nat → Nat} (hW : Wt (o + 1) W σ) : X5_allGood F o σ (i : Int) = some ((sg c i W : Nat) : Int) := by
  unfold X5_allGood
  have e4 : sg c i W = (fun n : Nat => (match n with | 0 => 0 | 1 => W 0 * cT c i 0 | 2 => W 0 * cT c i 0 + W 1 * cT c i 1 | 3 => W 0 * cT c i 0 + W 1 * cT c i 1 + W 2 * cT c i 2 | _ => W 0 * cT c i 0 + W 1 * cT c i 1 + W 2 * cT c i 2 + W 3 * cT c i 3 : Nat)) 4 := rfl
  have es : ∀ n, n < 4 → (fun n : Nat => (match n with | 0 => 0 | 1 => W 0 * cT c i 0 | 2 => W 0 * cT c i 0 + W 1 * cT c i 1 | 3 => W 0 * cT c i 0 + W 1 * cT c i 1 + W 2 * cT c i 2 | _ => W 0 * cT c i 0 + W 1 * cT c i 1 + W 2 * cT c i 2 + W 3 * cT c i 3 : Nat)) (n + 1) = (fun n : Nat => (match n with | 0 => 0 | 1 => W 0 * cT c i 0 | 2 => W 0 * cT c i 0 + W 1 * cT c i 1 | 3 => W 0 * cT c i 0 + W 1 * cT c i 1 + W 2 * cT c i 2 | _ => W 0 * cT c i 0 + W 1 * cT c i 1 + W 2 * cT c i 2 + W 3 * cT c i 3 : Nat)) n + W n * cT c i n := by
    intro n hn
    rcases (show n = 0 ∨ n = 1 ∨ n = 2 ∨ n = 3 by omega) with rfl | rfl | rfl | rfl
    · exact (Nat.zero_add _).symm
    · rfl
    · rfl
    · rfl
  have e0 : (fun n : Nat => (match n with | 0 => 0 | 1 => W 0 * cT c i 0 | 2 => W 0 * cT c i 0 + W 1 * cT c i 1 | 3 => W 0 * cT c i 0 + W 1 * cT c i 1 + W 2 * cT c i 2 | _ => W 0 * cT c i 0 + W 1 * cT c i 1 + W 2 * cT c i 2 + W 3 * cT c i 3 : Nat)) 0 = 0 := rfl
  generalize (fun n : Nat => (match n with | 0 => 0 | 1 => W 0 * cT c i 0 | 2 => W 0 * cT c i 0 + W 1 * cT c i 1 | 3 => W 0 * cT c i 0 + W 1 * cT c i 1 + W 2 * cT c i 2 | _ => W 0 * cT c i 0 + W 1 * cT c i 1 + W 2 * cT c i 2 + W 3 * cT c i 3 : Nat)) = S at *
  rw [e4]
  have h0 : ((0 : Int), (0 : Int)) = (((S 0 : Nat) : Int), ((0 : Nat) : Int)) := by rw [e0]; rfl
  rw [h0]
  refine lp_run (fun n => (((S n : Nat) : Int), ((n : Nat) : Int))) 4 (fun n hn K => ?_) (fun K => ?_) (by omega)
  · have hT := cT_le hc i n
    simp only [nm_def]
    rw [Int.zero_add, if_neg (by rw [wiN (by omega)]; omega), wiN (n := n) (by omega), if_pos (by omega), e_trait hX hc hi (by omega), bp_some, Int.toNat_natCast, hW n hn, wiN (n := cT c i n) (by omega), es n hn]
    congr 2
  · simp only []
    rw [if_pos (by decide)]
theorem sg_le {c : cC} (hc : OkC c) (i : Nat) {W : Nat → Nat} {B : Nat} (h : ∀ k, k < 4 → W k ≤ B) : sg c i W ≤ 4 * (B * 99) := by
  have k : ∀ v, v < 4 → W v * cT c i v ≤ B * 99 := fun v hv => Nat.mul_le_mul (h v hv) (cT_le hc i v)
  have := k 0 (by omega)
  have := k 1 (by omega)
  have := k 2 (by omega)
  have := k 3 (by omega)
  unfold sg
  omega
theorem f_thinksL {c : cC} {σ : sM} {F i : Nat} (hc : OkC c) (hM : RelM c σ) (hF : 200 ≤ F) (h36 : σ 55 36 = (i : Int)) (hi : i < cS c) {W : Nat → Nat} (hW : ∀ k, k < 4 → σ 85 k = (W k : Int)) (hle : ∀ k, k < 4 → W k ≤ 1000000000000) (hp : 0 < tot W) {b z : Nat} (hb : b ≤ 4) (hz : z < 2) (h1 : wi (b : Int) = (b : Int)) (h2 : wi (z : Int) = (z : Int)) : X9_thinks F σ (b : Int) (z : Int) = some ((lst (if b = 4 then sg c i W else W b) (tot W) z : Nat) : Int) := by
  have c4 := hc.1
  have hsg := sg_le hc i hle
  have k0 := hle 0 (by omega)
  have k1 := hle 1 (by omega)
  have k2 := hle 2 (by omega)
  have k3 := hle 3 (by omega)
  have htot : tot W ≤ 4000000000000 := by unfold tot; omega
  unfold X9_thinks
  simp only [jn_def]
  rw [f_in _ (b : Int) 0 4 h1 (by decide) (by decide), f_in _ (z : Int) 0 1 h2 (by decide) (by decide)]
  simp only [bp_some, b2_if0, if_pos (show 0 ≤ (b : Int) ∧ (b : Int) ≤ 4 by omega), if_pos (show 0 ≤ (z : Int) ∧ (z : Int) ≤ 1 by omega)]
  rw [hM.1, if_pos (by rw [wiN (by omega)]; omega), h36]
  have step : ∀ n : Nat, n < 4 → σ 61 (wi ((14 : Int) * (i : Int) + (n : Int))).toNat = (cT c i n : Int) ∧ (0 ≤ wi ((14 : Int) * (i : Int) + (n : Int)) ∧ wi ((14 : Int) * (i : Int) + (n : Int)) < 112) := by
    intro n hn
    rw [show (14 : Int) * (i : Int) + (n : Int) = ((14 * i + n : Nat) : Int) by push_cast; rfl, wiN (by omega), Int.toNat_natCast]
    exact ⟨hM.2.2.2.2.2.2 i hi n (by omega), by omega⟩
  have T0 := (step 0 (by omega))
  have T1 := (step 1 (by omega))
  have T2 := (step 2 (by omega))
  have T3 := (step 3 (by omega))
  refine lp_inv (fun n (y : Int × Int × Int) => y.2.2 = (n : Int) ∧ y.1 = ((match n with | 0 => 0 | 1 => W 0 | 2 => W 0 + W 1 | 3 => W 0 + W 1 + W 2 | _ => W 0 + W 1 + W 2 + W 3 : Nat) : Int) ∧ y.2.1 = ((match n with | 0 => 0 | 1 => W 0 * cT c i 0 | 2 => W 0 * cT c i 0 + W 1 * cT c i 1 | 3 => W 0 * cT c i 0 + W 1 * cT c i 1 + W 2 * cT c i 2 | _ => W 0 * cT c i 0 + W 1 * cT c i 1 + W 2 * cT c i 2 + W 3 * cT c i 3 : Nat) : Int)) 4 (fun r => r = some ((lst (if b = 4 then sg c i W else W b) (tot W) z : Nat) : Int)) (fun n y hn hI K => ?_) (fun y hI K => ?_) ⟨rfl, rfl, rfl⟩ (by omega)
  · obtain ⟨y1, y2, u⟩ := y
    obtain ⟨hu, hy1, hy2⟩ := hI
    simp only [] at hu hy1 hy2 ⊢
    subst hu hy1 hy2
    obtain ⟨s1, s2⟩ := step n hn
    have hT := cT_le hc i n
    rw [if_neg (by rw [wiN (by omega)]; omega), if_pos s2, s1, wiN (n := n) (by omega), if_pos (by omega), if_pos (by omega), Int.toNat_natCast, hW n hn, wiN (n := cT c i n) (by omega), nm_def]
    refine ⟨_, ⟨?_, ?_, ?_⟩, rfl⟩
    · simp only []; omega
    · simp only []
      rcases (show n = 0 ∨ n = 1 ∨ n = 2 ∨ n = 3 by omega) with rfl | rfl | rfl | rfl
      · simp only []; omega
      · simp only []; omega
      · simp only []; omega
      · simp only []; omega
    · simp only []
      rcases (show n = 0 ∨ n = 1 ∨ n = 2 ∨ n = 3 by omega) with rfl | rfl | rfl | rfl
      · simp only []; push_cast; omega
      · simp only []; push_cast; rfl
      · simp only []; push_cast; rfl
      · simp only []; push_cast; rfl
  · obtain ⟨y1, y2, u⟩ := y
    obtain ⟨hu, hy1, hy2⟩ := hI
    simp only [] at hu hy1 hy2 ⊢
    subst hu hy1 hy2
    rw [if_pos (by decide), h1]
    by_cases q : b = 4
    · rw [if_neg (by omega), if_pos q]
      show bp (X9_inLeast F σ ((sg c i W : Nat) : Int) ((tot W : Nat) : Int) (z : Int)) _ = _
      rw [f_inLeast σ hF (by omega) (by omega) hp hz, bp_some]
    · rw [if_pos (by omega), if_neg q, if_pos (by omega), Int.toNat_natCast, hW b (by omega)]
      have := hle b (by omega)
      show bp (X9_inLeast F σ ((W b : Nat) : Int) ((tot W : Nat) : Int) (z : Int)) _ = _
      rw [f_inLeast σ hF (by omega) (by omega) hp hz, bp_some]
theorem s_thinks {c : cC} {j : Nat} {q : qT} {x : List Nat} {t a s p F : Nat} {g k l : Int} {σ : sM} (h : Jn c j q x t a s p g k l σ) (hF : 200 ≤ F) (a1 a2 : Int) (h1 : wi a1 = a1) (h2 : wi a2 = a2) : ∃ r, X8_thinks F σ a1 a2 = some r ∧ X9_thinks F σ a1 a2 = some r := by
  obtain ⟨hc, hX, hM, hW, hm, hV, hT, hI, hE, hB', ⟨i, W, t1, t2, t3, t4, t5⟩, htr⟩ := id h
  have c4 := hc.1
  by_cases y : (0 ≤ a1 ∧ a1 ≤ 4) ∧ (0 ≤ a2 ∧ a2 ≤ 1) ∧ 0 < cS c
  · obtain ⟨y1, y2, y3⟩ := y
    obtain ⟨b, rfl⟩ : ∃ i : Nat, a1 = i := ⟨a1.toNat, by omega⟩
    obtain ⟨z, rfl⟩ : ∃ i : Nat, a2 = i := ⟨a2.toNat, by omega⟩
    have hi : i < cS c := by omega
    have hle : ∀ k, k < 4 → W k ≤ 1000000000000 := fun k hk => (t4 k hk).2.2
    have hWt : Wt (50 + 1) W σ := fun k hk => (t4 k hk).1
    have hsg := sg_le hc i hle
    have k0 := hle 0 (by omega)
    have k1 := hle 1 (by omega)
    have k2 := hle 2 (by omega)
    have k3 := hle 3 (by omega)
    have htot : tot W ≤ 4000000000000 := by unfold tot; omega
    have t5' : 0 < tot W := t5
    refine ⟨_, ?_, f_thinksL (b := b) (z := z) hc hM hF t2 hi (fun k hk => (t4 k hk).2.1) hle t5 (by omega) (by omega) h1 h2⟩
    unfold X8_thinks X6_likely X1_isSort
    simp only [jn_def]
    rw [t1, hX.1, h1, h2, if_neg (by omega), if_neg (by omega), if_neg (by omega), if_pos (by omega), wiN (n := i) (by omega), wiN (n := cS c) (by omega), if_neg (by omega), if_neg (by omega), bp_some, if_pos (by decide), e_total hWt, e_allGood hc hX (by omega) hi hWt]
    by_cases q : b = 4
    · rw [if_neg (by omega), bp_some, bp_some, e_partOfLeast σ hF (by omega) (by omega) t5' (by omega), bp_some, bp_some, if_pos q]
    · have := hle b (by omega)
      rw [if_pos (by omega), e_weightOf hWt (by omega), bp_some, bp_some, e_partOfLeast σ hF (by omega) (by omega) t5' (by omega), bp_some, bp_some, if_neg q]
  · refine ⟨-1, ?_, ?_⟩
    · unfold X8_thinks X6_likely X1_isSort
      simp only [jn_def]
      rw [t1, hX.1, h1, h2]
      by_cases z1 : a1 < 0
      · rw [if_pos z1]
      · rw [if_neg z1]
        by_cases z2 : 4 < a1
        · rw [if_pos z2]
        · rw [if_neg z2]
          by_cases z3 : a2 < 0
          · rw [if_pos z3]
          · rw [if_neg z3]
            by_cases z4 : a2 ≤ 1
            · rw [if_pos z4, wiN (n := i) (by omega), wiN (n := cS c) (by omega), if_neg (by omega), if_pos (by omega), bp_some, if_neg (by decide), bp_some]
            · rw [if_neg z4]
    · unfold X9_thinks
      simp only [jn_def]
      rw [f_in _ a1 0 4 h1 (by decide) (by decide), f_in _ a2 0 1 h2 (by decide) (by decide), hM.1]
      simp only [bp_some, b2_if0]
      by_cases z1 : 0 ≤ a1 ∧ a1 ≤ 4
      · rw [if_pos z1]
        by_cases z2 : 0 ≤ a2 ∧ a2 ≤ 1
        · rw [if_pos z2, if_neg (by rw [wiN (by omega)]; omega)]
        · rw [if_neg z2]
      · rw [if_neg z1]
/-- the common part of four weights -/
def gf (V : Nat → Nat) : Nat → Nat
  | 0 => 0
  | n + 1 => Nat.gcd (gf V n) (V n)
theorem gf_lt {V : Nat → Nat} (h : ∀ k, k < 4 → V k < 2 ^ 62) (n : Nat) (hn : n ≤ 4) : gf V n < 2 ^ 63 := by
  induction n with
  | zero => show 0 < _; omega
  | succ n ih =>
    have h1 := ih (by omega)
    have h2 := h n (by omega)
    show Nat.gcd (gf V n) (V n) < _
    by_cases q : V n = 0
    · rw [q, Nat.gcd_zero_right]; exact h1
    · have := Nat.gcd_le_right (gf V n) (show 0 < V n by omega); omega
theorem gf_dvd (V : Nat → Nat) (n : Nat) : ∀ k, k < n → gf V n ∣ V k := by
  induction n with
  | zero => intro k hk; omega
  | succ n ih =>
    intro k hk
    show Nat.gcd (gf V n) (V n) ∣ V k
    by_cases q : k = n
    · rw [q]; exact Nat.gcd_dvd_right _ _
    · exact Nat.dvd_trans (Nat.gcd_dvd_left _ _) (ih k (by omega))
theorem gf_pos {V : Nat → Nat} (h : 0 < tot V) : 0 < gf V 4 := by
  rcases Nat.eq_zero_or_pos (gf V 4) with q | q
  · exfalso
    have z : ∀ k, k < 4 → V k = 0 := fun k hk => by
      have := gf_dvd V 4 k hk
      rw [q] at this
      exact Nat.eq_zero_of_zero_dvd this
    unfold tot at h
    rw [z 0 (by omega), z 1 (by omega), z 2 (by omega), z 3 (by omega)] at h
    omega
  · exact q
theorem gf_zero {V : Nat → Nat} (h : tot V = 0) : gf V 4 = 0 := by
  have e0 : V 0 = 0 := by unfold tot at h; omega
  have e1 : V 1 = 0 := by unfold tot at h; omega
  have e2 : V 2 = 0 := by unfold tot at h; omega
  have e3 : V 3 = 0 := by unfold tot at h; omega
  show Nat.gcd (Nat.gcd (Nat.gcd (Nat.gcd 0 (V 0)) (V 1)) (V 2)) (V 3) = 0
  rw [e0, e1, e2, e3]
  rfl
theorem e_becomeLeast {σ : sM} {F : Nat} (hF : 200 ≤ F) {V : Nat → Nat} (hV : Wt 53 V σ) (hb : ∀ k, k < 4 → V k < 2 ^ 62) (hp : 0 < tot V) : ∃ σ1, X5_becomeLeast F 52 σ = some (0, σ1) ∧ (∀ m, m ≠ 53 → σ1 m = σ m) ∧ Wt 53 (fun k => V k / gf V 4) σ1 := by
  have hg := gf_pos hp
  have hgl := gf_lt hb 4 (by omega)
  unfold X5_becomeLeast
  refine lp_inv (fun n (y : Int × Int) => y.2 = (n : Int) ∧ y.1 = ((gf V n : Nat) : Int)) 4 (fun (r : Option (Int × sM)) => ∃ σ1 : sM, r = some (0, σ1) ∧ (∀ m, m ≠ 53 → σ1 m = σ m) ∧ Wt 53 (fun k => V k / gf V 4) σ1) (fun n y hn hI K => ?_) (fun y hI K => ?_) ⟨rfl, rfl⟩ (by omega)
  · obtain ⟨y1, u⟩ := y
    obtain ⟨hu, hy1⟩ := hI
    simp only [] at hu hy1 ⊢
    subst hu hy1
    have := hb n hn
    rw [if_neg (by rw [wiN (by omega)]; omega), wiN (n := n) (by omega), if_pos (by omega), Int.toNat_natCast, show 52 + 1 = 53 from rfl, hV n hn, e_commonPart σ hF (gf_lt hb n (by omega)) (by omega), bp_some]
    exact ⟨_, ⟨by simp only []; omega, rfl⟩, rfl⟩
  · obtain ⟨y1, u⟩ := y
    obtain ⟨hu, hy1⟩ := hI
    simp only [] at hu hy1 ⊢
    subst hu hy1
    rw [if_pos (by decide)]
    have hcmp : q_lcmp ((gf V 4 : Nat) : Int) 1 = if gf V 4 = 1 then 0 else 1 := by
      unfold q_lcmp
      rw [wlN hgl, show wl 1 = 1 by decide]
      by_cases q : gf V 4 = 1
      · rw [if_neg (by omega), if_pos (by omega), if_pos q]
      · rw [if_pos (by omega), if_neg q]
    rw [hcmp]
    by_cases q : gf V 4 = 1
    · obtain ⟨G, rfl⟩ : ∃ G, F = G + 1 := ⟨F - 1, by omega⟩
      rw [lp_succ]
      simp only []
      rw [if_neg (by decide), if_pos q, if_pos (by decide)]
      exact ⟨_, rfl, fun _ _ => rfl, fun k hk => by rw [hV k hk]; show _ = ((V k / gf V 4 : Nat) : Int); rw [q, Nat.div_one]⟩
    · rw [if_neg q]
      refine lp_inv (fun n (y : sM × Int) => y.2 = (n : Int) ∧ (∀ m, m ≠ 53 → y.1 m = σ m) ∧ ∀ k, k < 4 → y.1 53 k = ((if k < n then V k / gf V 4 else V k : Nat) : Int)) 4 (fun (r : Option (Int × sM)) => ∃ σ1 : sM, r = some (0, σ1) ∧ (∀ m, m ≠ 53 → σ1 m = σ m) ∧ Wt 53 (fun k => V k / gf V 4) σ1) (fun n y hn hI K => ?_) (fun y hI K => ?_) ⟨rfl, fun _ _ => rfl, fun k hk => by rw [if_neg (by omega)]; exact hV k hk⟩ (by omega)
      · obtain ⟨τ, u⟩ := y
        obtain ⟨hu, hf, hr⟩ := hI
        simp only [] at hu hf hr ⊢
        subst hu
        have := hb n hn
        rw [if_neg (by rw [wiN (by omega)]; omega), if_neg (by decide), wiN (n := n) (by omega), if_pos (by omega), if_pos (by rw [wlN hgl]; omega), if_pos (by omega), Int.toNat_natCast, show 52 + 1 = 53 from rfl, hr n hn, if_neg (by omega), q_ldivN (by omega) hg hgl]
        refine ⟨_, ⟨?_, fun m hm => ?_, fun k hk => ?_⟩, rfl⟩
        · simp only []; omega
        · simp only []; rw [sU_ne hm]; exact hf m hm
        · simp only []
          by_cases y : k = n
          · subst y; rw [sUv, if_pos (by omega)]
          · rw [sUnj y, hr k hk]
            by_cases y2 : k < n
            · rw [if_pos y2, if_pos (by omega)]
            · rw [if_neg y2, if_neg (by omega)]
      · obtain ⟨τ, u⟩ := y
        obtain ⟨hu, hf, hr⟩ := hI
        simp only [] at hu hf hr ⊢
        subst hu
        rw [if_pos (by decide)]
        exact ⟨_, rfl, hf, fun k hk => by rw [hr k hk, if_pos hk]⟩
def big (V : Nat → Nat) : Prop := 1000000000000 < V 0 ∨ 1000000000000 < V 1 ∨ 1000000000000 < V 2 ∨ 1000000000000 < V 3
theorem lcmpM {n : Nat} (h : n < 2 ^ 63) : (wi (q_lcmp (n : Int) 1000000000000) ≤ 0) ↔ n ≤ 1000000000000 := by
  unfold q_lcmp
  rw [wlN h, show wl 1000000000000 = 1000000000000 by decide]
  by_cases q : n ≤ 1000000000000
  · rw [if_neg (by omega)]
    by_cases q2 : n = 1000000000000
    · rw [if_pos (by omega)]; exact ⟨fun _ => q, fun _ => by decide⟩
    · rw [if_neg (by omega)]; exact ⟨fun _ => q, fun _ => by decide⟩
  · rw [if_pos (by omega)]; exact ⟨fun h => absurd h (by decide), fun h => absurd h q⟩
theorem e_greatest {σ : sM} {V : Nat → Nat} (hV : Wt 53 V σ) (hb : ∀ k, k < 4 → V k < 2 ^ 62) : ∃ n : Nat, X5_greatest 52 σ = some (n : Int) ∧ n < 2 ^ 63 ∧ (n ≤ 1000000000000 ↔ ¬ big V) := by
  have b0 := hb 0 (by omega)
  have b1 := hb 1 (by omega)
  have b2' := hb 2 (by omega)
  have b3 := hb 3 (by omega)
  unfold X5_greatest
  rw [show 52 + 1 = 53 from rfl, hV 0 (by omega), hV 1 (by omega), hV 2 (by omega), hV 3 (by omega), wlN (n := V 0) (by omega), wlN (n := V 1) (by omega), wlN (n := V 2) (by omega), wlN (n := V 3) (by omega)]
  unfold big
  by_cases y1 : V 3 < V 2
  · by_cases y2 : V 1 < V 0
    · rw [if_pos (show (V 3 : Int) < (V 2 : Int) by omega), if_pos (show (V 1 : Int) < (V 0 : Int) by omega), wlN (n := V 2) (by omega), wlN (n := V 0) (by omega)]
      by_cases y3 : V 2 < V 0
      · rw [if_pos (by omega)]; exact ⟨V 0, rfl, by omega, by omega⟩
      · rw [if_neg (by omega)]; exact ⟨V 2, rfl, by omega, by omega⟩
    · rw [if_pos (show (V 3 : Int) < (V 2 : Int) by omega), if_neg (show ¬ (V 1 : Int) < (V 0 : Int) by omega), wlN (n := V 2) (by omega), wlN (n := V 1) (by omega)]
      by_cases y3 : V 2 < V 1
      · rw [if_pos (by omega)]; exact ⟨V 1, rfl, by omega, by omega⟩
      · rw [if_neg (by omega)]; exact ⟨V 2, rfl, by omega, by omega⟩
  · by_cases y2 : V 1 < V 0
    · rw [if_neg (show ¬ (V 3 : Int) < (V 2 : Int) by omega), if_pos (show (V 1 : Int) < (V 0 : Int) by omega), wlN (n := V 3) (by omega), wlN (n := V 0) (by omega)]
      by_cases y3 : V 3 < V 0
      · rw [if_pos (by omega)]; exact ⟨V 0, rfl, by omega, by omega⟩
      · rw [if_neg (by omega)]; exact ⟨V 3, rfl, by omega, by omega⟩
    · rw [if_neg (show ¬ (V 3 : Int) < (V 2 : Int) by omega), if_neg (show ¬ (V 1 : Int) < (V 0 : Int) by omega), wlN (n := V 3) (by omega), wlN (n := V 1) (by omega)]
      by_cases y3 : V 3 < V 1
      · rw [if_pos (by omega)]; exact ⟨V 1, rfl, by omega, by omega⟩
      · rw [if_neg (by omega)]; exact ⟨V 3, rfl, by omega, by omega⟩
theorem e_takeTrial {σ : sM} {F : Nat} (hF : 200 ≤ F) {V : Nat → Nat} (hV : Wt 53 V σ) (hb : ∀ k, k < 4 → V k < 2 ^ 62) (hp : 0 < tot V) : (big (fun k => V k / gf V 4) → ∃ σ1, X6_takeTrial F σ = some (-3, σ1) ∧ (∀ m, m ≠ 53 → σ1 m = σ m)) ∧ (¬ big (fun k => V k / gf V 4) → ∃ σ1, X6_takeTrial F σ = some (1, σ1) ∧ (∀ m, m ≠ 53 → m ≠ 51 → σ1 m = σ m) ∧ Wt 51 (fun k => V k / gf V 4) σ1) := by
  obtain ⟨σ1, e1, f1, r1⟩ := e_becomeLeast hF hV hb hp
  obtain ⟨n, e2, hn, hiff⟩ := e_greatest r1 (fun k hk => Nat.lt_of_le_of_lt (Nat.div_le_self _ _) (hb k hk))
  unfold X6_takeTrial
  rw [e1, bn_some, e2, bp_some]
  constructor
  · intro hB
    rw [if_neg (fun h => (hiff.1 ((lcmpM hn).1 h)) hB)]
    exact ⟨_, rfl, f1⟩
  · intro hB
    rw [if_pos ((lcmpM hn).2 (hiff.2 hB))]
    unfold X5_becomeLike
    rw [bn_some]
    refine ⟨_, rfl, fun m h1 h2 => ?_, fun k hk => ?_⟩
    · rw [sUc_ne h2]; exact f1 m h1
    · show sUc σ1 51 _ 51 k = _
      rw [sUc_at, if_pos hk]; exact r1 k hk
theorem f_settle {σ : sM} {F : Nat} (hF : 200 ≤ F) {V : Nat → Nat} (hV : ∀ k, k < 4 → σ 85 (4 + k) = (V k : Int)) (hb : ∀ k, k < 4 → V k < 2 ^ 62) : (tot V = 0 → X9_settle F σ = some (-2, σ)) ∧ (0 < tot V → big (fun k => V k / gf V 4) → X9_settle F σ = some (-3, σ)) ∧ (0 < tot V → ¬ big (fun k => V k / gf V 4) → ∃ σ2, X9_settle F σ = some (1, σ2) ∧ (∀ m, m ≠ 85 → σ2 m = σ m) ∧ ∀ k, k < 4 → σ2 85 k = ((V k / gf V 4 : Nat) : Int)) := by
  have hgl := gf_lt hb 4 (by omega)
  have key : ∀ (P : Option (Int × sM) → Prop), (∀ K : Int × Int → Option (Int × sM), P (if ¬ wi (q_lcmp ((gf V 4 : Nat) : Int) 0) = 0 then lp (fun K6 (q5 : Int) => if 4 ≤ wi q5 then lp (fun K9 (q8 : sM × Int) => if 4 ≤ wi q8.2 then some (1, q8.1) else if 0 ≤ wi (4 + q8.2) ∧ wi (4 + q8.2) < 8 then if ¬ wl ((gf V 4 : Nat) : Int) = 0 then if 0 ≤ wi q8.2 ∧ wi q8.2 < 8 then K9 ((sU q8.1 85 (wi q8.2).toNat (q_ldiv (q8.1 85 (wi (4 + q8.2)).toNat) ((gf V 4 : Nat) : Int))), q8.2 + 1) else none else none else none) F (σ, 0) else if 0 ≤ wi (4 + q5) ∧ wi (4 + q5) < 8 then if ¬ wl ((gf V 4 : Nat) : Int) = 0 then if wi (q_lcmp (q_ldiv (σ 85 (wi (4 + q5)).toNat) ((gf V 4 : Nat) : Int)) 1000000000000) ≤ 0 then K6 (q5 + 1) else some ((-3), σ) else none else none) F 0 else some ((-2), σ))) → P (X9_settle F σ) := by
    intro P hP
    unfold X9_settle
    refine lp_inv (fun n (y : Int × Int) => y.2 = (n : Int) ∧ y.1 = ((gf V n : Nat) : Int)) 4 P (fun n y hn hI K => ?_) (fun y hI K => ?_) ⟨rfl, rfl⟩ (by omega)
    · obtain ⟨y1, u⟩ := y
      obtain ⟨hu, hy1⟩ := hI
      simp only [] at hu hy1 ⊢
      subst hu hy1
      have := hb n hn
      rw [if_neg (by rw [wiN (by omega)]; omega), show (4 : Int) + (n : Int) = ((4 + n : Nat) : Int) by omega, wiN (n := 4 + n) (by omega), if_pos (by omega), Int.toNat_natCast, hV n hn, f_common σ hF (by omega) (gf_lt hb n (by omega)), bp_some, Nat.gcd_comm]
      exact ⟨_, ⟨by simp only []; omega, rfl⟩, rfl⟩
    · obtain ⟨y1, u⟩ := y
      obtain ⟨hu, hy1⟩ := hI
      simp only [] at hu hy1 ⊢
      subst hu hy1
      rw [if_pos (by decide)]
      exact hP K
  refine ⟨fun h0 => ?_, fun hp hB => ?_, fun hp hB => ?_⟩
  · refine key (fun o => o = some (-2, σ)) (fun K => ?_)
    rw [gf_zero h0, if_neg (by decide)]
  · have hg := gf_pos hp
    refine key (fun o => o = some (-3, σ)) (fun K => ?_)
    rw [lcmp0 hgl, if_neg (show ¬ gf V 4 = 0 by omega), if_pos (by decide)]
    -- the first that is too large
    obtain ⟨n, hn, hbig, hsm⟩ : ∃ n, n < 4 ∧ 1000000000000 < V n / gf V 4 ∧ ∀ k, k < n → V k / gf V 4 ≤ 1000000000000 := by
      by_cases y0 : 1000000000000 < V 0 / gf V 4
      · exact ⟨0, by omega, y0, fun k hk => absurd hk (by omega)⟩
      by_cases y1 : 1000000000000 < V 1 / gf V 4
      · exact ⟨1, by omega, y1, fun k hk => by rw [show k = 0 by omega]; omega⟩
      by_cases y2 : 1000000000000 < V 2 / gf V 4
      · exact ⟨2, by omega, y2, fun k hk => by rcases (show k = 0 ∨ k = 1 by omega) with e | e <;> rw [e] <;> omega⟩
      have y3 : 1000000000000 < V 3 / gf V 4 := by
        rcases hB with h | h | h | h
        · exact absurd h y0
        · exact absurd h y1
        · exact absurd h y2
        · exact h
      exact ⟨3, by omega, y3, fun k hk => by rcases (show k = 0 ∨ k = 1 ∨ k = 2 by omega) with e | e | e <;> rw [e] <;> omega⟩
    refine lp_run (fun i => ((i : Nat) : Int)) n (fun i hi K => ?_) (fun K => ?_) (by omega)
    · have := hb i (by omega)
      have hd := Nat.div_le_self (V i) (gf V 4)
      rw [if_neg (by rw [wiN (by omega)]; omega), show (4 : Int) + (i : Int) = ((4 + i : Nat) : Int) by omega, wiN (n := 4 + i) (by omega), if_pos (by omega), if_pos (by rw [wlN hgl]; omega), Int.toNat_natCast, hV i (by omega), q_ldivN (by omega) hg hgl, if_pos ((lcmpM (by omega)).2 (hsm i hi))]
      rfl
    · have := hb n (by omega)
      have hd := Nat.div_le_self (V n) (gf V 4)
      rw [if_neg (by rw [wiN (by omega)]; omega), show (4 : Int) + (n : Int) = ((4 + n : Nat) : Int) by omega, wiN (n := 4 + n) (by omega), if_pos (by omega), if_pos (by rw [wlN hgl]; omega), Int.toNat_natCast, hV n (by omega), q_ldivN (by omega) hg hgl, if_neg (fun h => by have := (lcmpM (by omega)).1 h; omega)]
  · have hg := gf_pos hp
    refine key (fun (o : Option (Int × sM)) => ∃ σ2 : sM, o = some (1, σ2) ∧ (∀ m, m ≠ 85 → σ2 m = σ m) ∧ ∀ k, k < 4 → σ2 85 k = ((V k / gf V 4 : Nat) : Int)) (fun K => ?_)
    rw [lcmp0 hgl, if_neg (show ¬ gf V 4 = 0 by omega), if_pos (by decide)]
    have hsm : ∀ k, k < 4 → V k / gf V 4 ≤ 1000000000000 := by
      intro k hk
      by_cases y : V k / gf V 4 ≤ 1000000000000
      · exact y
      · exfalso
        apply hB
        rcases (show k = 0 ∨ k = 1 ∨ k = 2 ∨ k = 3 by omega) with e | e | e | e
        · subst e; exact Or.inl (show 1000000000000 < V 0 / gf V 4 by omega)
        · subst e; exact Or.inr (Or.inl (show 1000000000000 < V 1 / gf V 4 by omega))
        · subst e; exact Or.inr (Or.inr (Or.inl (show 1000000000000 < V 2 / gf V 4 by omega)))
        · subst e; exact Or.inr (Or.inr (Or.inr (show 1000000000000 < V 3 / gf V 4 by omega)))
    refine lp_inv (fun n (y : Int) => y = (n : Int)) 4 (fun (o : Option (Int × sM)) => ∃ σ2 : sM, o = some (1, σ2) ∧ (∀ m, m ≠ 85 → σ2 m = σ m) ∧ ∀ k, k < 4 → σ2 85 k = ((V k / gf V 4 : Nat) : Int)) (fun i y hi hI K => ?_) (fun y hI K => ?_) rfl (by omega)
    · subst hI
      have := hb i (by omega)
      have hd := Nat.div_le_self (V i) (gf V 4)
      rw [if_neg (by rw [wiN (by omega)]; omega), show (4 : Int) + (i : Int) = ((4 + i : Nat) : Int) by omega, wiN (n := 4 + i) (by omega), if_pos (by omega), if_pos (by rw [wlN hgl]; omega), Int.toNat_natCast, hV i (by omega), q_ldivN (by omega) hg hgl, if_pos ((lcmpM (by omega)).2 (hsm i hi))]
      exact ⟨_, by omega, rfl⟩
    · subst hI
      rw [if_pos (by decide)]
      refine lp_inv (fun n (y : sM × Int) => y.2 = (n : Int) ∧ (∀ m, m ≠ 85 → y.1 m = σ m) ∧ (∀ k, k < n → y.1 85 k = ((V k / gf V 4 : Nat) : Int)) ∧ ∀ k, k < 4 → y.1 85 (4 + k) = (V k : Int)) 4 (fun (o : Option (Int × sM)) => ∃ σ2 : sM, o = some (1, σ2) ∧ (∀ m, m ≠ 85 → σ2 m = σ m) ∧ ∀ k, k < 4 → σ2 85 k = ((V k / gf V 4 : Nat) : Int)) (fun i y hi hI K => ?_) (fun y hI K => ?_) ⟨rfl, fun _ _ => rfl, fun k hk => absurd hk (by omega), hV⟩ (by omega)
      · obtain ⟨τ, u⟩ := y
        obtain ⟨hu, hf, hr, hr2⟩ := hI
        simp only [] at hu hf hr hr2 ⊢
        subst hu
        have := hb i (by omega)
        rw [if_neg (by rw [wiN (by omega)]; omega), show (4 : Int) + (i : Int) = ((4 + i : Nat) : Int) by omega, wiN (n := 4 + i) (by omega), if_pos (by omega), if_pos (by rw [wlN hgl]; omega), wiN (n := i) (by omega), if_pos (by omega), Int.toNat_natCast, Int.toNat_natCast, hr2 i (by omega), q_ldivN (by omega) hg hgl]
        refine ⟨_, ⟨?_, fun m hm => ?_, fun k hk => ?_, fun k hk => ?_⟩, rfl⟩
        · simp only []; omega
        · simp only []; rw [sU_ne hm]; exact hf m hm
        · simp only []
          by_cases y : k = i
          · subst y; rw [sUv]
          · rw [sUnj y]; exact hr k (by omega)
        · simp only []; rw [sUnj (by omega)]; exact hr2 k hk
      · obtain ⟨τ, u⟩ := y
        obtain ⟨hu, hf, hr, hr2⟩ := hI
        simp only [] at hu hf hr hr2 ⊢
        subst hu
        rw [if_pos (by decide)]
        exact ⟨_, rfl, hf, hr⟩
