theorem wlN {n : Nat} (h : n < 2 ^ 63) : wl (n : Int) = (n : Int) := wl_id (by omega) (by omega)
theorem lcmp0 {n : Nat} (h : n < 2 ^ 63) : q_lcmp (n : Int) 0 = if n = 0 then 0 else 1 := by
  unfold q_lcmp
  rw [wlN h, wl_0]
  by_cases q : n = 0
  · rw [if_neg (by omega), if_pos (by omega), if_pos q]
  · rw [if_pos (by omega), if_neg q]
theorem ldivE {a b : Nat} (ha : a < 2 ^ 63) (hb : 0 < b) (hb2 : b < 2 ^ 63) : Int64.ofInt (a : Int) / Int64.ofInt (b : Int) = Int64.ofInt ((a / b : Nat) : Int) := by
  have hq : a / b ≤ a := Nat.div_le_self _ _
  have e1 : (Int64.ofInt (a : Int)).toInt = (a : Int) := wlN ha
  have e2 : (Int64.ofInt (b : Int)).toInt = (b : Int) := wlN hb2
  have e3 : (Int64.ofInt ((a / b : Nat) : Int)).toInt = ((a / b : Nat) : Int) := wlN (by omega)
  have hq0 : (0 : Int) ≤ ((a / b : Nat) : Int) := Int.natCast_nonneg _
  have hq1 : ((a / b : Nat) : Int) ≤ (a : Int) := Int.ofNat_le.mpr hq
  apply Int64.toInt_inj.mp
  rw [Int64.toInt_div, e1, e2, e3, Int.tdiv_eq_ediv_of_nonneg (by omega), show (a : Int) / (b : Int) = ((a / b : Nat) : Int) from rfl]
  exact Int.bmod_eq_of_le (by omega) (by omega)
theorem q_ldivN {a b : Nat} (ha : a < 2 ^ 63) (hb : 0 < b) (hb2 : b < 2 ^ 63) : q_ldiv (a : Int) (b : Int) = ((a / b : Nat) : Int) := by
  have hq : a / b ≤ a := Nat.div_le_self _ _
  unfold q_ldiv
  rw [ldivE ha hb hb2]
  show wl _ = _
  exact wlN (by omega)
theorem q_lremN {a b : Nat} (ha : a < 2 ^ 63) (hb : 0 < b) (hb2 : b < 2 ^ 63) : q_lrem (a : Int) (b : Int) = ((a % b : Nat) : Int) := by
  have hq : a % b ≤ a := Nat.mod_le _ _
  unfold q_lrem
  rw [ldivE ha hb hb2, ← Int64.ofInt_mul, ← Int64.ofInt_sub]
  show wl _ = _
  have e : (a : Int) - ((a / b : Nat) : Int) * (b : Int) = ((a % b : Nat) : Int) := by
    have := Nat.div_add_mod a b
    rw [Nat.mul_comm] at this
    rw [← Int.natCast_mul]
    omega
  rw [e]
  exact wlN (by omega)
theorem half_mod {b r : Nat} (h : 0 < r) (h2 : r < b) : 2 * (b % r) < b := by
  have h1 := Nat.mod_lt b h
  have h3 := Nat.div_add_mod b r
  have h4 : 1 ≤ b / r := (Nat.one_le_div_iff h).2 (by omega)
  have h5 : r * 1 ≤ r * (b / r) := Nat.mul_le_mul_left _ h4
  omega
theorem e_cp {σ : sM} (k : Nat) : ∀ (a b i F : Nat), b < 2 ^ k → k ≤ 63 → i + 2 * k + 1 ≤ 199 → a < 2 ^ 63 → 2 * k + 2 ≤ F → lp (fun K2 (q1 : Int × Int × Int) => if 200 ≤ wi q1.2.2 then some q1.1 else if wi (q_lcmp q1.2.1 0) = 0 then some q1.1 else if ¬ wl q1.2.1 = 0 then K2 (q1.2.1, q_lrem q1.1 q1.2.1, q1.2.2 + 1) else none) F ((a : Int), (b : Int), (i : Int)) = some ((Nat.gcd a b : Nat) : Int) := by
  induction k with
  | zero =>
    intro a b i F hb hk hi ha hF
    obtain ⟨G, rfl⟩ : ∃ G, F = G + 1 := ⟨F - 1, by omega⟩
    have b0 : b = 0 := by have : 2 ^ 0 = 1 := rfl; omega
    subst b0
    rw [lp_succ]
    simp only []
    rw [if_neg (by rw [wiN (by omega)]; omega), lcmp0 (by omega), if_pos rfl, if_pos (by decide), Nat.gcd_zero_right]
  | succ k ih =>
    intro a b i F hb hk hi ha hF
    have hp : 2 ^ (k + 1) = 2 * 2 ^ k := by rw [Nat.pow_succ]; omega
    have hp63 : 2 ^ (k + 1) ≤ 2 ^ 63 := Nat.pow_le_pow_right (by decide) hk
    obtain ⟨G, rfl⟩ : ∃ G, F = G + 2 := ⟨F - 2, by omega⟩
    rw [lp_succ]
    simp only []
    rw [if_neg (by rw [wiN (by omega)]; omega), lcmp0 (by omega)]
    by_cases q : b = 0
    · subst q
      rw [if_pos rfl, if_pos (by decide), Nat.gcd_zero_right]
    · rw [if_neg q, if_neg (by decide), if_pos (by rw [wlN (by omega)]; omega), q_lremN ha (by omega) (by omega), show (i : Int) + 1 = ((i + 1 : Nat) : Int) by omega]
      have hr := Nat.mod_lt a (show 0 < b by omega)
      have eg : Nat.gcd a b = Nat.gcd b (a % b) := by rw [Nat.gcd_comm b (a % b), Nat.gcd_comm a b]; exact Nat.gcd_rec b a
      rw [eg, lp_succ]
      simp only []
      rw [if_neg (by rw [wiN (by omega)]; omega), lcmp0 (by omega)]
      by_cases q2 : a % b = 0
      · rw [q2, if_pos rfl, if_pos (by decide), Nat.gcd_zero_right]
      · rw [if_neg q2, if_neg (by decide), if_pos (by rw [wlN (by omega)]; omega), q_lremN (by omega) (by omega) (by omega), show ((i + 1 : Nat) : Int) + 1 = ((i + 2 : Nat) : Int) by omega]
        have h2 := half_mod (show 0 < a % b by omega) hr
        have eg2 : Nat.gcd b (a % b) = Nat.gcd (a % b) (b % (a % b)) := by rw [Nat.gcd_comm (a % b) (b % (a % b)), Nat.gcd_comm b (a % b)]; exact Nat.gcd_rec (a % b) b
        rw [eg2]
        exact ih (a % b) (b % (a % b)) (i + 2) G (by omega) (by omega) (by omega) (by omega) (by omega)
theorem e_commonPart {F a b : Nat} (σ : sM) (hF : 200 ≤ F) (ha : a < 2 ^ 63) (hb : b < 2 ^ 63) : X8_commonPart F σ (a : Int) (b : Int) = some ((Nat.gcd a b : Nat) : Int) := by
  unfold X8_commonPart
  exact e_cp (σ := σ) 63 a b 0 F hb (by omega) (by omega) ha (by omega)
theorem f_cp (k : Nat) : ∀ (a b F : Nat), b < 2 ^ k → k ≤ 63 → a < 2 ^ 63 → 2 * k + 2 ≤ F → lp (fun K2 (q1 : Int × Int) => if wi (q_lcmp q1.2 0) = 0 then some q1.1 else if ¬ wl q1.2 = 0 then K2 (q1.2, q_lrem q1.1 q1.2) else none) F ((a : Int), (b : Int)) = some ((Nat.gcd a b : Nat) : Int) := by
  induction k with
  | zero =>
    intro a b F hb hk ha hF
    obtain ⟨G, rfl⟩ : ∃ G, F = G + 1 := ⟨F - 1, by omega⟩
    have b0 : b = 0 := by have : 2 ^ 0 = 1 := rfl; omega
    subst b0
    rw [lp_succ]
    simp only []
    rw [lcmp0 (by omega), if_pos rfl, if_pos (by decide), Nat.gcd_zero_right]
  | succ k ih =>
    intro a b F hb hk ha hF
    have hp : 2 ^ (k + 1) = 2 * 2 ^ k := by rw [Nat.pow_succ]; omega
    have hp63 : 2 ^ (k + 1) ≤ 2 ^ 63 := Nat.pow_le_pow_right (by decide) hk
    obtain ⟨G, rfl⟩ : ∃ G, F = G + 2 := ⟨F - 2, by omega⟩
    rw [lp_succ]
    simp only []
    rw [lcmp0 (by omega)]
    by_cases q : b = 0
    · subst q
      rw [if_pos rfl, if_pos (by decide), Nat.gcd_zero_right]
    · rw [if_neg q, if_neg (by decide), if_pos (by rw [wlN (by omega)]; omega), q_lremN ha (by omega) (by omega)]
      have hr := Nat.mod_lt a (show 0 < b by omega)
      have eg : Nat.gcd a b = Nat.gcd b (a % b) := by rw [Nat.gcd_comm b (a % b), Nat.gcd_comm a b]; exact Nat.gcd_rec b a
      rw [eg, lp_succ]
      simp only []
      rw [lcmp0 (by omega)]
      by_cases q2 : a % b = 0
      · rw [q2, if_pos rfl, if_pos (by decide), Nat.gcd_zero_right]
      · rw [if_neg q2, if_neg (by decide), if_pos (by rw [wlN (by omega)]; omega), q_lremN (by omega) (by omega) (by omega)]
        have h2 := half_mod (show 0 < a % b by omega) hr
        have eg2 : Nat.gcd b (a % b) = Nat.gcd (a % b) (b % (a % b)) := by rw [Nat.gcd_comm (a % b) (b % (a % b)), Nat.gcd_comm b (a % b)]; exact Nat.gcd_rec (a % b) b
        rw [eg2]
        exact ih (a % b) (b % (a % b)) G (by omega) (by omega) (by omega) (by omega)
theorem f_common {F a b : Nat} (σ : sM) (hF : 200 ≤ F) (ha : a < 2 ^ 63) (hb : b < 2 ^ 63) : X9_common F σ (a : Int) (b : Int) = some ((Nat.gcd a b : Nat) : Int) := by
  unfold X9_common
  exact f_cp 63 a b F hb (by omega) ha (by omega)
def lst (u l z : Nat) : Nat := if z = 0 then u / Nat.gcd u l else l / Nat.gcd u l
theorem e_partOfLeast {F u l z : Nat} (σ : sM) (hF : 200 ≤ F) (hu : u < 2 ^ 63) (hl : l < 2 ^ 63) (h0 : 0 < l) (hz : z < 2) : X8_partOfLeast F σ (u : Int) (l : Int) (z : Int) = some ((lst u l z : Nat) : Int) := by
  have hg : 0 < Nat.gcd u l := Nat.gcd_pos_of_pos_right _ h0
  have hg2 : Nat.gcd u l ≤ l := Nat.gcd_le_right _ h0
  unfold X8_partOfLeast lst
  have hl0 : q_lcmp ((Nat.gcd u l : Nat) : Int) 0 = 1 := by rw [lcmp0 (by omega), if_neg (by omega)]
  rw [e_commonPart σ hF hu hl, bp_some, jn_def]
  simp only [hl0]
  by_cases q : z = 0
  · rw [if_neg (by rw [q]; decide), if_pos q, if_pos (by decide), if_pos (by rw [wlN (by omega)]; omega), q_ldivN hu hg (by omega)]
  · rw [if_pos (by rw [wiN (by omega)]; omega), if_neg q, if_pos (by decide), if_pos (by rw [wlN (by omega)]; omega), q_ldivN hl hg (by omega)]
theorem f_inLeast {F u l z : Nat} (σ : sM) (hF : 200 ≤ F) (hu : u < 2 ^ 63) (hl : l < 2 ^ 63) (h0 : 0 < l) (hz : z < 2) : X9_inLeast F σ (u : Int) (l : Int) (z : Int) = some ((lst u l z : Nat) : Int) := by
  have hg : 0 < Nat.gcd u l := Nat.gcd_pos_of_pos_right _ h0
  have hg2 : Nat.gcd u l ≤ l := Nat.gcd_le_right _ h0
  unfold X9_inLeast lst
  rw [f_common σ hF hu hl, bp_some]
  by_cases q : z = 0
  · rw [if_neg (by rw [q]; decide), if_pos q, if_pos (by rw [wlN (by omega)]; omega), q_ldivN hu hg (by omega)]
  · rw [if_pos (by rw [wiN (by omega)]; omega), if_neg q, if_pos (by rw [wlN (by omega)]; omega), q_ldivN hl hg (by omega)]
theorem lst_mul (u l z m : Nat) (hm : 0 < m) : lst (m * u) (m * l) z = lst u l z := by
  unfold lst
  rw [Nat.gcd_mul_left, Nat.mul_div_mul_left _ _ hm, Nat.mul_div_mul_left _ _ hm]
/-- weights at a cell -/
def Wt (o : Nat) (W : Nat → Nat) (σ : sM) : Prop := ∀ k, k < 4 → σ o k = (W k : Int)
def ag1 (x W : Nat → Nat) (m k : Nat) : Nat := if 3 - m < k then ag x W k else if k = 3 - m then W k * (10 - x k) else W k
theorem e_weekGoesBy {c : cC} {σ : sM} {F o i z t : Nat} (hc : OkC c) (hX : RelX c σ) (ho : 12 ≤ o) (hF : 10 ≤ F) (hz : z < 2) (hi : i < cS c) (ht : t < 1000) {W : Nat → Nat} (hW : Wt (o + 1) W σ) : ∃ σ1, X5_weekGoesBy F o σ (i : Int) (z : Int) (t : Int) = some (0, σ1) ∧ (∀ m, m ≠ o + 1 → σ1 m = σ m) ∧ Wt (o + 1) (ag (fun k => if k < 3 then tq c i ((if z = 0 then 4 else 7) + k) t else 0) W) σ1 := by
  have hx3 : (fun k => if k < 3 then tq c i ((if z = 0 then 4 else 7) + k) t else 0) 3 = 0 := rfl
  have hxe : ∀ k, k < 3 → (fun k => if k < 3 then tq c i ((if z = 0 then 4 else 7) + k) t else 0) k = tq c i ((if z = 0 then 4 else 7) + k) t := fun k hk => if_pos hk
  have hxt : ∀ (τ : sM) (k : Nat), RelX c τ → k < 3 → X1_tenths τ (i : Int) (k : Int) (z : Int) (t : Int) = some ((tq c i ((if z = 0 then 4 else 7) + k) t : Nat) : Int) := by
    intro τ k hτ hk
    rcases (show z = 0 ∨ z = 1 by omega) with e | e
    · subst e; exact e_tenths0 hτ hc hi hk ht
    · subst e; exact e_tenths1 hτ hc hi hk ht
  have hle : ∀ k, tq c i ((if z = 0 then 4 else 7) + k) t ≤ 10 := fun k => tq_le _ _ _ _
  generalize (fun k => if k < 3 then tq c i ((if z = 0 then 4 else 7) + k) t else 0) = x at *
  unfold X5_weekGoesBy
  refine lp_inv (fun m (y : sM × Int) => y.2 = 2 - (m : Int) ∧ (∀ k, k ≠ o + 1 → y.1 k = σ k) ∧ Wt (o + 1) (ag1 x W m) y.1) 3 (fun (r : Option (Int × sM)) => ∃ σ1 : sM, r = some (0, σ1) ∧ (∀ m, m ≠ o + 1 → σ1 m = σ m) ∧ Wt (o + 1) (ag x W) σ1) (fun m y hm hI K => ?_) (fun y hI K => ?_) ⟨rfl, fun k hk => sU_ne hk, fun k hk => ?_⟩ (by omega)
  · obtain ⟨τ, u⟩ := y
    obtain ⟨hu, hf, hw⟩ := hI
    simp only [] at hu hf hw ⊢
    have hu' : u = ((2 - m : Nat) : Int) := by omega
    subst hu'
    have hXτ : RelX c τ := hX.congr hc (fun k b1 b2 => hf k (by omega))
    have hl := hle (2 - m)
    rw [hxt τ (2 - m) hXτ (by omega), ← hxe (2 - m) (by omega)]
    rw [← hxe (2 - m) (by omega)] at hl
    rw [show ((2 - m : Nat) : Int) + 1 = ((3 - m : Nat) : Int) by omega]
    simp (disch := omega) only [b2_if0, b2_ifn, b2_if1, jn_def, nm_def, bp_some, bn_some, wiZ, wlZ, wiD, if_pos, if_neg, if_true, if_false, not_true_eq_false, not_false_eq_true, Int.toNat_natCast]
    rw [hw (3 - m) (by omega), hw (2 - m) (by omega), sUnj (by omega), hw (2 - m) (by omega)]
    refine ⟨_, ⟨?_, fun k hk => ?_, fun k hk => ?_⟩, rfl⟩
    · simp only []; omega
    · simp only []; rw [sU_ne hk, sU_ne hk]; exact hf k hk
    · simp only []
      by_cases q1 : k = 2 - m
      · subst q1
        rw [sUv]
        have e1 : ag1 x W m (2 - m) = W (2 - m) := by unfold ag1; rw [if_neg (by omega), if_neg (by omega)]
        have e2 : ag1 x W (m + 1) (2 - m) = W (2 - m) * (10 - x (2 - m)) := by unfold ag1; rw [if_neg (by omega), if_pos (by omega)]
        rw [e1, e2, Int.natCast_mul, show ((10 - x (2 - m) : Nat) : Int) = 10 - (x (2 - m) : Int) by omega]
      · rw [sUnj q1]
        by_cases q2 : k = 3 - m
        · subst q2
          rw [sUv]
          have e1 : ag1 x W m (3 - m) = W (3 - m) * (10 - x (3 - m)) := by unfold ag1; rw [if_neg (by omega), if_pos rfl]
          have e2 : ag1 x W m (2 - m) = W (2 - m) := by unfold ag1; rw [if_neg (by omega), if_neg (by omega)]
          have e3 : ag1 x W (m + 1) (3 - m) = W (3 - m) * (10 - x (3 - m)) + W (2 - m) * x (2 - m) := by
            unfold ag1
            rw [if_pos (by omega)]
            obtain ⟨v, hv⟩ : ∃ v, 3 - m = v + 1 := ⟨2 - m, by omega⟩
            rw [hv, show 2 - m = v by omega]
            rfl
          rw [e1, e2, e3, Int.natCast_add, Int.natCast_mul (W (2 - m))]
        · rw [sUnj q2, hw k hk]
          congr 1
          unfold ag1
          by_cases q3 : 3 - m < k
          · rw [if_pos q3, if_pos (by omega)]
          · rw [if_neg q3, if_neg q2, if_neg (by omega), if_neg (by omega)]
  · obtain ⟨τ, u⟩ := y
    obtain ⟨hu, hf, hw⟩ := hI
    simp only [] at hu hf hw ⊢
    subst hu
    rw [if_pos (by decide)]
    refine ⟨_, rfl, hf, fun k hk => ?_⟩
    rw [hw k hk]
    congr 1
    unfold ag1
    by_cases q : k = 0
    · subst q; rw [if_neg (by omega), if_pos rfl]; rfl
    · rw [if_pos (by omega)]
  · simp only []
    by_cases q : k = 3
    · subst q
      rw [sUv, hW 3 (by omega)]
      unfold ag1
      rw [if_neg (by omega), if_pos rfl, hx3, Int.natCast_mul]
      rfl
    · rw [sUnj q, hW k hk]
      unfold ag1
      rw [if_neg (by omega), if_neg (by omega)]
def tot (W : Nat → Nat) : Nat := W 0 + W 1 + W 2 + W 3
theorem ag_tot {x W : Nat → Nat} (hx : ∀ k, x k ≤ 10) (h3 : x 3 = 0) : tot (ag x W) = 10 * tot W := by
  have h0 := hx 0
  have h1 := hx 1
  have h2 := hx 2
  show W 0 * (10 - x 0) + (W 1 * (10 - x 1) + W 0 * x 0) + (W 2 * (10 - x 2) + W 1 * x 1) + (W 3 * (10 - x 3) + W 2 * x 2) = 10 * (W 0 + W 1 + W 2 + W 3)
  have k : ∀ a b : Nat, b ≤ 10 → a * (10 - b) + a * b = 10 * a := by
    intro a b hb
    rw [← Nat.mul_add, show 10 - b + b = 10 by omega, Nat.mul_comm]
  have k0 := k (W 0) (x 0) h0
  have k1 := k (W 1) (x 1) h1
  have k2 := k (W 2) (x 2) h2
  rw [h3]
  omega
theorem tot_le {W : Nat → Nat} {k : Nat} (hk : k < 4) : W k ≤ tot W := by
  unfold tot
  rcases (show k = 0 ∨ k = 1 ∨ k = 2 ∨ k = 3 by omega) with rfl | rfl | rfl | rfl <;> omega
theorem e_total {o : Nat} {W : Nat → Nat} {σ : sM} (h : Wt (o + 1) W σ) : X5_total o σ = some ((tot W : Nat) : Int) := by
  unfold X5_total tot
  rw [h 0 (by omega), h 1 (by omega), h 2 (by omega), h 3 (by omega)]
  exact congrArg some (by omega)
theorem e_weightOf {o k : Nat} {W : Nat → Nat} {σ : sM} (h : Wt (o + 1) W σ) (hk : k < 4) : X5_weightOf o σ (k : Int) = some ((W k : Nat) : Int) := by
  unfold X5_weightOf
  simp (disch := omega) only [b2_if0, b2_ifn, b2_if1, jn_def, nm_def, bp_some, bn_some, wiZ, wlZ, wiD, if_pos, if_neg, if_true, if_false, not_true_eq_false, not_false_eq_true, Int.toNat_natCast]
  rw [h k hk]
