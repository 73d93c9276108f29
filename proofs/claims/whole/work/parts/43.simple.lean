theorem rng {a : Int} (h : wi a = a) : -2147483648 ≤ a ∧ a ≤ 2147483647 := by have := wi_r a; rw [h] at this; exact this
theorem s_sort {c : cC} {j : Nat} {q : qT} {x : List Nat} {t a s p : Nat} {g k l : Int} {σ : sM} (h : Jn c j q x t a s p g k l σ) (a1 a2 : Int) (h1 : wi a1 = a1) (h2 : wi a2 = a2) : ∃ r, X8_sort σ a1 a2 = some r ∧ X9_sort σ a1 a2 = some r := by
  obtain ⟨hc, hX, hM, -⟩ := h
  have b1 := rng h1
  have b2' := rng h2
  have c4 := hc.1
  unfold X8_sort X9_sort X1_isSort
  rw [hX.1, hM.1, f_in σ a1 0 _ h1 (by decide) (wi_id (by omega) (by omega)), f_in σ a2 0 13 h2 (by decide) (by decide)]
  by_cases q1 : 0 ≤ a1 ∧ a1 < (cS c : Int)
  · obtain ⟨i, rfl⟩ : ∃ i : Nat, a1 = i := ⟨a1.toNat, by omega⟩
    by_cases q2 : 0 ≤ a2 ∧ a2 < 14
    · obtain ⟨k, rfl⟩ : ∃ i : Nat, a2 = i := ⟨a2.toNat, by omega⟩
      refine ⟨(cT c i k : Int), ?_, ?_⟩
      · simp (disch := omega) only [b2_if0, b2_ifn, b2_if1, jn_def, nm_def, bp_some, bn_some, wiZ, wlZ, wiD, if_pos, if_neg, if_true, if_false, not_true_eq_false, not_false_eq_true, Int.toNat_natCast, e_trait hX hc]
      · simp (disch := omega) only [b2_if0, b2_ifn, b2_if1, jn_def, nm_def, bp_some, bn_some, wiZ, wlZ, wiD, if_pos, if_neg, if_true, if_false, not_true_eq_false, not_false_eq_true, Int.toNat_natCast]
        rw [show (14 : Int) * (i : Int) + (k : Int) = ((14 * i + k : Nat) : Int) by push_cast; rfl]
        simp (disch := omega) only [b2_if0, b2_ifn, b2_if1, jn_def, nm_def, bp_some, bn_some, wiZ, wlZ, wiD, if_pos, if_neg, if_true, if_false, not_true_eq_false, not_false_eq_true, Int.toNat_natCast]
        rw [hM.2.2.2.2.2.2 i (by omega) k (by omega)]
    · refine ⟨-1, ?_, ?_⟩
      · by_cases q3 : a2 < 0
        · simp (disch := omega) only [b2_if0, b2_ifn, b2_if1, jn_def, nm_def, bp_some, bn_some, wiZ, wlZ, wiD, if_pos, if_neg, if_true, if_false, not_true_eq_false, not_false_eq_true, Int.toNat_natCast]
        · simp (disch := omega) only [b2_if0, b2_ifn, b2_if1, jn_def, nm_def, bp_some, bn_some, wiZ, wlZ, wiD, if_pos, if_neg, if_true, if_false, not_true_eq_false, not_false_eq_true, Int.toNat_natCast]
      · simp (disch := omega) only [b2_if0, b2_ifn, b2_if1, jn_def, nm_def, bp_some, bn_some, wiZ, wlZ, wiD, if_pos, if_neg, if_true, if_false, not_true_eq_false, not_false_eq_true, Int.toNat_natCast]
  · refine ⟨-1, ?_, ?_⟩
    · by_cases q3 : a1 < 0
      · simp (disch := omega) only [b2_if0, b2_ifn, b2_if1, jn_def, nm_def, bp_some, bn_some, wiZ, wlZ, wiD, if_pos, if_neg, if_true, if_false, not_true_eq_false, not_false_eq_true, Int.toNat_natCast]
      · simp (disch := omega) only [b2_if0, b2_ifn, b2_if1, jn_def, nm_def, bp_some, bn_some, wiZ, wlZ, wiD, if_pos, if_neg, if_true, if_false, not_true_eq_false, not_false_eq_true, Int.toNat_natCast]
    · simp (disch := omega) only [b2_if0, b2_ifn, b2_if1, jn_def, nm_def, bp_some, bn_some, wiZ, wlZ, wiD, if_pos, if_neg, if_true, if_false, not_true_eq_false, not_false_eq_true, Int.toNat_natCast]
theorem s_week {c : cC} {j : Nat} {q : qT} {x : List Nat} {t a s p : Nat} {g k l : Int} {σ : sM} (h : Jn c j q x t a s p g k l σ) (a1 a2 : Int) (h1 : wi a1 = a1) (h2 : wi a2 = a2) : ∃ r, X8_week σ a1 a2 = some r ∧ X9_week σ a1 a2 = some r := by
  obtain ⟨hc, hX, hM, -⟩ := h
  have b1 := rng h1
  have b2' := rng h2
  unfold X8_week X9_week
  rw [f_in σ a1 0 7 h1 (by decide) (by decide), f_in σ a2 0 1 h2 (by decide) (by decide)]
  by_cases q1 : 0 ≤ a1 ∧ a1 < 8
  · obtain ⟨i, rfl⟩ : ∃ i : Nat, a1 = i := ⟨a1.toNat, by omega⟩
    by_cases q2 : a2 = 0
    · subst q2
      refine ⟨(cH c i : Int), ?_, ?_⟩
      · simp (disch := omega) only [b2_if0, b2_ifn, b2_if1, jn_def, nm_def, bp_some, bn_some, wiZ, wlZ, wiD, if_pos, if_neg, if_true, if_false, not_true_eq_false, not_false_eq_true, Int.toNat_natCast, e_warmthOf hX hc]
      · simp (disch := omega) only [b2_if0, b2_ifn, b2_if1, jn_def, nm_def, bp_some, bn_some, wiZ, wlZ, wiD, if_pos, if_neg, if_true, if_false, not_true_eq_false, not_false_eq_true, Int.toNat_natCast]
        rw [(hM.2.2.2.2.2.1 i (by omega)).1]
    · by_cases q3 : a2 = 1
      · subst q3
        refine ⟨(cP c i : Int), ?_, ?_⟩
        · simp (disch := omega) only [b2_if0, b2_ifn, b2_if1, jn_def, nm_def, bp_some, bn_some, wiZ, wlZ, wiD, if_pos, if_neg, if_true, if_false, not_true_eq_false, not_false_eq_true, Int.toNat_natCast, e_priceOf hX hc]
        · simp (disch := omega) only [b2_if0, b2_ifn, b2_if1, jn_def, nm_def, bp_some, bn_some, wiZ, wlZ, wiD, if_pos, if_neg, if_true, if_false, not_true_eq_false, not_false_eq_true, Int.toNat_natCast]
          rw [(hM.2.2.2.2.2.1 i (by omega)).2]
      · refine ⟨-1, ?_, ?_⟩
        · by_cases q4 : a2 < 0
          · simp (disch := omega) only [b2_if0, b2_ifn, b2_if1, jn_def, nm_def, bp_some, bn_some, wiZ, wlZ, wiD, if_pos, if_neg, if_true, if_false, not_true_eq_false, not_false_eq_true, Int.toNat_natCast]
          · simp (disch := omega) only [b2_if0, b2_ifn, b2_if1, jn_def, nm_def, bp_some, bn_some, wiZ, wlZ, wiD, if_pos, if_neg, if_true, if_false, not_true_eq_false, not_false_eq_true, Int.toNat_natCast]
        · simp (disch := omega) only [b2_if0, b2_ifn, b2_if1, jn_def, nm_def, bp_some, bn_some, wiZ, wlZ, wiD, if_pos, if_neg, if_true, if_false, not_true_eq_false, not_false_eq_true, Int.toNat_natCast]
  · refine ⟨-1, ?_, ?_⟩
    · by_cases q3 : a1 < 0
      · simp (disch := omega) only [b2_if0, b2_ifn, b2_if1, jn_def, nm_def, bp_some, bn_some, wiZ, wlZ, wiD, if_pos, if_neg, if_true, if_false, not_true_eq_false, not_false_eq_true, Int.toNat_natCast]
      · simp (disch := omega) only [b2_if0, b2_ifn, b2_if1, jn_def, nm_def, bp_some, bn_some, wiZ, wlZ, wiD, if_pos, if_neg, if_true, if_false, not_true_eq_false, not_false_eq_true, Int.toNat_natCast]
    · simp (disch := omega) only [b2_if0, b2_ifn, b2_if1, jn_def, nm_def, bp_some, bn_some, wiZ, wlZ, wiD, if_pos, if_neg, if_true, if_false, not_true_eq_false, not_false_eq_true, Int.toNat_natCast]
theorem s_count {c : cC} {j : Nat} {q : qT} {x : List Nat} {t a s p : Nat} {g k l : Int} {σ : sM} (h : Jn c j q x t a s p g k l σ) (a1 : Int) : ∃ r, X8_count σ a1 = some r ∧ X9_count σ a1 = some r := by
  obtain ⟨hc, hX, hM, -, -, -, ⟨n, -, ht1, ht2, -⟩, -, -, -, ⟨i, W, hi1, hi2, -⟩, -⟩ := h
  unfold X8_count X9_count
  rw [hX.1, hX.2.1, hX.2.2.1, hX.2.2.2.1, hM.1, hM.2.1, hM.2.2.1, hM.2.2.2.1, ht1, ht2, hi1, hi2]
  split
  · exact ⟨_, rfl, rfl⟩
  split
  · exact ⟨_, rfl, rfl⟩
  split
  · exact ⟨_, rfl, rfl⟩
  split
  · exact ⟨_, rfl, rfl⟩
  split
  · exact ⟨_, rfl, rfl⟩
  split
  · exact ⟨_, rfl, rfl⟩
  · exact ⟨_, rfl, rfl⟩
theorem s_trace {c : cC} {j : Nat} {q : qT} {x : List Nat} {t a s p : Nat} {g k l : Int} {σ : sM} (h : Jn c j q x t a s p g k l σ) : ∃ r, X8_trace σ = some r ∧ X9_trace σ = some r :=
  ⟨_, rfl, congrArg some h.2.2.2.2.2.2.2.2.2.2.2.symm⟩
/-- a step of both: the same answer, and all holds again -/
def Stq (j : Nat) (q : qT) (x : List Nat) (X : Option (Int × sM)) (Y : sM → Option (Int × sM)) : Prop := ∃ r σ1 r' σ2, X = some (r, σ1) ∧ Y σ1 = some (r', σ2) ∧ wi r = wi r' ∧ Inv j q x σ2
theorem Jn.txt {c : cC} {j : Nat} {q : qT} {x : List Nat} {t a s p : Nat} {g k l : Int} {σ σ2 : sM} (h : Jn c j q x t a s p g k l σ) (h1 : ∀ k, k ≠ 0 → k ≠ 1 → k ≠ 55 → k ≠ 56 → σ2 k = σ k) (h2 : ∀ j, j ≠ 2 → σ2 55 j = σ 55 j) (ht : Tx σ2) : Inv j q x σ2 := by
  obtain ⟨hc, a1, a2, a3, a4, a5, a6, a7, a8, a9, a10, a11⟩ := h
  have r : ∀ k, k ≠ 0 ∧ k ≠ 1 ∧ k ≠ 55 ∧ k ≠ 56 → σ2 k = σ k := fun k hk => h1 k hk.1 hk.2.1 hk.2.2.1 hk.2.2.2
  exact ⟨c, t, a, s, p, g, k, l, hc, a1.congr hc (fun k b1 b2 => r k (by omega)), a2.congr (fun k b1 b2 => r k (by omega)), a3.congr (r 26 (by omega)), a4.row hc (fun m b1 b2 => r m (by omega)), a5, ht, a7.congr hc (r 27 (by omega)) (r 28 (by omega)) (r 74 (by omega)) (fun m j b1 b2 b3 => by rw [r m (by omega)]) (fun m j b1 b2 b3 => by rw [r m (by omega)]), a8.congr hc (fun k hk => r k (by omega)), a9.congr (r 37 (by omega)) (r 46 (by omega)), a10.congr (r 49 (by omega)) (h2 36 (by omega)) (r 51 (by omega)) (r 85 (by omega)), by rw [r 54 (by omega), h2 0 (by omega)]; exact a11⟩
theorem s_clear {c : cC} {j : Nat} {q : qT} {x : List Nat} {t a s p : Nat} {g k l : Int} {σ : sM} (h : Jn c j q x t a s p g k l σ) : Stq j q x (X8_clear σ) X9_clear := by
  obtain ⟨n, hn, ht1, ht2, hb⟩ := h.2.2.2.2.2.2.1
  refine ⟨_, _, _, _, rfl, rfl, ?_, h.txt (fun k a1 a2 a3 a4 => ?_) (fun j hj => ?_) ⟨0, by omega, ?_, ?_, fun i hi => absurd hi (by omega)⟩⟩
  · rw [sU_ne (by omega), ht1, ht2]
  · rw [sU_ne a3, sU_ne a1]
  · rw [sUnj hj, sU_ne (by omega)]
  · rw [sU_ne (by omega), sUv]; rfl
  · rw [sUv]; rfl
theorem q_b_e (y : Int) : q_b y = y.bmod 256 := by
  unfold q_b
  rw [Int8.toInt_toInt32, Int32.toInt_toInt8, Int32.toInt_ofInt]
  exact Int.bmod_bmod_of_dvd (by decide)
theorem q_b_r (y : Int) : -128 ≤ q_b y ∧ q_b y ≤ 127 := by
  rw [q_b_e, Int.bmod_def]; omega
theorem q_b_b (y : Int) : q_b (q_b y) = q_b y := by
  rw [q_b_e (q_b y), q_b_e]; exact Int.bmod_bmod
theorem bm_em {a b : Int} (h : a % 256 = b % 256) : a.bmod 256 = b.bmod 256 := by
  rw [Int.bmod_def, Int.bmod_def]
  show (if a % 256 < _ then a % 256 else a % 256 - _) = (if b % 256 < _ then b % 256 else b % 256 - _)
  rw [h]
theorem land255 (x : Int) : q_land x 255 = x % 256 := by
  unfold q_land
  have e : ((Int64.ofInt x &&& Int64.ofInt 255).toBitVec).toNat = (x % 18446744073709551616).toNat % 256 := by
    rw [Int64.toBitVec_and, BitVec.toNat_and]
    show (BitVec.ofInt 64 x).toNat &&& 255 = _
    rw [BitVec.toNat_ofInt, show (255 : Nat) = 2 ^ 8 - 1 from rfl, Nat.and_two_pow_sub_one_eq_mod]
    rfl
  show ((Int64.ofInt x &&& Int64.ofInt 255).toBitVec).toInt = _
  rw [BitVec.toInt_eq_toNat_bmod, e, Int.bmod_eq_of_le (by omega) (by omega)]
  omega
theorem lsh_u (v : Int) {i : Nat} (hi : i < 8) : q_lushr v (8 * (i : Int)) % 256 = (v % 18446744073709551616) / 2 ^ (8 * i) % 256 := by
  have hk : ((Int32.ofInt (8 * (i : Int))).toInt64.toUInt64 &&& Int64.toUInt64 63).toNat % 64 = 8 * i := by
    have : ∀ i : Nat, i < 8 → ((Int32.ofInt (8 * (i : Int))).toInt64.toUInt64 &&& Int64.toUInt64 63).toNat % 64 = 8 * i := by decide +kernel
    exact this i hi
  unfold q_lushr
  have e : (((Int64.ofInt v).toUInt64 >>> ((Int32.ofInt (8 * (i : Int))).toInt64.toUInt64 &&& Int64.toUInt64 63)).toInt64.toBitVec).toNat = (v % 18446744073709551616).toNat / 2 ^ (8 * i) := by
    show ((Int64.ofInt v).toUInt64 >>> ((Int32.ofInt (8 * (i : Int))).toInt64.toUInt64 &&& Int64.toUInt64 63)).toNat = _
    rw [UInt64.toNat_shiftRight, hk, Nat.shiftRight_eq_div_pow]
    show (BitVec.ofInt 64 v).toNat / _ = _
    rw [BitVec.toNat_ofInt]
    rfl
  show ((((Int64.ofInt v).toUInt64 >>> ((Int32.ofInt (8 * (i : Int))).toInt64.toUInt64 &&& Int64.toUInt64 63)).toInt64.toBitVec).toInt) % 256 = _
  rw [BitVec.toInt_eq_toNat_bmod, e]
  have h2 : ∀ z : Int, (z.bmod (2 ^ 64)) % 256 = z % 256 := by
    intro z; rw [Int.bmod_def]; omega
  rw [h2]
  congr 1
  obtain ⟨m, hm⟩ : ∃ m : Nat, v % 18446744073709551616 = (m : Int) := ⟨(v % 18446744073709551616).toNat, by omega⟩
  rw [hm, Int.toNat_natCast]
  push_cast
  rfl
theorem lsh_s (v : Int) {i : Nat} (hi : i < 8) : q_lshr v (8 * (i : Int)) = (wl v) / 2 ^ (8 * i) := by
  unfold q_lshr
  have hk : (((Int32.ofInt (8 * (i : Int))).toInt64 &&& 63).toBitVec.smod 64).toNat = 8 * i := by
    have : ∀ i : Nat, i < 8 → (((Int32.ofInt (8 * (i : Int))).toInt64 &&& 63).toBitVec.smod 64).toNat = 8 * i := by decide +kernel
    exact this i hi
  rw [lk_shr _ _ (8 * i) hk, Int.shiftRight_eq_div_pow]
  show wl v / ((2 ^ (8 * i) : Nat) : Int) = _
  push_cast
  rfl
theorem byte_e (v : Int) {i : Nat} (hi : i < 8) : q_b (q_b (q_lushr v (8 * (i : Int)))) = q_b (q_b (q_land (q_lshr v (8 * (i : Int))) 255)) := by
  rw [q_b_b, q_b_b, q_b_e, q_b_e]
  apply bm_em
  rw [lsh_u v hi, land255, lsh_s v hi, wl_b, Int.bmod_def]
  rcases (show i = 0 ∨ i = 1 ∨ i = 2 ∨ i = 3 ∨ i = 4 ∨ i = 5 ∨ i = 6 ∨ i = 7 by omega) with rfl | rfl | rfl | rfl | rfl | rfl | rfl | rfl <;> simp only [Nat.mul_zero, Nat.reduceMul, Int.reducePow] <;> omega
theorem e_typeX {σ : sM} {F len n : Nat} (v : Int) (hF : 10 ≤ F) (hn : 1 ≤ n ∧ n ≤ 8) (hl : len + n ≤ 400) (h0 : σ 0 1 = (len : Int)) : ∃ σ1, X8_type F σ v (n : Int) = some (((len + n : Nat) : Int), σ1) ∧ σ1 0 1 = ((len + n : Nat) : Int) ∧ (∀ k, k ≠ 0 → k ≠ 1 → σ1 k = σ k) ∧ (∀ i, i < len → σ1 1 i = σ 1 i) ∧ ∀ r, r < n → σ1 1 (len + r) = q_b (q_b (q_lushr v (8 * ((n - 1 - r : Nat) : Int)))) := by
  unfold X8_type
  rw [h0, if_neg (by rw [wiN (by omega)]; omega), if_pos (by rw [wiN (by omega)]; omega), if_pos (by rw [show (len : Int) + (n : Int) = ((len + n : Nat) : Int) by omega, wiN (by omega)]; omega)]
  refine lp_inv (fun m (x : sM × Int) => x.2 = (n : Int) - 1 - (m : Int) ∧ x.1 0 1 = ((len + m : Nat) : Int) ∧ (∀ k, k ≠ 0 → k ≠ 1 → x.1 k = σ k) ∧ (∀ i, i < len → x.1 1 i = σ 1 i) ∧ ∀ r, r < m → x.1 1 (len + r) = q_b (q_b (q_lushr v (8 * ((n - 1 - r : Nat) : Int))))) n (fun (o : Option (Int × sM)) => ∃ σ1 : sM, o = some (((len + n : Nat) : Int), σ1) ∧ σ1 0 1 = ((len + n : Nat) : Int) ∧ (∀ k, k ≠ 0 → k ≠ 1 → σ1 k = σ k) ∧ (∀ i, i < len → σ1 1 i = σ 1 i) ∧ ∀ r, r < n → σ1 1 (len + r) = q_b (q_b (q_lushr v (8 * ((n - 1 - r : Nat) : Int))))) (fun m x hm hI K => ?_) (fun x hI K => ?_) ⟨by simp only []; omega, h0, fun _ _ _ => rfl, fun _ _ => rfl, fun r hr => absurd hr (by omega)⟩ (by omega)
  · obtain ⟨τ, u⟩ := x
    obtain ⟨hu, h1, h2, h3, h4⟩ := hI
    simp only [] at hu h1 h2 h3 h4 ⊢
    have hu' : u = ((n - 1 - m : Nat) : Int) := by omega
    subst hu'
    rw [if_neg (by rw [wiN (by omega)]; omega), h1, wiN (n := len + m) (by omega), if_pos (by omega), Int.toNat_natCast, nm_def]
    refine ⟨_, ⟨?_, ?_, fun k hk1 hk2 => ?_, fun i hi => ?_, fun r hr => ?_⟩, rfl⟩
    · simp only []; omega
    · simp only []; rw [sUv, sU_ne (by omega), h1]; omega
    · simp only []; rw [sU_ne hk1, sU_ne hk2]; exact h2 k hk1 hk2
    · simp only []; rw [sU_ne (by omega), sUnj (by omega)]; exact h3 i hi
    · simp only []; rw [sU_ne (by omega)]
      by_cases q : r = m
      · subst q; rw [sUv]
      · rw [sUnj (by omega)]; exact h4 r (by omega)
  · obtain ⟨τ, u⟩ := x
    obtain ⟨hu, h1, h2, h3, h4⟩ := hI
    simp only [] at hu h1 h2 h3 h4 ⊢
    subst hu
    rw [if_pos (by rw [wi_id (by omega) (by omega)]; omega), h1]
    exact ⟨_, rfl, h1, h2, h3, h4⟩
theorem f_type {σ : sM} {F len n : Nat} (v : Int) (hF : 10 ≤ F) (hn : 1 ≤ n ∧ n ≤ 8) (hl : len + n ≤ 400) (h0 : σ 55 2 = (len : Int)) : ∃ σ1, X9_type F σ v (n : Int) = some (((len + n : Nat) : Int), σ1) ∧ σ1 55 2 = ((len + n : Nat) : Int) ∧ (∀ k, k ≠ 55 → k ≠ 56 → σ1 k = σ k) ∧ (∀ j, j ≠ 2 → σ1 55 j = σ 55 j) ∧ (∀ i, i < len → σ1 56 i = σ 56 i) ∧ ∀ r, r < n → σ1 56 (len + r) = q_b (q_b (q_land (q_lshr v (8 * ((n - 1 - r : Nat) : Int))) 255)) := by
  unfold X9_type
  rw [h0, f_in σ _ 1 8 (wiN (by omega)) (by decide) (by decide), bp_some, b2_ifn, if_pos (by omega), if_pos (by rw [show (len : Int) + (n : Int) = ((len + n : Nat) : Int) by omega, wiN (by omega)]; omega)]
  refine lp_inv (fun m (x : sM × Int) => x.2 = (n : Int) - 1 - (m : Int) ∧ x.1 55 2 = ((len + m : Nat) : Int) ∧ (∀ k, k ≠ 55 → k ≠ 56 → x.1 k = σ k) ∧ (∀ j, j ≠ 2 → x.1 55 j = σ 55 j) ∧ (∀ i, i < len → x.1 56 i = σ 56 i) ∧ ∀ r, r < m → x.1 56 (len + r) = q_b (q_b (q_land (q_lshr v (8 * ((n - 1 - r : Nat) : Int))) 255))) n (fun (o : Option (Int × sM)) => ∃ σ1 : sM, o = some (((len + n : Nat) : Int), σ1) ∧ σ1 55 2 = ((len + n : Nat) : Int) ∧ (∀ k, k ≠ 55 → k ≠ 56 → σ1 k = σ k) ∧ (∀ j, j ≠ 2 → σ1 55 j = σ 55 j) ∧ (∀ i, i < len → σ1 56 i = σ 56 i) ∧ ∀ r, r < n → σ1 56 (len + r) = q_b (q_b (q_land (q_lshr v (8 * ((n - 1 - r : Nat) : Int))) 255))) (fun m x hm hI K => ?_) (fun x hI K => ?_) ⟨by simp only []; omega, h0, fun _ _ _ => rfl, fun _ _ => rfl, fun _ _ => rfl, fun r hr => absurd hr (by omega)⟩ (by omega)
  · obtain ⟨τ, u⟩ := x
    obtain ⟨hu, h1, h2, h5, h3, h4⟩ := hI
    simp only [] at hu h1 h2 h3 h4 h5 ⊢
    have hu' : u = ((n - 1 - m : Nat) : Int) := by omega
    subst hu'
    rw [if_neg (by rw [wiN (by omega)]; omega), h1, wiN (n := len + m) (by omega), if_pos (by omega), Int.toNat_natCast, nm_def]
    refine ⟨_, ⟨?_, ?_, fun k hk1 hk2 => ?_, fun j hj => ?_, fun i hi => ?_, fun r hr => ?_⟩, rfl⟩
    · simp only []; omega
    · simp only []; rw [sUv, sU_ne (by omega), h1]; omega
    · simp only []; rw [sU_ne hk1, sU_ne hk2]; exact h2 k hk1 hk2
    · simp only []; rw [sUnj hj, sU_ne (by omega)]; exact h5 j hj
    · simp only []; rw [sU_ne (by omega), sUnj (by omega)]; exact h3 i hi
    · simp only []; rw [sU_ne (by omega)]
      by_cases q : r = m
      · subst q; rw [sUv]
      · rw [sUnj (by omega)]; exact h4 r (by omega)
  · obtain ⟨τ, u⟩ := x
    obtain ⟨hu, h1, h2, h5, h3, h4⟩ := hI
    simp only [] at hu h1 h2 h3 h4 h5 ⊢
    subst hu
    rw [if_pos (by rw [wi_id (by omega) (by omega)]; omega), h1]
    exact ⟨_, rfl, h1, h2, h5, h3, h4⟩
theorem s_type {c : cC} {j : Nat} {q : qT} {x : List Nat} {t a s p F : Nat} {g k l : Int} {σ : sM} (h : Jn c j q x t a s p g k l σ) (hF : 10 ≤ F) (v a2 : Int) (h2 : wi a2 = a2) : Stq j q x (X8_type F σ v a2) (fun τ => X9_type F τ v a2) := by
  obtain ⟨n, hn, ht1, ht2, hb⟩ := h.2.2.2.2.2.2.1
  have b2' := rng h2
  by_cases q1 : 1 ≤ a2 ∧ a2 ≤ 8
  · obtain ⟨m, rfl⟩ : ∃ i : Nat, a2 = i := ⟨a2.toNat, by omega⟩
    by_cases q2 : n + m ≤ 400
    · obtain ⟨σ1, e1, f1, f2, f3, f4⟩ := e_typeX v hF (by omega) q2 ht1
      obtain ⟨σ2, e2, g1, g2, g5, g3, g4⟩ := f_type (σ := σ1) v hF (show 1 ≤ m ∧ m ≤ 8 by omega) q2 (by rw [f2 55 (by omega) (by omega)]; exact ht2)
      refine ⟨_, _, _, _, e1, e2, rfl, h.txt (fun k a1 a2 a3 a4 => ?_) (fun j hj => ?_) ⟨n + m, q2, ?_, g1, fun i hi => ?_⟩⟩
      · rw [g2 k a3 a4, f2 k a1 a2]
      · rw [g5 j hj, f2 55 (by omega) (by omega)]
      · rw [g2 0 (by omega) (by omega)]; exact f1
      · rw [g2 1 (by omega) (by omega)]
        by_cases q3 : i < n
        · rw [f3 i q3, g3 i q3, f2 56 (by omega) (by omega)]; exact hb i q3
        · obtain ⟨r, rfl⟩ : ∃ r, i = n + r := ⟨i - n, by omega⟩
          rw [f4 r (by omega), g4 r (by omega)]
          exact ⟨byte_e v (by omega), q_b_r _⟩
    · have e1 : X8_type F σ v (m : Int) = some (-3, σ) := by
        unfold X8_type
        rw [ht1, if_neg (by rw [wiN (by omega)]; omega), if_pos (by rw [wiN (by omega)]; omega), if_neg (by rw [show (n : Int) + (m : Int) = ((n + m : Nat) : Int) by omega, wiN (by omega)]; omega)]
      have e2 : X9_type F σ v (m : Int) = some (-3, σ) := by
        unfold X9_type
        rw [ht2, f_in σ _ 1 8 (wiN (by omega)) (by decide) (by decide), bp_some, b2_ifn, if_pos (by omega), if_neg (by rw [show (n : Int) + (m : Int) = ((n + m : Nat) : Int) by omega, wiN (by omega)]; omega)]
      exact ⟨_, _, _, _, e1, e2, rfl, h.inv⟩
  · have e1 : X8_type F σ v a2 = some (-1, σ) := by
      unfold X8_type
      rw [h2]
      by_cases q2 : a2 < 1
      · rw [if_pos q2]
      · rw [if_neg q2, if_neg (by omega)]
    have e2 : X9_type F σ v a2 = some (-1, σ) := by
      unfold X9_type
      rw [f_in σ a2 1 8 h2 (by decide) (by decide), bp_some, b2_ifn, if_neg q1]
    exact ⟨_, _, _, _, e1, e2, rfl, h.inv⟩
