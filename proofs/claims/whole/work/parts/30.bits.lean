theorem oiN (n : Nat) : Int32.ofInt (n : Int) = nI n := rfl
theorem olN (n : Nat) : Int64.ofInt (n : Int) = lN n := rfl
theorem q_shrN {n k : Nat} (h : n < 2 ^ 31) (hk : k < 32) : q_shr (n : Int) (k : Int) = ((n / 2 ^ k : Nat) : Int) := by
  unfold q_shr
  rw [oiN, oiN]
  have hs : ((nI k &&& 31).toBitVec.smod 32).toNat = k := by
    have : ∀ k, k < 32 → ((nI k &&& 31).toBitVec.smod 32).toNat = k := by decide +kernel
    exact this k hk
  rw [pk_shrN h _ k hs]
  exact nI_toInt (Nat.lt_of_le_of_lt (Nat.div_le_self _ _) h)
theorem q_andN {n : Nat} (h : n < 2 ^ 31) (k : Nat) (m : Int) (hm : (Int32.ofInt m).toBitVec.toNat = 2 ^ k - 1) : q_and (n : Int) m = ((n % 2 ^ k : Nat) : Int) := by
  unfold q_and
  rw [oiN, pk_andN (by omega) k hm]
  exact nI_toInt (Nat.lt_of_le_of_lt (Nat.mod_le _ _) h)
theorem q_shlN {n k : Nat} (h : n * 2 ^ k < 2 ^ 31) (hk : k < 32) : q_shl (n : Int) (k : Int) = ((n * 2 ^ k : Nat) : Int) := by
  unfold q_shl
  rw [oiN, oiN]
  have hs : ((nI k &&& 31).toBitVec.smod 32).toNat = k := by
    have : ∀ k, k < 32 → ((nI k &&& 31).toBitVec.smod 32).toNat = k := by decide +kernel
    exact this k hk
  rw [pk_shlN _ k hs (by omega)]
  exact nI_toInt h
theorem wiN {n : Nat} (h : n < 2 ^ 31) : wi (n : Int) = (n : Int) := wi_id (by omega) (by omega)
