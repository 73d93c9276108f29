/-- an Int as the machine's int, and back: what a comparison sees -/
def wi (z : Int) : Int := (Int32.ofInt z).toInt
def wl (z : Int) : Int := (Int64.ofInt z).toInt
abbrev vI (z : Int) : Value := .int (Int32.ofInt z)
abbrev vL (z : Int) : Value := .long (Int64.ofInt z)
theorem wi_b (z : Int) : wi z = z.bmod 4294967296 := by unfold wi; exact Int32.toInt_ofInt
theorem wl_b (z : Int) : wl z = z.bmod 18446744073709551616 := by unfold wl; exact Int64.toInt_ofInt
theorem wi_id {z : Int} (h : -2147483648 ≤ z) (h2 : z ≤ 2147483647) : wi z = z := by
  rw [wi_b]; rw [Int.bmod_def]; omega
theorem wl_id {z : Int} (h : -9223372036854775808 ≤ z) (h2 : z ≤ 9223372036854775807) : wl z = z := by
  rw [wl_b]; rw [Int.bmod_def]; omega
theorem wi_r (z : Int) : -2147483648 ≤ wi z ∧ wi z ≤ 2147483647 := by
  rw [wi_b, Int.bmod_def]; omega
theorem wl_r (z : Int) : -9223372036854775808 ≤ wl z ∧ wl z ≤ 9223372036854775807 := by
  rw [wl_b, Int.bmod_def]; omega
theorem wi_wi (z : Int) : wi (wi z) = wi z := wi_id (wi_r z).1 (wi_r z).2
theorem wl_wl (z : Int) : wl (wl z) = wl z := wl_id (wl_r z).1 (wl_r z).2
theorem oi_wi (z : Int) : Int32.ofInt (wi z) = Int32.ofInt z := Int32.ofInt_toInt _
theorem ol_wl (z : Int) : Int64.ofInt (wl z) = Int64.ofInt z := Int64.ofInt_toInt _
theorem oi_ti (x : Int32) : Int32.ofInt x.toInt = x := Int32.ofInt_toInt x
theorem ol_ti (x : Int64) : Int64.ofInt x.toInt = x := Int64.ofInt_toInt x
theorem wi_ti (x : Int32) : wi x.toInt = x.toInt := by unfold wi; rw [oi_ti]
theorem oi_lt (a b : Int) : Int32.ofInt a < Int32.ofInt b ↔ wi a < wi b := Int32.lt_iff_toInt_lt
theorem oi_le (a b : Int) : Int32.ofInt a ≤ Int32.ofInt b ↔ wi a ≤ wi b := Int32.le_iff_toInt_le
theorem oi_eq (a b : Int) : Int32.ofInt a = Int32.ofInt b ↔ wi a = wi b := Int32.toInt_inj.symm
theorem ol_lt (a b : Int) : Int64.ofInt a < Int64.ofInt b ↔ wl a < wl b := Int64.lt_iff_toInt_lt
theorem ol_le (a b : Int) : Int64.ofInt a ≤ Int64.ofInt b ↔ wl a ≤ wl b := Int64.le_iff_toInt_le
theorem ol_eq (a b : Int) : Int64.ofInt a = Int64.ofInt b ↔ wl a = wl b := Int64.toInt_inj.symm
theorem wi_0 : wi 0 = 0 := by decide
theorem wl_0 : wl 0 = 0 := by decide
theorem oi_0 : Int32.ofInt 0 = 0 := by decide
theorem oi_cl (z : Int) : (Int32.ofInt z).toNatClampNeg = (wi z).toNat := rfl
/-- the operations that aren't plain sums -/
def q_and (a b : Int) : Int := (Int32.ofInt a &&& Int32.ofInt b).toInt
def q_or (a b : Int) : Int := (Int32.ofInt a ||| Int32.ofInt b).toInt
def q_xor (a b : Int) : Int := (Int32.ofInt a ^^^ Int32.ofInt b).toInt
def q_shl (a b : Int) : Int := (Int32.ofInt a <<< (Int32.ofInt b &&& 31)).toInt
def q_shr (a b : Int) : Int := (Int32.ofInt a >>> (Int32.ofInt b &&& 31)).toInt
def q_ushr (a b : Int) : Int := ((Int32.ofInt a).toUInt32 >>> ((Int32.ofInt b).toUInt32 &&& Int32.toUInt32 31)).toInt32.toInt
def q_rem (a b : Int) : Int := (Int32.ofInt a - Int32.ofInt a / Int32.ofInt b * Int32.ofInt b).toInt
def q_b (a : Int) : Int := ((Int32.ofInt a).toInt8.toInt32).toInt
def q_z (a : Int) : Int := (vp_nar .boolean (Int32.ofInt a)).toInt
def q_land (a b : Int) : Int := (Int64.ofInt a &&& Int64.ofInt b).toInt
def q_lor (a b : Int) : Int := (Int64.ofInt a ||| Int64.ofInt b).toInt
def q_lshl (a b : Int) : Int := (Int64.ofInt a <<< ((Int32.ofInt b).toInt64 &&& 63)).toInt
def q_lshr (a b : Int) : Int := (Int64.ofInt a >>> ((Int32.ofInt b).toInt64 &&& 63)).toInt
def q_lushr (a b : Int) : Int := ((Int64.ofInt a).toUInt64 >>> ((Int32.ofInt b).toInt64.toUInt64 &&& Int64.toUInt64 63)).toInt64.toInt
def q_ldiv (a b : Int) : Int := (Int64.ofInt a / Int64.ofInt b).toInt
def q_lrem (a b : Int) : Int := (Int64.ofInt a - Int64.ofInt a / Int64.ofInt b * Int64.ofInt b).toInt
def q_lcmp (a b : Int) : Int := if wl b < wl a then 1 else if wl a = wl b then 0 else -1
theorem q_lcmp_e (a b : Int) : lg_cmp (Int64.ofInt a) (Int64.ofInt b) = Int32.ofInt (q_lcmp a b) := by
  unfold lg_cmp q_lcmp
  by_cases h1 : wl b < wl a
  · have h2 : Int64.ofInt a > Int64.ofInt b := (ol_lt b a).mpr h1
    rw [if_pos h1, if_pos h2]; rfl
  · have h2 : ¬ Int64.ofInt a > Int64.ofInt b := fun z => h1 ((ol_lt b a).mp z)
    rw [if_neg h1, if_neg h2]
    by_cases h3 : wl a = wl b
    · rw [if_pos h3, if_pos ((ol_eq a b).mpr h3)]; rfl
    · rw [if_neg h3, if_neg (fun z => h3 ((ol_eq a b).mp z))]; rfl
theorem oi_i2l (a : Int) : (Int32.ofInt a).toInt64 = Int64.ofInt (wi a) := by
  apply Int64.toInt_inj.mp
  rw [Int32.toInt_toInt64]
  show wi a = wl (wi a)
  have := wi_r a
  exact (wl_id (by omega) (by omega)).symm
theorem ol_l2i (a : Int) : (Int64.ofInt a).toInt32 = Int32.ofInt a := by
  first
    | exact Int64.toInt32_ofInt
    | simp
    | (apply Int32.toInt_inj.mp; rw [Int64.toInt_toInt32]; show (wl a).bmod _ = wi a; rw [wl_b, wi_b]; simp [Int.bmod_def]; omega)
