section STR
variable {G : sG} {cc : ByteArray} {own mn : String} {nL : Nat} {ret : Option FieldType} {R : Room} {Q : List Frame → Array Value → State → State → Prop} {Xp : State → Array Value → Prop} {k n : Nat} {S : sS} {L : List (Nat × Value)} {pc : Nat} {st : List Value}
theorem a_sval {i ix : Nat} (hd : decode cc pc = .ok (.getfield ix, 3)) (hi : i < 9) (hw : Cond.fieldLink own ix "java/lang/String" "value" "[B" ∈ lw_good) (kk : aW G cc own mn nL ret R Q Xp k n S L (pc + 3) (.ref (gV G i) :: st)) : aW G cc own mn nL ret R Q Xp k n S L pc (.ref (gK G i) :: st) := by
  intro p e s m args below meth c C H locs ls hH hS hl
  exact vk_getf C.1 C.2.1 (C.2.2.2.2.2.2.2.2.2.1.1.1 i hi).2.2.1 hS C.2.2.2.2.1 (C.2.2.2.2.2.1 _ hw) (fun _ h => h) hd (kk p e s m args below meth c C H locs ls hH hS hl)
theorem a_scod {i ix : Nat} (hd : decode cc pc = .ok (.getfield ix, 3)) (hi : i < 9) (hw : Cond.fieldLink own ix "java/lang/String" "coder" "B" ∈ lw_good) (kk : aW G cc own mn nL ret R Q Xp k n S L (pc + 3) (vI 0 :: st)) : aW G cc own mn nL ret R Q Xp k n S L pc (.ref (gK G i) :: st) := by
  intro p e s m args below meth c C H locs ls hH hS hl
  exact vk_getf C.1 C.2.1 (C.2.2.2.2.2.2.2.2.2.1.1.1 i hi).2.1 hS C.2.2.2.2.1 (C.2.2.2.2.2.1 _ hw) (fun _ h => h) hd (kk p e s m args below meth c C H locs ls hH hS hl)
theorem a_slen {i : Nat} (hd : decode cc pc = .ok (.arraylength, 1)) (hi : i < 9) (kk : aW G cc own mn nL ret R Q Xp k n S L (pc + 1) (vI ((strL.getD i 0 : Nat) : Int) :: st)) : aW G cc own mn nL ret R Q Xp k n S L pc (.ref (gV G i) :: st) := by
  intro p e s m args below meth c C H locs ls hH hS hl
  exact va_tlen C.1 C.2.1 (C.2.2.2.2.2.2.2.2.2.1.1.1 i hi).2.2.2 hS (v := Int32.ofInt ((strL.getD i 0 : Nat) : Int)) rfl hd (kk p e s m args below meth c C H locs ls hH hS hl)
theorem a_sald {i : Nat} {x x' : Int} (hd : decode cc pc = .ok (.baload, 1)) (hi : i < 9) (hx : wi x = x') (hb : 0 ≤ x' ∧ x' < ((strL.getD i 0 : Nat) : Int)) (kk : aW G cc own mn nL ret R Q Xp k n S L (pc + 1) (vI ((strB.getD i []).getD x'.toNat 0).toInt :: st)) : aW G cc own mn nL ret R Q Xp k n S L pc (vI x :: .ref (gV G i) :: st) := by
  intro p e s m args below meth c C H locs ls hH hS hl
  refine va_tb C.1 C.2.1 (C.2.2.2.2.2.2.2.2.2.1.1.1 i hi).2.2.2 hS (vp_in_iff.mpr (by show 0 ≤ wi x ∧ wi x < _; rw [hx]; exact hb)) (v := vI ((strB.getD i []).getD x'.toNat 0).toInt) ?_ hd (kk p e s m args below meth c C H locs ls hH hS hl)
  show Value.int ((strB.getD i []).getD (Int32.ofInt x).toNatClampNeg 0) = Value.int (Int32.ofInt ((strB.getD i []).getD x'.toNat 0).toInt)
  rw [oi_ti, oi_cl, hx]
theorem a_gcs {ix : Nat} (hd : decode cc pc = .ok (.getstatic ix, 3)) (hw : Cond.fieldLink own ix "java/lang/String" "COMPACT_STRINGS" "Z" ∈ lw_good) (kk : aW G cc own mn nL ret R Q Xp k n S L (pc + 3) (vI 1 :: st)) : aW G cc own mn nL ret R Q Xp k n S L pc st := by
  intro p e s m args below meth c C H locs ls hH hS hl
  exact va_gets C.1 C.2.1 C.2.2.2.2.2.2.2.2.2.1.2.1 hS C.2.2.2.2.1 (C.2.2.2.2.2.1 _ hw) (fun _ h => h) hd (kk p e s m args below meth c C H locs ls hH hS hl)
theorem a_gsf {ix : Nat} (hd : decode cc pc = .ok (.getstatic ix, 3)) (hw : Cond.fieldLink own ix "jdk/internal/util/Preconditions" "SIOOBE_FORMATTER" "Ljava/util/function/BiFunction;" ∈ lw_good) (kk : ∀ v : Value, (v = .null ∨ ∃ t, v = .ref t) → aW G cc own mn nL ret R Q Xp k n S L (pc + 3) (v :: st)) : aW G cc own mn nL ret R Q Xp k n S L pc st := by
  intro p e s m args below meth c C H locs ls hH hS hl
  rcases C.2.2.2.2.2.2.2.2.2.1.2.2 with h | ⟨t, h⟩
  · exact va_gets C.1 C.2.1 h hS C.2.2.2.2.1 (C.2.2.2.2.2.1 _ hw) (fun _ h => h) hd (kk _ (Or.inl rfl) p e s m args below meth c C H locs ls hH hS hl)
  · exact va_gets C.1 C.2.1 h hS C.2.2.2.2.1 (C.2.2.2.2.2.1 _ hw) (fun _ h => h) hd (kk _ (Or.inr ⟨t, rfl⟩) p e s m args below meth c C H locs ls hH hS hl)
def q_c (a : Int) : Int := ((Int32.ofInt a).toUInt32 % 65536).toInt32.toInt
theorem a_i2c {x : Int} (hd : decode cc pc = .ok (.i2c, 1)) (kk : aW G cc own mn nL ret R Q Xp k n S L (pc + 1) (vI (q_c x) :: st)) : aW G cc own mn nL ret R Q Xp k n S L pc (vI x :: st) := by
  intro p e s m args below meth c C H locs ls hH hS hl
  exact lv_i2c C.1 C.2.1 hd (oi_ti _).symm (kk p e s m args below meth c C H locs ls hH hS hl)
theorem a_nret {d mc ms : Nat} {r z : Int} {S' : sS} (ty : FieldType) (hd : decode cc pc = .ok (.ireturn, 1)) (hr : ret = some ty) (hsr : ∀ r, sRV G (some ty) r = some (vI r)) (hn : narrow ty (vI z) = vI z) (hz : z = r) (hs : S = S') : aW G cc own mn nL ret (sR d mc ms) (aQ G ret mc ms (r, S')) Xp mc ms S L pc [vI z] := by
  intro p e s m args below meth c C H locs ls hH hS hl
  subst hz; subst hs; subst hr
  exact W.zret (v := _) (ty := ty) C.1 C.2.1 C.2.2.1 hn (fun t ht hW => ⟨⟨by rw [hsr], by rw [ht]; exact hH⟩, hS.F ht⟩) hS.2.2 hd C.2.2.2.2.2.2.1
theorem a_callVsI {ix na nL' d' mc' ms' i : Nat} {As st0 : List Value} {y : MethodName} {cc' : ByteArray} {r1 : Int} {S1 : sS} {ret' : Option FieldType} (hd : decode cc pc = .ok (.invokevirtual ix, 3)) (hm : mtK y cc' nL' ret' na) (hcn : y.cls = "java/lang/String") (hi9 : i < 9) (hi : Cond.instanceMethod y ∈ lw_good) (hse : Cond.selects "java/lang/String" y y ∈ lw_good) (hw : Cond.methodLink own ix y ∈ lw_good) (hn : As.length = na) (hM : aM G y cc' nL' ret' d' mc' ms' (.ref (gK G i) :: As) S (r1, S1)) (hrv : ∀ r, sRV G ret' r = some (vI r)) (hst : As.reverse ++ .ref (gK G i) :: st = st0) (hfr : d' + 1 ≤ R.frames) (hlo : 80 * d' + 79 ≤ R.locals) (hrm : k + mc' ≤ R.cells ∧ n + ms' ≤ R.slots) (hcat : (st.map fun v => v.category).sum ≤ 8) (kk : aW G cc own mn nL ret R Q Xp (k + mc') (n + ms') S1 L (pc + 3) (vI r1 :: st)) : aW G cc own mn nL ret R Q Xp k n S L pc st0 := by
  intro p e s m args below meth c C H locs ls hH hS hl
  subst hst
  obtain ⟨m1, m2, m3, m4⟩ := hm
  have hpre := s_pre (av := (.ref (gK G i) :: As)) C.2.2.2.2.2.2.2.2.1 C.2.2.2.2.2.2.2.2.2.1 hH hS
  refine s_after (va_runV (C := "java/lang/String") (As := As) (rest := st) ⟨C.1, C.2.1, C.2.2.2.1, C.2.2.2.2.1, C.2.2.2.2.2.1⟩ hM ⟨(callB_of (rm := sR d' mc' ms') na C.2.2.2.2.2.1 (mt_good m1) rfl rfl rfl (C.2.2.2.2.2.1 _ m2) (C.2.2.2.2.2.1 _ hw) m3 ⟨hfr, by show 8 + (nL' + 11) + 80 * d' ≤ R.locals; omega⟩), C.2.2.2.2.2.1 _ hi, C.2.2.2.2.2.1 _ hse⟩ ⟨hpre.1, vk_recv C.2.2.2.2.2.2.2.2.2.1.1 hi9 hS, hpre.2⟩ rfl hn hl.1 rfl (lv_room hcat) hd hrm) hS (fun H1 locs1 h1 h2 => ?_)
  rw [hrv]
  exact kk p e s m args below meth c C H1 locs1 ls h1 h2 hl
theorem a_ldcS {i ix : Nat} {q : Nat × String × Nat × List Int32} (hd : decode cc pc = .ok (.ldc ix, 2)) (ho : own = RX4) (hq : strK[i]? = some q) (hx : q.1 = ix) (kk : aW G cc own mn nL ret R Q Xp k n S L (pc + 2) (.ref (gK G i) :: st)) : aW G cc own mn nL ret R Q Xp k n S L pc st := by
  intro p e s m args below meth c C H locs ls hH hS hl
  subst hx; subst ho
  exact va_ldcS C.1 C.2.1 C.2.2.2.2.1 (C.2.2.2.2.2.2.2.2.1.2.2.2 i q hq) hd (kk p e s m args below meth c C H locs ls hH hS hl)
theorem a_aloadV {i : Fin 4} {v : Value} (q : Nat) (hd : decode cc pc = .ok (.aload_n i, 1)) (hr : ∃ x, v = .ref x) (hq : L[q]? = some ((i : Nat), v)) (kk : aW G cc own mn nL ret R Q Xp k n S L (pc + 1) (v :: st)) : aW G cc own mn nL ret R Q Xp k n S L pc st := by
  obtain ⟨x, rfl⟩ := hr
  exact a_aload_n q hd hq kk
end STR
theorem T_coder {G : sG} {S : sS} {i : Nat} (hi : i < 9) : aM G yJ0_coder_7d493 cJ0_coder_7d493 1 (some .byte) 0 0 0 [.ref (gK G i)] S (0, S) := by
  refine aM_of (by decide) (Nat.le_of_ble_eq_true rfl) ?_
  show aW G cJ0_coder_7d493 RJ0 "coder" 1 (some .byte) _ _ aX 0 0 _ [(0, .ref (gK G i))] 0 []
  refine a_gcs dJ0_coder_7d493_0 kf_RJ0_38 ?_
  refine a_if_eq (T := (none : Option Unit)) (F := some ()) (o := ()) 13 dJ0_coder_7d493_3 (by decide) (x' := 1) (by decide) (by decide) (fun c _ => absurd c (by decide)) (fun _ _ => ?_)
  refine a_aload_n 0 dJ0_coder_7d493_6 rfl ?_
  refine a_scod dJ0_coder_7d493_7 hi kf_RJ0_15 ?_
  refine a_goto 14 dJ0_coder_7d493_10 (by decide) ?_
  exact a_nret .byte dJ0_coder_7d493_14 rfl (fun _ => rfl) (by decide) rfl rfl
theorem T_isLatin1 {G : sG} {S : sS} {i : Nat} (hi : i < 9) : aM G yJ0_isLatin1_aae02 cJ0_isLatin1_aae02 1 (some .boolean) 0 0 0 [.ref (gK G i)] S (1, S) := by
  refine aM_of (by decide) (Nat.le_of_ble_eq_true rfl) ?_
  show aW G cJ0_isLatin1_aae02 RJ0 "isLatin1" 1 (some .boolean) _ _ aX 0 0 _ [(0, .ref (gK G i))] 0 []
  refine a_gcs dJ0_isLatin1_aae02_0 kf_RJ0_38 ?_
  refine a_if_eq (T := (none : Option Unit)) (F := some ()) (o := ()) 17 dJ0_isLatin1_aae02_3 (by decide) (x' := 1) (by decide) (by decide) (fun c _ => absurd c (by decide)) (fun _ _ => ?_)
  refine a_aload_n 0 dJ0_isLatin1_aae02_6 rfl ?_
  refine a_scod dJ0_isLatin1_aae02_7 hi kf_RJ0_15 ?_
  refine a_if_ne (T := (none : Option Unit)) (F := some ()) (o := ()) 17 dJ0_isLatin1_aae02_10 (by decide) (x' := 0) (by decide) (by decide) (fun c _ => absurd rfl c) (fun _ _ => ?_)
  refine a_iconst dJ0_isLatin1_aae02_13 ?_
  refine a_goto 18 dJ0_isLatin1_aae02_14 (by decide) ?_
  exact a_zret dJ0_isLatin1_aae02_18 rfl (by decide) rfl rfl
theorem str_shr : ∀ i, i < 9 → q_shr ((strL.getD i 0 : Nat) : Int) 0 = ((strL.getD i 0 : Nat) : Int) := by decide +kernel
theorem T_slength {G : sG} {S : sS} {i : Nat} (hi : i < 9) : aM G yJ0_length_8abf5 cJ0_length_8abf5 1 (some .int) 1 0 0 [.ref (gK G i)] S (((strL.getD i 0 : Nat) : Int), S) := by
  refine aM_of (by decide) (Nat.le_of_ble_eq_true rfl) ?_
  show aW G cJ0_length_8abf5 RJ0 "length" 1 (some .int) _ _ aX 0 0 _ [(0, .ref (gK G i))] 0 []
  refine a_aload_n 0 dJ0_length_8abf5_0 rfl ?_
  refine a_sval dJ0_length_8abf5_1 hi kf_RJ0_9 ?_
  refine a_slen dJ0_length_8abf5_4 hi ?_
  refine a_aload_n 0 dJ0_length_8abf5_5 rfl ?_
  refine a_callVsI (As := []) dJ0_length_8abf5_6 mJ0_coder_7d493 rfl hi kv_J0_coder_7d493 ks_J0_coder_7d493 km_RJ0_335 rfl (T_coder hi) (fun _ => rfl) rfl (Nat.le_of_ble_eq_true rfl) (Nat.le_of_ble_eq_true rfl) ⟨Nat.le_of_ble_eq_true rfl, Nat.le_of_ble_eq_true rfl⟩ (Nat.le_of_ble_eq_true rfl) ?_
  refine a_ishr dJ0_length_8abf5_9 ?_
  exact a_iret dJ0_length_8abf5_10 rfl (str_shr i hi) rfl
theorem T_check3 {G : sG} {S : sS} {x l : Int} {v : Value} (hv : v = .null ∨ ∃ t, v = .ref t) (h : 0 ≤ wi x ∧ wi x < wi l) : aM G yJ3_checkIndex_8e157 cJ3_checkIndex_8e157 3 (some .int) 0 0 0 [vI x, vI l, v] S (x, S) := by
  refine aM_of (by decide) (by rcases hv with rfl | ⟨t, rfl⟩ <;> exact Nat.le_of_ble_eq_true rfl) ?_
  have e : lv_args 0 [vI x, vI l, v] = [(0, vI x), (1, vI l), (2, v)] := rfl
  rw [e]
  show aW G cJ3_checkIndex_8e157 RJ3 "checkIndex" 3 (some .int) _ _ aX 0 0 _ _ 0 []
  refine a_iload_n 0 dJ3_checkIndex_8e157_0 rfl ?_
  refine a_if_lt (T := (none : Option Unit)) (F := some ()) (o := ()) 9 dJ3_checkIndex_8e157_1 (by decide) rfl (if_neg (by omega)) (fun c _ => absurd c (by omega)) (fun _ _ => ?_)
  refine a_iload_n 0 dJ3_checkIndex_8e157_4 rfl ?_
  refine a_iload_n 1 dJ3_checkIndex_8e157_5 rfl ?_
  refine a_icmp_lt (T := some ()) (F := (none : Option Unit)) (o := ()) 16 dJ3_checkIndex_8e157_6 (by decide) rfl rfl (if_pos h.2) (fun _ _ => ?_) (fun c _ => absurd h.2 c)
  refine a_iload_n 0 dJ3_checkIndex_8e157_16 rfl ?_
  exact a_iret dJ3_checkIndex_8e157_17 rfl rfl rfl
theorem T_check0 {G : sG} {S : sS} {x l : Int} (h : 0 ≤ wi x ∧ wi x < wi l) : aM G yJ0_checkIndex_df160 cJ0_checkIndex_df160 2 none 1 0 0 [vI x, vI l] S (0, S) := by
  refine aM_of (by decide) (Nat.le_of_ble_eq_true rfl) ?_
  show aW G cJ0_checkIndex_df160 RJ0 "checkIndex" 2 none _ _ aX 0 0 _ [(0, vI x), (1, vI l)] 0 []
  refine a_iload_n 0 dJ0_checkIndex_df160_0 rfl ?_
  refine a_iload_n 1 dJ0_checkIndex_df160_1 rfl ?_
  refine a_gsf dJ0_checkIndex_df160_2 kf_RJ0_1053 (fun v hv => ?_)
  refine a_callSI (As := [vI x, vI l, v]) dJ0_checkIndex_df160_5 mJ3_checkIndex_8e157 kv_J3_checkIndex_8e157 km_RJ0_1059 rfl (T_check3 hv h) (fun _ => rfl) rfl (Nat.le_of_ble_eq_true rfl) (Nat.le_of_ble_eq_true rfl) ⟨Nat.le_of_ble_eq_true rfl, Nat.le_of_ble_eq_true rfl⟩ (Nat.le_of_ble_eq_true rfl) ?_
  refine a_popI dJ0_checkIndex_df160_8 ?_
  exact a_vret dJ0_checkIndex_df160_9 rfl rfl
/-- the char of a constant -/
def strC (i : Nat) (k : Nat) : Int := ((strB.getD i []).getD k 0).toInt
theorem str_chr : ∀ i, i < 9 → ∀ k, k < 5 → q_c (q_and (strC i k) 255) = strC i k ∧ narrow .char (vI (strC i k)) = vI (strC i k) := by decide +kernel
theorem str_len : ∀ i, i < 9 → strL.getD i 0 ≤ 5 := by decide +kernel
theorem T_charAt1 {G : sG} {S : sS} {i : Nat} {x : Int} (hi : i < 9) (h : 0 ≤ wi x ∧ wi x < ((strL.getD i 0 : Nat) : Int)) : aM G yJ1_charAt_3b067 cJ1_charAt_3b067 2 (some .char) 2 0 0 [.ref (gV G i), vI x] S (strC i (wi x).toNat, S) := by
  have h5 := str_len i hi
  obtain ⟨e1, e2⟩ := str_chr i hi (wi x).toNat (by omega)
  refine aM_of (by decide) (Nat.le_of_ble_eq_true rfl) ?_
  show aW G cJ1_charAt_3b067 RJ1 "charAt" 2 (some .char) _ _ aX 0 0 _ [(0, .ref (gV G i)), (1, vI x)] 0 []
  refine a_iload_n 1 dJ1_charAt_3b067_0 rfl ?_
  refine a_aload_n 0 dJ1_charAt_3b067_1 rfl ?_
  refine a_slen dJ1_charAt_3b067_2 hi ?_
  refine a_callSV (As := [vI x, vI ((strL.getD i 0 : Nat) : Int)]) dJ1_charAt_3b067_3 mJ0_checkIndex_df160 kv_J0_checkIndex_df160 km_RJ1_9 rfl (T_check0 ⟨h.1, by rw [wi_id (by omega) (by omega) (z := ((strL.getD i 0 : Nat) : Int))]; exact h.2⟩) (fun _ => rfl) rfl (Nat.le_of_ble_eq_true rfl) (Nat.le_of_ble_eq_true rfl) ⟨Nat.le_of_ble_eq_true rfl, Nat.le_of_ble_eq_true rfl⟩ (Nat.le_of_ble_eq_true rfl) ?_
  refine a_aload_n 0 dJ1_charAt_3b067_6 rfl ?_
  refine a_iload_n 1 dJ1_charAt_3b067_7 rfl ?_
  refine a_sald dJ1_charAt_3b067_8 hi rfl h ?_
  refine a_sipush dJ1_charAt_3b067_9 (by decide) ?_
  refine a_iand dJ1_charAt_3b067_12 ?_
  refine a_i2c dJ1_charAt_3b067_13 ?_
  refine a_nret .char dJ1_charAt_3b067_14 rfl (fun _ => rfl) ?_ e1 rfl
  show narrow .char (vI (q_c (q_and (strC i (wi x).toNat) 255))) = vI (q_c (q_and (strC i (wi x).toNat) 255))
  rw [e1]; exact e2
theorem T_scharAt {G : sG} {S : sS} {i : Nat} {x : Int} (hi : i < 9) (h : 0 ≤ wi x ∧ wi x < ((strL.getD i 0 : Nat) : Int)) : aM G yJ0_charAt_5068e cJ0_charAt_5068e 2 (some .char) 3 0 0 [.ref (gK G i), vI x] S (strC i (wi x).toNat, S) := by
  have h5 := str_len i hi
  obtain ⟨e1, e2⟩ := str_chr i hi (wi x).toNat (by omega)
  refine aM_of (by decide) (Nat.le_of_ble_eq_true rfl) ?_
  show aW G cJ0_charAt_5068e RJ0 "charAt" 2 (some .char) _ _ aX 0 0 _ [(0, .ref (gK G i)), (1, vI x)] 0 []
  refine a_aload_n 0 dJ0_charAt_5068e_0 rfl ?_
  refine a_callVsI (As := []) dJ0_charAt_5068e_1 mJ0_isLatin1_aae02 rfl hi kv_J0_isLatin1_aae02 ks_J0_isLatin1_aae02 km_RJ0_492 rfl (T_isLatin1 hi) (fun _ => rfl) rfl (Nat.le_of_ble_eq_true rfl) (Nat.le_of_ble_eq_true rfl) ⟨Nat.le_of_ble_eq_true rfl, Nat.le_of_ble_eq_true rfl⟩ (Nat.le_of_ble_eq_true rfl) ?_
  refine a_if_eq (T := (none : Option Unit)) (F := some ()) (o := ()) 16 dJ0_charAt_5068e_4 (by decide) (x' := 1) (by decide) (by decide) (fun c _ => absurd c (by decide)) (fun _ _ => ?_)
  refine a_aload_n 0 dJ0_charAt_5068e_7 rfl ?_
  refine a_sval dJ0_charAt_5068e_8 hi kf_RJ0_9 ?_
  refine a_iload_n 1 dJ0_charAt_5068e_11 rfl ?_
  refine a_callSI (As := [.ref (gV G i), vI x]) dJ0_charAt_5068e_12 mJ1_charAt_3b067 kv_J1_charAt_3b067 km_RJ0_495 rfl (T_charAt1 hi h) (fun _ => rfl) rfl (Nat.le_of_ble_eq_true rfl) (Nat.le_of_ble_eq_true rfl) ⟨Nat.le_of_ble_eq_true rfl, Nat.le_of_ble_eq_true rfl⟩ (Nat.le_of_ble_eq_true rfl) ?_
  exact a_nret .char dJ0_charAt_5068e_15 rfl (fun _ => rfl) e2 rfl rfl
