def X4_endOfToken (F : Nat) (σ : sM) (a1 : Int) : Option Int := bp (X4_isBetween σ a1 97 122) (fun r1 => bp (X4_isBetween σ a1 48 57) (fun r3 => lp (fun K6 (q5 : Int) => if wi (σ 22 5) ≤ wi q5 then some q5 else jn (fun q8 : Unit => K6 (q5 + 1)) (fun K9 => jn (fun q10 : Unit => if wi r3 = 0 then some q5 else bp (X4_isBetween σ q5 48 57) (fun r13 => if wi r13 = 0 then some q5 else K9 ())) (fun K11 => if wi r1 = 0 then K11 () else bp (X4_isBetween σ q5 97 122) (fun r17 => if ¬ wi r17 = 0 then K9 () else K11 ())))) F (a1 + 1)))
set_option maxRecDepth 100000 in
set_option maxHeartbeats 400000 in
theorem T_X4_endOfToken {G : sG} {q_0 : qT} {x_0 : List Nat} {σ : sM} {r_0 : Int} {a1 : Int} {F : Nat}  (h : X4_endOfToken F σ a1 = some r_0) : aM G yX4_endOfToken cX4_endOfToken 5 (some .int) 1 0 0 [.ref (gP G 22), vI a1] (mkSh q_0 x_0, σ) (r_0, (mkSh q_0 x_0, σ)) := by
  unfold X4_endOfToken at h
  refine aM_of (by decide) (Nat.le_of_ble_eq_true rfl) ?_
  show aW G cX4_endOfToken RX4 "endOfToken" 5 (some .int) _ _ aX 0 0 _ [(0, .ref (gP G 22)), (1, vI a1)] 0 []
  refine a_aload_n 0 dX4_endOfToken_0 rfl ?_
  refine a_iload_n 1 dX4_endOfToken_1 rfl ?_
  refine a_bipush dX4_endOfToken_2 (by decide) ?_
  refine a_bipush dX4_endOfToken_4 (by decide) ?_
  refine bp_s h (fun r1 e2 h => ?_)
  refine a_callVI dX4_endOfToken_6 mX4_isBetween KX4 rfl kv_X4_isBetween ks_X4_isBetween rfl km_RX4_134 rfl (T_X4_isBetween e2) (fun _ => rfl) rfl (Nat.le_of_ble_eq_true rfl) (Nat.le_of_ble_eq_true rfl) ⟨(Nat.le_of_ble_eq_true rfl), (Nat.le_of_ble_eq_true rfl)⟩ (Nat.le_of_ble_eq_true rfl) ?_
  refine a_istore_n (L' := [(2, vI r1), (0, .ref (gP G 22)), (1, vI a1)]) dX4_endOfToken_9 (by decide) rfl ?_
  refine a_aload_n 1 dX4_endOfToken_10 rfl ?_
  refine a_iload_n 2 dX4_endOfToken_11 rfl ?_
  refine a_bipush dX4_endOfToken_12 (by decide) ?_
  refine a_bipush dX4_endOfToken_14 (by decide) ?_
  refine bp_s h (fun r3 e4 h => ?_)
  refine a_callVI dX4_endOfToken_16 mX4_isBetween KX4 rfl kv_X4_isBetween ks_X4_isBetween rfl km_RX4_134 rfl (T_X4_isBetween e4) (fun _ => rfl) rfl (Nat.le_of_ble_eq_true rfl) (Nat.le_of_ble_eq_true rfl) ⟨(Nat.le_of_ble_eq_true rfl), (Nat.le_of_ble_eq_true rfl)⟩ (Nat.le_of_ble_eq_true rfl) ?_
  refine a_istore_n (L' := [(3, vI r3), (2, vI r1), (0, .ref (gP G 22)), (1, vI a1)]) dX4_endOfToken_19 (by decide) rfl ?_
  refine a_iload_n 3 dX4_endOfToken_20 rfl ?_
  refine a_iconst dX4_endOfToken_21 ?_
  refine a_iadd dX4_endOfToken_22 ?_
  refine a_istore (L' := [(4, vI (a1 + 1)), (3, vI r3), (2, vI r1), (0, .ref (gP G 22)), (1, vI a1)]) dX4_endOfToken_23 (by decide) rfl ?_
  refine a_sub (L' := [(0, .ref (gP G 22)), (2, vI r1), (3, vI r3), (4, vI (a1 + 1))]) [3, 2, 1, 0] rfl (lp_s (x := (a1 + 1)) (fun q5 : Int => aW G cX4_endOfToken RX4 "endOfToken" 5 (some .int) (sR 1 0 0) (aQ G (some .int) 0 0 (r_0, (mkSh q_0 x_0, σ))) aX 0 0 (mkSh q_0 x_0, σ) [(0, .ref (gP G 22)), (2, vI r1), (3, vI r3), (4, vI q5)] 25 []) h (fun K6 hK6 q5 h => ?_))
  refine a_iload 3 dX4_endOfToken_25 rfl ?_
  refine a_aload_n 0 dX4_endOfToken_27 rfl ?_
  refine a_getI (j := 5) dX4_endOfToken_28 KX4 rfl (by decide) rfl kf_RX4_21 ?_
  refine a_icmp_ge 74 dX4_endOfToken_31 (by decide) rfl rfl h (fun c7 h => ?_) (fun c7 h => ?_)
  · skip
    refine a_iload 3 dX4_endOfToken_74 rfl ?_
    exact a_iret dX4_endOfToken_76 rfl (s_inj h) rfl
  · skip
    refine a_iload_n 1 dX4_endOfToken_34 rfl ?_
    refine jn_s (fun q8 : Unit => aW G cX4_endOfToken RX4 "endOfToken" 5 (some .int) (sR 1 0 0) (aQ G (some .int) 0 0 (r_0, (mkSh q_0 x_0, σ))) aX 0 0 (mkSh q_0 x_0, σ) [(0, .ref (gP G 22)), (2, vI r1), (3, vI r3), (4, vI q5)] 68 []) h (fun q8 h => ?_) (fun K9 hK9 h => ?_)
    · skip
      refine a_iinc (L' := [(4, vI (q5 + 1)), (0, .ref (gP G 22)), (2, vI r1), (3, vI r3)]) 3 dX4_endOfToken_68 rfl (by decide) rfl ?_
      refine a_goto 25 dX4_endOfToken_71 (by decide) ?_
      have hh := hK6 _ h
      exact a_sub [1, 2, 3, 0] rfl hh
    · skip
      refine jn_s (fun q10 : Unit => aW G cX4_endOfToken RX4 "endOfToken" 5 (some .int) (sR 1 0 0) (aQ G (some .int) 0 0 (r_0, (mkSh q_0 x_0, σ))) aX 0 0 (mkSh q_0 x_0, σ) [(0, .ref (gP G 22)), (2, vI r1), (3, vI r3), (4, vI q5)] 51 []) h (fun q10 h => ?_) (fun K11 hK11 h => ?_)
      · skip
        refine a_iload_n 2 dX4_endOfToken_51 rfl ?_
        refine a_if_eq 74 dX4_endOfToken_52 (by decide) rfl h (fun c12 h => ?_) (fun c12 h => ?_)
        · skip
          refine a_iload 3 dX4_endOfToken_74 rfl ?_
          exact a_iret dX4_endOfToken_76 rfl (s_inj h) rfl
        · skip
          refine a_aload_n 0 dX4_endOfToken_55 rfl ?_
          refine a_iload 3 dX4_endOfToken_56 rfl ?_
          refine a_bipush dX4_endOfToken_58 (by decide) ?_
          refine a_bipush dX4_endOfToken_60 (by decide) ?_
          refine bp_s h (fun r13 e14 h => ?_)
          refine a_callVI dX4_endOfToken_62 mX4_isBetween KX4 rfl kv_X4_isBetween ks_X4_isBetween rfl km_RX4_134 rfl (T_X4_isBetween e14) (fun _ => rfl) rfl (Nat.le_of_ble_eq_true rfl) (Nat.le_of_ble_eq_true rfl) ⟨(Nat.le_of_ble_eq_true rfl), (Nat.le_of_ble_eq_true rfl)⟩ (Nat.le_of_ble_eq_true rfl) ?_
          refine a_if_eq 74 dX4_endOfToken_65 (by decide) rfl h (fun c15 h => ?_) (fun c15 h => ?_)
          · skip
            refine a_iload 3 dX4_endOfToken_74 rfl ?_
            exact a_iret dX4_endOfToken_76 rfl (s_inj h) rfl
          · skip
            have hh := hK9 _ h
            exact a_sub [0, 1, 2, 3] rfl hh
      · skip
        refine a_if_eq 51 dX4_endOfToken_35 (by decide) rfl h (fun c16 h => ?_) (fun c16 h => ?_)
        · skip
          have hh := hK11 _ h
          exact a_sub [0, 1, 2, 3] rfl hh
        · skip
          refine a_aload_n 0 dX4_endOfToken_38 rfl ?_
          refine a_iload 3 dX4_endOfToken_39 rfl ?_
          refine a_bipush dX4_endOfToken_41 (by decide) ?_
          refine a_bipush dX4_endOfToken_43 (by decide) ?_
          refine bp_s h (fun r17 e18 h => ?_)
          refine a_callVI dX4_endOfToken_45 mX4_isBetween KX4 rfl kv_X4_isBetween ks_X4_isBetween rfl km_RX4_134 rfl (T_X4_isBetween e18) (fun _ => rfl) rfl (Nat.le_of_ble_eq_true rfl) (Nat.le_of_ble_eq_true rfl) ⟨(Nat.le_of_ble_eq_true rfl), (Nat.le_of_ble_eq_true rfl)⟩ (Nat.le_of_ble_eq_true rfl) ?_
          refine a_if_ne 68 dX4_endOfToken_48 (by decide) rfl h (fun c19 h => ?_) (fun c19 h => ?_)
          · skip
            have hh := hK9 _ h
            exact a_sub [0, 1, 2, 3] rfl hh
          · skip
            have hh := hK11 _ h
            exact a_sub [0, 1, 2, 3] rfl hh

def X4_numberOf (F : Nat) (σ : sM) (a1 a2 : Int) : Option Int := lp (fun K2 (q1 : Int × Int) => if wi q1.2 < 0 then some q1.1 else if wi a2 ≤ wi q1.2 then some q1.1 else if 400 ≤ wi q1.2 then some q1.1 else if 0 ≤ wi q1.2 ∧ wi q1.2 < 400 then K2 ((10 * q1.1) + ((σ 1 (wi q1.2).toNat) - 48), q1.2 + 1) else none) F (0, a1)
set_option maxRecDepth 100000 in
set_option maxHeartbeats 400000 in
theorem T_X4_numberOf {G : sG} {q_0 : qT} {x_0 : List Nat} {σ : sM} {r_0 : Int} {a1 a2 : Int} {F : Nat}  (h : X4_numberOf F σ a1 a2 = some r_0) : aM G yX4_numberOf cX4_numberOf 5 (some .int) 0 0 0 [.ref (gP G 22), vI a1, vI a2] (mkSh q_0 x_0, σ) (r_0, (mkSh q_0 x_0, σ)) := by
  unfold X4_numberOf at h
  refine aM_of (by decide) (Nat.le_of_ble_eq_true rfl) ?_
  show aW G cX4_numberOf RX4 "numberOf" 5 (some .int) _ _ aX 0 0 _ [(0, .ref (gP G 22)), (1, vI a1), (2, vI a2)] 0 []
  refine a_iconst dX4_numberOf_0 ?_
  refine a_istore_n (L' := [(3, vI 0), (0, .ref (gP G 22)), (1, vI a1), (2, vI a2)]) dX4_numberOf_1 (by decide) rfl ?_
  refine a_iload_n 2 dX4_numberOf_2 rfl ?_
  refine a_istore (L' := [(4, vI a1), (3, vI 0), (0, .ref (gP G 22)), (1, vI a1), (2, vI a2)]) dX4_numberOf_3 (by decide) rfl ?_
  refine a_sub (L' := [(0, .ref (gP G 22)), (2, vI a2), (3, vI 0), (4, vI a1)]) [2, 4, 1, 0] rfl (lp_s (x := (0, a1)) (fun q1 : Int × Int => aW G cX4_numberOf RX4 "numberOf" 5 (some .int) (sR 0 0 0) (aQ G (some .int) 0 0 (r_0, (mkSh q_0 x_0, σ))) aX 0 0 (mkSh q_0 x_0, σ) [(0, .ref (gP G 22)), (2, vI a2), (3, vI q1.1), (4, vI q1.2)] 5 []) h (fun K2 hK2 q1 h => ?_))
  refine a_iload 3 dX4_numberOf_5 rfl ?_
  refine a_if_lt 48 dX4_numberOf_7 (by decide) rfl h (fun c3 h => ?_) (fun c3 h => ?_)
  · skip
    refine a_iload_n 2 dX4_numberOf_48 rfl ?_
    exact a_iret dX4_numberOf_49 rfl (s_inj h) rfl
  · skip
    refine a_iload 3 dX4_numberOf_10 rfl ?_
    refine a_iload_n 1 dX4_numberOf_12 rfl ?_
    refine a_icmp_ge 48 dX4_numberOf_13 (by decide) rfl rfl h (fun c4 h => ?_) (fun c4 h => ?_)
    · skip
      refine a_iload_n 2 dX4_numberOf_48 rfl ?_
      exact a_iret dX4_numberOf_49 rfl (s_inj h) rfl
    · skip
      refine a_iload 3 dX4_numberOf_16 rfl ?_
      refine a_aload_n 0 dX4_numberOf_18 rfl ?_
      refine a_getR (j := 0) dX4_numberOf_19 KX4 rfl (by decide) rfl kf_RX4_34 ?_
      refine a_alenB dX4_numberOf_22 rfl ?_
      refine a_icmp_ge 48 dX4_numberOf_23 (by decide) rfl (by decide) h (fun c5 h => ?_) (fun c5 h => ?_)
      · skip
        refine a_iload_n 2 dX4_numberOf_48 rfl ?_
        exact a_iret dX4_numberOf_49 rfl (s_inj h) rfl
      · skip
        refine a_bipush dX4_numberOf_26 (by decide) ?_
        refine a_iload_n 2 dX4_numberOf_28 rfl ?_
        refine a_imul dX4_numberOf_29 ?_
        refine a_aload_n 0 dX4_numberOf_30 rfl ?_
        refine a_getR (j := 0) dX4_numberOf_31 KX4 rfl (by decide) rfl kf_RX4_34 ?_
        refine a_iload 3 dX4_numberOf_34 rfl ?_
        refine a_gd h (fun c6 h => ?_)
        refine a_bald (x' := wi q1.2) dX4_numberOf_36 rfl rfl c6 rfl ?_
        refine a_bipush dX4_numberOf_37 (by decide) ?_
        refine a_isub dX4_numberOf_39 ?_
        refine a_iadd dX4_numberOf_40 ?_
        refine a_istore_n (L' := [(3, vI ((10 * q1.1) + ((σ 1 (wi q1.2).toNat) - 48))), (0, .ref (gP G 22)), (2, vI a2), (4, vI q1.2)]) dX4_numberOf_41 (by decide) rfl ?_
        refine a_iinc (L' := [(4, vI (q1.2 + 1)), (3, vI ((10 * q1.1) + ((σ 1 (wi q1.2).toNat) - 48))), (0, .ref (gP G 22)), (2, vI a2)]) 3 dX4_numberOf_42 rfl (by decide) rfl ?_
        refine a_goto 5 dX4_numberOf_45 (by decide) ?_
        have hh := hK2 _ h
        exact a_sub [2, 3, 1, 0] rfl hh

def X4_isWord (F : Nat) (o1 : Nat) (σ : sM) (a2 a3 : Int) : Option Int := if ¬ wi (a3 - a2) = wi ((strL.getD o1 0 : Nat) : Int) then some 0 else if wi a2 < 0 then some 0 else if wi a3 ≤ 400 then lp (fun K5 (q4 : Int) => if wi ((strL.getD o1 0 : Nat) : Int) ≤ wi q4 then some 1 else if 0 ≤ wi (a2 + q4) ∧ wi (a2 + q4) < 400 then if 0 ≤ wi q4 ∧ wi q4 < ((strL.getD o1 0 : Nat) : Int) then if wi (σ 1 (wi (a2 + q4)).toNat) = wi (strC o1 (wi q4).toNat) then K5 (q4 + 1) else some 0 else none else none) F 0 else some 0
set_option maxRecDepth 100000 in
set_option maxHeartbeats 400000 in
theorem T_X4_isWord {G : sG} {q_0 : qT} {x_0 : List Nat} {σ : sM} {r_0 : Int} {a2 a3 : Int} {o1 : Nat} {F : Nat} (h_o1 : o1 < 9) (h : X4_isWord F o1 σ a2 a3 = some r_0) : aM G yX4_isWord cX4_isWord 5 (some .boolean) 4 0 0 [.ref (gP G 22), .ref (gK G o1), vI a2, vI a3] (mkSh q_0 x_0, σ) (r_0, (mkSh q_0 x_0, σ)) := by
  unfold X4_isWord at h
  refine aM_of (by decide) (Nat.le_of_ble_eq_true rfl) ?_
  show aW G cX4_isWord RX4 "isWord" 5 (some .boolean) _ _ aX 0 0 _ [(0, .ref (gP G 22)), (1, .ref (gK G o1)), (2, vI a2), (3, vI a3)] 0 []
  refine a_iload_n 3 dX4_isWord_0 rfl ?_
  refine a_iload_n 2 dX4_isWord_1 rfl ?_
  refine a_isub dX4_isWord_2 ?_
  refine a_aload_n 1 dX4_isWord_3 rfl ?_
  refine a_callVsI (As := []) dX4_isWord_4 mJ0_length_8abf5 rfl h_o1 kv_J0_length_8abf5 ks_J0_length_8abf5 km_RX4_162 rfl (T_slength h_o1) (fun _ => rfl) rfl (Nat.le_of_ble_eq_true rfl) (Nat.le_of_ble_eq_true rfl) ⟨(Nat.le_of_ble_eq_true rfl), (Nat.le_of_ble_eq_true rfl)⟩ (Nat.le_of_ble_eq_true rfl) ?_
  refine a_icmp_ne 23 dX4_isWord_7 (by decide) rfl rfl h (fun c1 h => ?_) (fun c1 h => ?_)
  · skip
    refine a_iconst dX4_isWord_23 ?_
    exact a_zret dX4_isWord_24 rfl (by decide) (s_inj h) rfl
  · skip
    refine a_iload_n 2 dX4_isWord_10 rfl ?_
    refine a_if_lt 23 dX4_isWord_11 (by decide) rfl h (fun c2 h => ?_) (fun c2 h => ?_)
    · skip
      refine a_iconst dX4_isWord_23 ?_
      exact a_zret dX4_isWord_24 rfl (by decide) (s_inj h) rfl
    · skip
      refine a_iload_n 3 dX4_isWord_14 rfl ?_
      refine a_aload_n 0 dX4_isWord_15 rfl ?_
      refine a_getR (j := 0) dX4_isWord_16 KX4 rfl (by decide) rfl kf_RX4_34 ?_
      refine a_alenB dX4_isWord_19 rfl ?_
      refine a_icmp_le 25 dX4_isWord_20 (by decide) rfl (by decide) h (fun c3 h => ?_) (fun c3 h => ?_)
      · skip
        refine a_iconst dX4_isWord_25 ?_
        refine a_istore (L' := [(4, vI 0), (0, .ref (gP G 22)), (1, .ref (gK G o1)), (2, vI a2), (3, vI a3)]) dX4_isWord_26 (by decide) rfl ?_
        refine a_sub (L' := [(0, .ref (gP G 22)), (1, .ref (gK G o1)), (2, vI a2), (4, vI 0)]) [1, 2, 3, 0] rfl (lp_s (x := 0) (fun q4 : Int => aW G cX4_isWord RX4 "isWord" 5 (some .boolean) (sR 4 0 0) (aQ G (some .boolean) 0 0 (r_0, (mkSh q_0 x_0, σ))) aX 0 0 (mkSh q_0 x_0, σ) [(0, .ref (gP G 22)), (1, .ref (gK G o1)), (2, vI a2), (4, vI q4)] 28 []) h (fun K5 hK5 q4 h => ?_))
        refine a_iload 3 dX4_isWord_28 rfl ?_
        refine a_aload_n 1 dX4_isWord_30 rfl ?_
        refine a_callVsI (As := []) dX4_isWord_31 mJ0_length_8abf5 rfl h_o1 kv_J0_length_8abf5 ks_J0_length_8abf5 km_RX4_162 rfl (T_slength h_o1) (fun _ => rfl) rfl (Nat.le_of_ble_eq_true rfl) (Nat.le_of_ble_eq_true rfl) ⟨(Nat.le_of_ble_eq_true rfl), (Nat.le_of_ble_eq_true rfl)⟩ (Nat.le_of_ble_eq_true rfl) ?_
        refine a_icmp_ge 63 dX4_isWord_34 (by decide) rfl rfl h (fun c6 h => ?_) (fun c6 h => ?_)
        · skip
          refine a_iconst dX4_isWord_63 ?_
          exact a_zret dX4_isWord_64 rfl (by decide) (s_inj h) rfl
        · skip
          refine a_aload_n 0 dX4_isWord_37 rfl ?_
          refine a_getR (j := 0) dX4_isWord_38 KX4 rfl (by decide) rfl kf_RX4_34 ?_
          refine a_iload_n 2 dX4_isWord_41 rfl ?_
          refine a_iload 3 dX4_isWord_42 rfl ?_
          refine a_iadd dX4_isWord_44 ?_
          refine a_gd h (fun c7 h => ?_)
          refine a_bald (x' := wi (a2 + q4)) dX4_isWord_45 rfl rfl c7 rfl ?_
          refine a_aload_n 1 dX4_isWord_46 rfl ?_
          refine a_iload 3 dX4_isWord_47 rfl ?_
          refine a_gd h (fun c8 h => ?_)
          refine a_callVsI (As := [vI q4]) dX4_isWord_49 mJ0_charAt_5068e rfl h_o1 kv_J0_charAt_5068e ks_J0_charAt_5068e km_RX4_167 rfl (T_scharAt h_o1 c8) (fun _ => rfl) rfl (Nat.le_of_ble_eq_true rfl) (Nat.le_of_ble_eq_true rfl) ⟨(Nat.le_of_ble_eq_true rfl), (Nat.le_of_ble_eq_true rfl)⟩ (Nat.le_of_ble_eq_true rfl) ?_
          refine a_icmp_eq 57 dX4_isWord_52 (by decide) rfl rfl h (fun c9 h => ?_) (fun c9 h => ?_)
          · skip
            refine a_iinc (L' := [(4, vI (q4 + 1)), (0, .ref (gP G 22)), (1, .ref (gK G o1)), (2, vI a2)]) 3 dX4_isWord_57 rfl (by decide) rfl ?_
            refine a_goto 28 dX4_isWord_60 (by decide) ?_
            have hh := hK5 _ h
            exact a_sub [1, 2, 3, 0] rfl hh
          · skip
            refine a_iconst dX4_isWord_55 ?_
            exact a_zret dX4_isWord_56 rfl (by decide) (s_inj h) rfl
      · skip
        refine a_iconst dX4_isWord_23 ?_
        exact a_zret dX4_isWord_24 rfl (by decide) (s_inj h) rfl

def X5_startAt (F : Nat) (o0 : Nat) (σ : sM) (a1 : Int) : Option (Int × sM) := lp (fun K2 (q1 : sM × Int) => if 4 ≤ wi q1.2 then some (0, q1.1) else jn (fun q4 : Int => if 0 ≤ wi q1.2 ∧ wi q1.2 < 4 then K2 ((sU q1.1 (o0 + 1) (wi q1.2).toNat q4), q1.2 + 1) else none) (fun K5 => if ¬ wi q1.2 = wi a1 then K5 0 else K5 1)) F (σ, 0)
set_option maxRecDepth 100000 in
set_option maxHeartbeats 400000 in
theorem T_X5_startAt {G : sG} {Sh_0 : List sE} {σ s_0 : sM} {r_0 : Int} {a1 : Int} {o0 : Nat} {F : Nat} (h_o0 : (Sh_0)[o0]? = some (.inl (5, [.ref (o0 + 1)]))) (g_o0 : (Sh_0)[o0 + 1]? = some (.inr (.long, 4, gN))) (h : X5_startAt F o0 σ a1 = some (r_0, s_0)) : aM G yX5_startAt cX5_startAt 3 none 0 0 0 [.ref (gP G o0), vI a1] (Sh_0, σ) (r_0, (Sh_0, s_0)) := by
  unfold X5_startAt at h
  refine aM_of (by decide) (Nat.le_of_ble_eq_true rfl) ?_
  show aW G cX5_startAt RX5 "startAt" 3 none _ _ aX 0 0 _ [(0, .ref (gP G o0)), (1, vI a1)] 0 []
  refine a_iconst dX5_startAt_0 ?_
  refine a_istore_n (L' := [(2, vI 0), (0, .ref (gP G o0)), (1, vI a1)]) dX5_startAt_1 (by decide) rfl ?_
  refine a_sub (L' := [(0, .ref (gP G o0)), (1, vI a1), (2, vI 0)]) [1, 2, 0] rfl (lp_s (x := (σ, 0)) (fun q1 : sM × Int => aW G cX5_startAt RX5 "startAt" 3 none (sR 0 0 0) (aQ G none 0 0 (r_0, (Sh_0, s_0))) aX 0 0 (Sh_0, q1.1) [(0, .ref (gP G o0)), (1, vI a1), (2, vI q1.2)] 2 []) h (fun K2 hK2 q1 h => ?_))
  refine a_iload_n 2 dX5_startAt_2 rfl ?_
  refine a_iconst dX5_startAt_3 ?_
  refine a_icmp_ge 29 dX5_startAt_4 (by decide) rfl (by decide) h (fun c3 h => ?_) (fun c3 h => ?_)
  · skip
    exact a_vret dX5_startAt_29 rfl (p_S (p_2 h))
  · skip
    refine a_aload_n 0 dX5_startAt_7 rfl ?_
    refine a_getR (j := 0) dX5_startAt_8 KX5 h_o0 (by decide) rfl kf_RX5_9 ?_
    refine a_iload_n 2 dX5_startAt_11 rfl ?_
    refine a_iload_n 2 dX5_startAt_12 rfl ?_
    refine a_iload_n 1 dX5_startAt_13 rfl ?_
    refine jn_s (fun q4 : Int => aW G cX5_startAt RX5 "startAt" 3 none (sR 0 0 0) (aQ G none 0 0 (r_0, (Sh_0, s_0))) aX 0 0 (Sh_0, q1.1) [(0, .ref (gP G o0)), (1, vI a1), (2, vI q1.2)] 22 [vL q4, vI q1.2, .ref (gP G (o0 + 1))]) h (fun q4 h => ?_) (fun K5 hK5 h => ?_)
    · skip
      refine a_gd h (fun c6 h => ?_)
      refine a_last (x' := wi q1.2) dX5_startAt_22 g_o0 rfl c6 rfl ?_
      refine a_iinc (L' := [(2, vI (q1.2 + 1)), (0, .ref (gP G o0)), (1, vI a1)]) 2 dX5_startAt_23 rfl (by decide) rfl ?_
      refine a_goto 2 dX5_startAt_26 (by decide) ?_
      have hh := hK2 _ h
      exact a_sub [1, 2, 0] rfl hh
    · skip
      refine a_icmp_ne 21 dX5_startAt_14 (by decide) rfl rfl h (fun c7 h => ?_) (fun c7 h => ?_)
      · skip
        refine a_lconst (z := 0) dX5_startAt_21 (by decide) ?_
        have hh := hK5 _ h
        exact a_sub [0, 1, 2] rfl hh
      · skip
        refine a_lconst (z := 1) dX5_startAt_17 (by decide) ?_
        refine a_goto 22 dX5_startAt_18 (by decide) ?_
        have hh := hK5 _ h
        exact a_sub [0, 1, 2] rfl hh

def X5_becomeLike (o0 o1 : Nat) (σ : sM) : Option (Int × sM) := some (0, (sUc σ (o0 + 1) (fun j => if j < 4 then σ (o1 + 1) j else σ (o0 + 1) j)))
set_option maxRecDepth 100000 in
set_option maxHeartbeats 400000 in
theorem T_X5_becomeLike {G : sG} {q_0 : qT} {x_0 : List Nat} {σ s_0 : sM} {r_0 : Int} {o0 o1 : Nat} (h_o0 : (mkSh q_0 x_0)[o0]? = some (.inl (5, [.ref (o0 + 1)]))) (g_o0 : (mkSh q_0 x_0)[o0 + 1]? = some (.inr (.long, 4, gN))) (h_o1 : (mkSh q_0 x_0)[o1]? = some (.inl (5, [.ref (o1 + 1)]))) (g_o1 : (mkSh q_0 x_0)[o1 + 1]? = some (.inr (.long, 4, gN))) (h : X5_becomeLike o0 o1 σ = some (r_0, s_0)) : aM G yX5_becomeLike cX5_becomeLike 2 none 1 0 0 [.ref (gP G o0), .ref (gP G o1)] (mkSh q_0 x_0, σ) (r_0, (mkSh q_0 x_0, s_0)) := by
  unfold X5_becomeLike at h
  refine aM_of (by decide) (Nat.le_of_ble_eq_true rfl) ?_
  show aW G cX5_becomeLike RX5 "becomeLike" 2 none _ _ aX 0 0 _ [(0, .ref (gP G o0)), (1, .ref (gP G o1))] 0 []
  refine a_aload_n 1 dX5_becomeLike_0 rfl ?_
  refine a_getR (j := 0) dX5_becomeLike_1 KX5 h_o1 (by decide) rfl kf_RX5_9 ?_
  refine a_iconst dX5_becomeLike_4 ?_
  refine a_aload_n 0 dX5_becomeLike_5 rfl ?_
  refine a_getR (j := 0) dX5_becomeLike_6 KX5 h_o0 (by decide) rfl kf_RX5_9 ?_
  refine a_iconst dX5_becomeLike_9 ?_
  refine a_iconst dX5_becomeLike_10 ?_
  refine a_cpyL (N := 4) dX5_becomeLike_11 km_RX5_15 kx_arraycopy kx_arraycopyS ki_RJ10 g_o1 g_o0 (by decide) (Nat.le_of_ble_eq_true rfl) (Nat.le_of_ble_eq_true rfl) ⟨Nat.le_of_ble_eq_true rfl, Nat.le_trans nfw_ok (Nat.le_of_ble_eq_true rfl)⟩ (Nat.le_of_ble_eq_true rfl) ?_
  exact a_vret dX5_becomeLike_14 rfl (p_S (p_2 h))

def X5_weightOf (o0 : Nat) (σ : sM) (a1 : Int) : Option Int := jn (fun q1 : Unit => some 0) (fun K2 => if wi a1 < 0 then K2 () else if 4 ≤ wi a1 then K2 () else if 0 ≤ wi a1 ∧ wi a1 < 4 then some (σ (o0 + 1) (wi a1).toNat) else none)
set_option maxRecDepth 100000 in
set_option maxHeartbeats 400000 in
theorem T_X5_weightOf {G : sG} {q_0 : qT} {x_0 : List Nat} {σ : sM} {r_0 : Int} {a1 : Int} {o0 : Nat} (h_o0 : (mkSh q_0 x_0)[o0]? = some (.inl (5, [.ref (o0 + 1)]))) (g_o0 : (mkSh q_0 x_0)[o0 + 1]? = some (.inr (.long, 4, gN))) (h : X5_weightOf o0 σ a1 = some r_0) : aM G yX5_weightOf cX5_weightOf 2 (some .long) 0 0 0 [.ref (gP G o0), vI a1] (mkSh q_0 x_0, σ) (r_0, (mkSh q_0 x_0, σ)) := by
  unfold X5_weightOf at h
  refine aM_of (by decide) (Nat.le_of_ble_eq_true rfl) ?_
  show aW G cX5_weightOf RX5 "weightOf" 2 (some .long) _ _ aX 0 0 _ [(0, .ref (gP G o0)), (1, vI a1)] 0 []
  refine a_iload_n 1 dX5_weightOf_0 rfl ?_
  refine jn_s (fun q1 : Unit => aW G cX5_weightOf RX5 "weightOf" 2 (some .long) (sR 0 0 0) (aQ G (some .long) 0 0 (r_0, (mkSh q_0 x_0, σ))) aX 0 0 (mkSh q_0 x_0, σ) [] 18 []) h (fun q1 h => ?_) (fun K2 hK2 h => ?_)
  · skip
    refine a_lconst (z := 0) dX5_weightOf_18 (by decide) ?_
    exact a_lret dX5_weightOf_19 rfl (s_inj h) rfl
  · skip
    refine a_if_lt 18 dX5_weightOf_1 (by decide) rfl h (fun c3 h => ?_) (fun c3 h => ?_)
    · skip
      have hh := hK2 _ h
      exact a_sub [] rfl hh
    · skip
      refine a_iload_n 1 dX5_weightOf_4 rfl ?_
      refine a_iconst dX5_weightOf_5 ?_
      refine a_icmp_ge 18 dX5_weightOf_6 (by decide) rfl (by decide) h (fun c4 h => ?_) (fun c4 h => ?_)
      · skip
        have hh := hK2 _ h
        exact a_sub [] rfl hh
      · skip
        refine a_aload_n 0 dX5_weightOf_9 rfl ?_
        refine a_getR (j := 0) dX5_weightOf_10 KX5 h_o0 (by decide) rfl kf_RX5_9 ?_
        refine a_iload_n 1 dX5_weightOf_13 rfl ?_
        refine a_gd h (fun c5 h => ?_)
        refine a_lald (x' := wi a1) dX5_weightOf_14 g_o0 rfl c5 rfl ?_
        refine a_goto 19 dX5_weightOf_15 (by decide) ?_
        exact a_lret dX5_weightOf_19 rfl (s_inj h) rfl

def X5_total (o0 : Nat) (σ : sM) : Option Int := some ((((σ (o0 + 1) 0) + (σ (o0 + 1) 1)) + (σ (o0 + 1) 2)) + (σ (o0 + 1) 3))
set_option maxRecDepth 100000 in
set_option maxHeartbeats 400000 in
theorem T_X5_total {G : sG} {q_0 : qT} {x_0 : List Nat} {σ : sM} {r_0 : Int} {o0 : Nat} (h_o0 : (mkSh q_0 x_0)[o0]? = some (.inl (5, [.ref (o0 + 1)]))) (g_o0 : (mkSh q_0 x_0)[o0 + 1]? = some (.inr (.long, 4, gN))) (h : X5_total o0 σ = some r_0) : aM G yX5_total cX5_total 1 (some .long) 0 0 0 [.ref (gP G o0)] (mkSh q_0 x_0, σ) (r_0, (mkSh q_0 x_0, σ)) := by
  unfold X5_total at h
  refine aM_of (by decide) (Nat.le_of_ble_eq_true rfl) ?_
  show aW G cX5_total RX5 "total" 1 (some .long) _ _ aX 0 0 _ [(0, .ref (gP G o0))] 0 []
  refine a_aload_n 0 dX5_total_0 rfl ?_
  refine a_getR (j := 0) dX5_total_1 KX5 h_o0 (by decide) rfl kf_RX5_9 ?_
  refine a_iconst dX5_total_4 ?_
  refine a_lald (x' := 0) dX5_total_5 g_o0 (by decide) (by decide) rfl ?_
  refine a_aload_n 0 dX5_total_6 rfl ?_
  refine a_getR (j := 0) dX5_total_7 KX5 h_o0 (by decide) rfl kf_RX5_9 ?_
  refine a_iconst dX5_total_10 ?_
  refine a_lald (x' := 1) dX5_total_11 g_o0 (by decide) (by decide) rfl ?_
  refine a_ladd dX5_total_12 ?_
  refine a_aload_n 0 dX5_total_13 rfl ?_
  refine a_getR (j := 0) dX5_total_14 KX5 h_o0 (by decide) rfl kf_RX5_9 ?_
  refine a_iconst dX5_total_17 ?_
  refine a_lald (x' := 2) dX5_total_18 g_o0 (by decide) (by decide) rfl ?_
  refine a_ladd dX5_total_19 ?_
  refine a_aload_n 0 dX5_total_20 rfl ?_
  refine a_getR (j := 0) dX5_total_21 KX5 h_o0 (by decide) rfl kf_RX5_9 ?_
  refine a_iconst dX5_total_24 ?_
  refine a_lald (x' := 3) dX5_total_25 g_o0 (by decide) (by decide) rfl ?_
  refine a_ladd dX5_total_26 ?_
  exact a_lret dX5_total_27 rfl (s_inj h) rfl

def X5_allGood (F : Nat) (o0 : Nat) (σ : sM) (a2 : Int) : Option Int := lp (fun K2 (q1 : Int × Int) => if 4 ≤ wi q1.2 then some q1.1 else if 0 ≤ wi q1.2 ∧ wi q1.2 < 4 then bp (X1_trait σ a2 (0 + q1.2)) (fun r5 => nm (q1.1 + ((σ (o0 + 1) (wi q1.2).toNat) * (wi r5))) (fun y7 => K2 (y7, q1.2 + 1))) else none) F (0, 0)
set_option maxRecDepth 100000 in
set_option maxHeartbeats 400000 in
theorem T_X5_allGood {G : sG} {q_0 : qT} {x_0 : List Nat} {σ : sM} {r_0 : Int} {a2 : Int} {o0 : Nat} {F : Nat} (h_o0 : (mkSh q_0 x_0)[o0]? = some (.inl (5, [.ref (o0 + 1)]))) (g_o0 : (mkSh q_0 x_0)[o0 + 1]? = some (.inr (.long, 4, gN))) (h : X5_allGood F o0 σ a2 = some r_0) : aM G yX5_allGood cX5_allGood 6 (some .long) 1 0 0 [.ref (gP G o0), .ref (gP G 2), vI a2] (mkSh q_0 x_0, σ) (r_0, (mkSh q_0 x_0, σ)) := by
  unfold X5_allGood at h
  refine aM_of (by decide) (Nat.le_of_ble_eq_true rfl) ?_
  show aW G cX5_allGood RX5 "allGood" 6 (some .long) _ _ aX 0 0 _ [(0, .ref (gP G o0)), (1, .ref (gP G 2)), (2, vI a2)] 0 []
  refine a_lconst (z := 0) dX5_allGood_0 (by decide) ?_
  refine a_lstore_n (L' := [(3, vL 0), (0, .ref (gP G o0)), (1, .ref (gP G 2)), (2, vI a2)]) dX5_allGood_1 (by decide) rfl ?_
  refine a_iconst dX5_allGood_2 ?_
  refine a_istore (L' := [(5, vI 0), (3, vL 0), (0, .ref (gP G o0)), (1, .ref (gP G 2)), (2, vI a2)]) dX5_allGood_3 (by decide) rfl ?_
  refine a_sub (L' := [(0, .ref (gP G o0)), (1, .ref (gP G 2)), (2, vI a2), (3, vL 0), (5, vI 0)]) [2, 3, 4, 1, 0] rfl (lp_s (x := (0, 0)) (fun q1 : Int × Int => aW G cX5_allGood RX5 "allGood" 6 (some .long) (sR 1 0 0) (aQ G (some .long) 0 0 (r_0, (mkSh q_0 x_0, σ))) aX 0 0 (mkSh q_0 x_0, σ) [(0, .ref (gP G o0)), (1, .ref (gP G 2)), (2, vI a2), (3, vL q1.1), (5, vI q1.2)] 5 []) h (fun K2 hK2 q1 h => ?_))
  refine a_iload 4 dX5_allGood_5 rfl ?_
  refine a_iconst dX5_allGood_7 ?_
  refine a_icmp_ge 38 dX5_allGood_8 (by decide) rfl (by decide) h (fun c3 h => ?_) (fun c3 h => ?_)
  · skip
    refine a_lload_n 3 dX5_allGood_38 rfl ?_
    exact a_lret dX5_allGood_39 rfl (s_inj h) rfl
  · skip
    refine a_lload_n 3 dX5_allGood_11 rfl ?_
    refine a_aload_n 0 dX5_allGood_12 rfl ?_
    refine a_getR (j := 0) dX5_allGood_13 KX5 h_o0 (by decide) rfl kf_RX5_9 ?_
    refine a_iload 4 dX5_allGood_16 rfl ?_
    refine a_gd h (fun c4 h => ?_)
    refine a_lald (x' := wi q1.2) dX5_allGood_18 g_o0 rfl c4 rfl ?_
    refine a_aload_n 1 dX5_allGood_19 rfl ?_
    refine a_iload_n 2 dX5_allGood_20 rfl ?_
    refine a_iconst dX5_allGood_21 ?_
    refine a_iload 4 dX5_allGood_22 rfl ?_
    refine a_iadd dX5_allGood_24 ?_
    refine bp_s h (fun r5 e6 h => ?_)
    refine a_callVI dX5_allGood_25 mX1_trait KX1 rfl kv_X1_trait ks_X1_trait rfl km_RX5_21 rfl (T_X1_trait e6) (fun _ => rfl) rfl (Nat.le_of_ble_eq_true rfl) (Nat.le_of_ble_eq_true rfl) ⟨(Nat.le_of_ble_eq_true rfl), (Nat.le_of_ble_eq_true rfl)⟩ (Nat.le_of_ble_eq_true rfl) ?_
    refine a_i2l dX5_allGood_28 ?_
    refine a_lmul dX5_allGood_29 ?_
    refine a_ladd dX5_allGood_30 ?_
    refine a_nmL h (fun y7 w8 h => ?_)
    refine a_lstore_n (L' := [(3, vL y7), (0, .ref (gP G o0)), (1, .ref (gP G 2)), (2, vI a2), (5, vI q1.2)]) dX5_allGood_31 (by decide) rfl ?_
    refine a_iinc (L' := [(5, vI (q1.2 + 1)), (3, vL y7), (0, .ref (gP G o0)), (1, .ref (gP G 2)), (2, vI a2)]) 4 dX5_allGood_32 rfl (by decide) rfl ?_
    refine a_goto 5 dX5_allGood_35 (by decide) ?_
    have hh := hK2 _ h
    exact a_sub [2, 3, 4, 1, 0] rfl hh

def X5_weekGoesBy (F : Nat) (o0 : Nat) (σ : sM) (a2 a3 a4 : Int) : Option (Int × sM) := lp (fun K2 (q1 : sM × Int) => if wi q1.2 < 0 then some (0, q1.1) else bp (X1_tenths q1.1 a2 q1.2 a3 a4) (fun r4 => if 0 ≤ wi (q1.2 + 1) ∧ wi (q1.2 + 1) < 4 then if 0 ≤ wi q1.2 ∧ wi q1.2 < 4 then if 0 ≤ wi (q1.2 + 1) ∧ wi (q1.2 + 1) < 4 then nm (sU q1.1 (o0 + 1) (wi (q1.2 + 1)).toNat ((q1.1 (o0 + 1) (wi (q1.2 + 1)).toNat) + ((q1.1 (o0 + 1) (wi q1.2).toNat) * (wi r4)))) (fun σ9 => if 0 ≤ wi q1.2 ∧ wi q1.2 < 4 then if 0 ≤ wi q1.2 ∧ wi q1.2 < 4 then K2 ((sU σ9 (o0 + 1) (wi q1.2).toNat ((σ9 (o0 + 1) (wi q1.2).toNat) * (wi (10 - r4)))), q1.2 + (-1)) else none else none) else none else none else none)) F ((sU σ (o0 + 1) 3 ((σ (o0 + 1) 3) * 10)), 2)
set_option maxRecDepth 100000 in
set_option maxHeartbeats 400000 in
theorem T_X5_weekGoesBy {G : sG} {q_0 : qT} {x_0 : List Nat} {σ s_0 : sM} {r_0 : Int} {a2 a3 a4 : Int} {o0 : Nat} {F : Nat} (h_o0 : (mkSh q_0 x_0)[o0]? = some (.inl (5, [.ref (o0 + 1)]))) (g_o0 : (mkSh q_0 x_0)[o0 + 1]? = some (.inr (.long, 4, gN))) (h : X5_weekGoesBy F o0 σ a2 a3 a4 = some (r_0, s_0)) : aM G yX5_weekGoesBy cX5_weekGoesBy 7 none 2 0 0 [.ref (gP G o0), .ref (gP G 2), vI a2, vI a3, vI a4] (mkSh q_0 x_0, σ) (r_0, (mkSh q_0 x_0, s_0)) := by
  unfold X5_weekGoesBy at h
  refine aM_of (by decide) (Nat.le_of_ble_eq_true rfl) ?_
  show aW G cX5_weekGoesBy RX5 "weekGoesBy" 7 none _ _ aX 0 0 _ [(0, .ref (gP G o0)), (1, .ref (gP G 2)), (2, vI a2), (3, vI a3), (4, vI a4)] 0 []
  refine a_aload_n 0 dX5_weekGoesBy_0 rfl ?_
  refine a_getR (j := 0) dX5_weekGoesBy_1 KX5 h_o0 (by decide) rfl kf_RX5_9 ?_
  refine a_iconst dX5_weekGoesBy_4 ?_
  refine a_dup2 dX5_weekGoesBy_5 ?_
  refine a_lald (x' := 3) dX5_weekGoesBy_6 g_o0 (by decide) (by decide) rfl ?_
  refine a_ldc2 (z := 10) dX5_weekGoesBy_7 kc_RX5_27 (by decide) ?_
  refine a_lmul dX5_weekGoesBy_10 ?_
  refine a_last (x' := 3) dX5_weekGoesBy_11 g_o0 (by decide) (by decide) rfl ?_
  refine a_iconst dX5_weekGoesBy_12 ?_
  refine a_istore (L' := [(5, vI 2), (0, .ref (gP G o0)), (1, .ref (gP G 2)), (2, vI a2), (3, vI a3), (4, vI a4)]) dX5_weekGoesBy_13 (by decide) rfl ?_
  refine a_sub (L' := [(0, .ref (gP G o0)), (1, .ref (gP G 2)), (2, vI a2), (3, vI a3), (4, vI a4), (5, vI 2)]) [1, 2, 3, 4, 5, 0] rfl (lp_s (x := ((sU σ (o0 + 1) 3 ((σ (o0 + 1) 3) * 10)), 2)) (fun q1 : sM × Int => aW G cX5_weekGoesBy RX5 "weekGoesBy" 7 none (sR 2 0 0) (aQ G none 0 0 (r_0, (mkSh q_0 x_0, s_0))) aX 0 0 (mkSh q_0 x_0, q1.1) [(0, .ref (gP G o0)), (1, .ref (gP G 2)), (2, vI a2), (3, vI a3), (4, vI a4), (5, vI q1.2)] 15 []) h (fun K2 hK2 q1 h => ?_))
  refine a_iload 5 dX5_weekGoesBy_15 rfl ?_
  refine a_if_lt 77 dX5_weekGoesBy_17 (by decide) rfl h (fun c3 h => ?_) (fun c3 h => ?_)
  · skip
    exact a_vret dX5_weekGoesBy_77 rfl (p_S (p_2 h))
  · skip
    refine a_aload_n 1 dX5_weekGoesBy_20 rfl ?_
    refine a_iload_n 2 dX5_weekGoesBy_21 rfl ?_
    refine a_iload 5 dX5_weekGoesBy_22 rfl ?_
    refine a_iload_n 3 dX5_weekGoesBy_24 rfl ?_
    refine a_iload 4 dX5_weekGoesBy_25 rfl ?_
    refine bp_s h (fun r4 e5 h => ?_)
    refine a_callVI dX5_weekGoesBy_27 mX1_tenths KX1 rfl kv_X1_tenths ks_X1_tenths rfl km_RX5_29 rfl (T_X1_tenths e5) (fun _ => rfl) rfl (Nat.le_of_ble_eq_true rfl) (Nat.le_of_ble_eq_true rfl) ⟨(Nat.le_of_ble_eq_true rfl), (Nat.le_of_ble_eq_true rfl)⟩ (Nat.le_of_ble_eq_true rfl) ?_
    refine a_istore (L' := [(6, vI r4), (0, .ref (gP G o0)), (1, .ref (gP G 2)), (2, vI a2), (3, vI a3), (4, vI a4), (5, vI q1.2)]) dX5_weekGoesBy_30 (by decide) rfl ?_
    refine a_aload_n 1 dX5_weekGoesBy_32 rfl ?_
    refine a_getR (j := 0) dX5_weekGoesBy_33 KX5 h_o0 (by decide) rfl kf_RX5_9 ?_
    refine a_iload 6 dX5_weekGoesBy_36 rfl ?_
    refine a_iconst dX5_weekGoesBy_38 ?_
    refine a_iadd dX5_weekGoesBy_39 ?_
    refine a_dup2 dX5_weekGoesBy_40 ?_
    refine a_gd h (fun c6 h => ?_)
    refine a_lald (x' := wi (q1.2 + 1)) dX5_weekGoesBy_41 g_o0 rfl c6 rfl ?_
    refine a_aload_n 1 dX5_weekGoesBy_42 rfl ?_
    refine a_getR (j := 0) dX5_weekGoesBy_43 KX5 h_o0 (by decide) rfl kf_RX5_9 ?_
    refine a_iload 6 dX5_weekGoesBy_46 rfl ?_
    refine a_gd h (fun c7 h => ?_)
    refine a_lald (x' := wi q1.2) dX5_weekGoesBy_48 g_o0 rfl c7 rfl ?_
    refine a_iload 0 dX5_weekGoesBy_49 rfl ?_
    refine a_i2l dX5_weekGoesBy_51 ?_
    refine a_lmul dX5_weekGoesBy_52 ?_
    refine a_ladd dX5_weekGoesBy_53 ?_
    refine a_gd h (fun c8 h => ?_)
    refine a_last (x' := wi (q1.2 + 1)) dX5_weekGoesBy_54 g_o0 rfl c8 rfl ?_
    refine a_nmS h (fun σ9 w10 h => ?_)
    refine a_aload_n 1 dX5_weekGoesBy_55 rfl ?_
    refine a_getR (j := 0) dX5_weekGoesBy_56 KX5 h_o0 (by decide) rfl kf_RX5_9 ?_
    refine a_iload 6 dX5_weekGoesBy_59 rfl ?_
    refine a_dup2 dX5_weekGoesBy_61 ?_
    refine a_gd h (fun c11 h => ?_)
    refine a_lald (x' := wi q1.2) dX5_weekGoesBy_62 g_o0 rfl c11 rfl ?_
    refine a_bipush dX5_weekGoesBy_63 (by decide) ?_
    refine a_iload 0 dX5_weekGoesBy_65 rfl ?_
    refine a_isub dX5_weekGoesBy_67 ?_
    refine a_i2l dX5_weekGoesBy_68 ?_
    refine a_lmul dX5_weekGoesBy_69 ?_
    refine a_gd h (fun c12 h => ?_)
    refine a_last (x' := wi q1.2) dX5_weekGoesBy_70 g_o0 rfl c12 rfl ?_
    refine a_iinc (L' := [(5, vI (q1.2 + (-1))), (6, vI r4), (0, .ref (gP G o0)), (1, .ref (gP G 2)), (2, vI a2), (3, vI a3), (4, vI a4)]) 6 dX5_weekGoesBy_71 rfl (by decide) rfl ?_
    refine a_goto 15 dX5_weekGoesBy_74 (by decide) ?_
    have hh := hK2 _ h
    exact a_sub [2, 3, 4, 5, 6, 0] rfl hh

def X5_rindIsSeen (F : Nat) (o0 : Nat) (σ : sM) (a2 a3 : Int) : Option (Int × sM) := lp (fun K2 (q1 : sM × Int) => if 4 ≤ wi q1.2 then some (0, q1.1) else bp (X1_trait q1.1 a2 (10 + q1.2)) (fun r4 => if 0 ≤ wi q1.2 ∧ wi q1.2 < 4 then jn (fun q7 : Int => if 0 ≤ wi q1.2 ∧ wi q1.2 < 4 then K2 ((sU q1.1 (o0 + 1) (wi q1.2).toNat ((q1.1 (o0 + 1) (wi q1.2).toNat) * q7)), q1.2 + 1) else none) (fun K8 => if wi a3 = 0 then K8 (wi (10 - r4)) else K8 (wi r4)) else none)) F (σ, 0)
set_option maxRecDepth 100000 in
set_option maxHeartbeats 400000 in
theorem T_X5_rindIsSeen {G : sG} {q_0 : qT} {x_0 : List Nat} {σ s_0 : sM} {r_0 : Int} {a2 a3 : Int} {o0 : Nat} {F : Nat} (h_o0 : (mkSh q_0 x_0)[o0]? = some (.inl (5, [.ref (o0 + 1)]))) (g_o0 : (mkSh q_0 x_0)[o0 + 1]? = some (.inr (.long, 4, gN))) (h : X5_rindIsSeen F o0 σ a2 a3 = some (r_0, s_0)) : aM G yX5_rindIsSeen cX5_rindIsSeen 6 none 1 0 0 [.ref (gP G o0), .ref (gP G 2), vI a2, vI a3] (mkSh q_0 x_0, σ) (r_0, (mkSh q_0 x_0, s_0)) := by
  unfold X5_rindIsSeen at h
  refine aM_of (by decide) (Nat.le_of_ble_eq_true rfl) ?_
  show aW G cX5_rindIsSeen RX5 "rindIsSeen" 6 none _ _ aX 0 0 _ [(0, .ref (gP G o0)), (1, .ref (gP G 2)), (2, vI a2), (3, vI a3)] 0 []
  refine a_iconst dX5_rindIsSeen_0 ?_
  refine a_istore (L' := [(4, vI 0), (0, .ref (gP G o0)), (1, .ref (gP G 2)), (2, vI a2), (3, vI a3)]) dX5_rindIsSeen_1 (by decide) rfl ?_
  refine a_sub (L' := [(0, .ref (gP G o0)), (1, .ref (gP G 2)), (2, vI a2), (3, vI a3), (4, vI 0)]) [1, 2, 3, 4, 0] rfl (lp_s (x := (σ, 0)) (fun q1 : sM × Int => aW G cX5_rindIsSeen RX5 "rindIsSeen" 6 none (sR 1 0 0) (aQ G none 0 0 (r_0, (mkSh q_0 x_0, s_0))) aX 0 0 (mkSh q_0 x_0, q1.1) [(0, .ref (gP G o0)), (1, .ref (gP G 2)), (2, vI a2), (3, vI a3), (4, vI q1.2)] 3 []) h (fun K2 hK2 q1 h => ?_))
  refine a_iload 4 dX5_rindIsSeen_3 rfl ?_
  refine a_iconst dX5_rindIsSeen_5 ?_
  refine a_icmp_ge 53 dX5_rindIsSeen_6 (by decide) rfl (by decide) h (fun c3 h => ?_) (fun c3 h => ?_)
  · skip
    exact a_vret dX5_rindIsSeen_53 rfl (p_S (p_2 h))
  · skip
    refine a_aload_n 1 dX5_rindIsSeen_9 rfl ?_
    refine a_iload_n 2 dX5_rindIsSeen_10 rfl ?_
    refine a_bipush dX5_rindIsSeen_11 (by decide) ?_
    refine a_iload 4 dX5_rindIsSeen_13 rfl ?_
    refine a_iadd dX5_rindIsSeen_15 ?_
    refine bp_s h (fun r4 e5 h => ?_)
    refine a_callVI dX5_rindIsSeen_16 mX1_trait KX1 rfl kv_X1_trait ks_X1_trait rfl km_RX5_21 rfl (T_X1_trait e5) (fun _ => rfl) rfl (Nat.le_of_ble_eq_true rfl) (Nat.le_of_ble_eq_true rfl) ⟨(Nat.le_of_ble_eq_true rfl), (Nat.le_of_ble_eq_true rfl)⟩ (Nat.le_of_ble_eq_true rfl) ?_
    refine a_istore (L' := [(5, vI r4), (0, .ref (gP G o0)), (1, .ref (gP G 2)), (2, vI a2), (3, vI a3), (4, vI q1.2)]) dX5_rindIsSeen_19 (by decide) rfl ?_
    refine a_aload_n 1 dX5_rindIsSeen_21 rfl ?_
    refine a_getR (j := 0) dX5_rindIsSeen_22 KX5 h_o0 (by decide) rfl kf_RX5_9 ?_
    refine a_iload 5 dX5_rindIsSeen_25 rfl ?_
    refine a_dup2 dX5_rindIsSeen_27 ?_
    refine a_gd h (fun c6 h => ?_)
    refine a_lald (x' := wi q1.2) dX5_rindIsSeen_28 g_o0 rfl c6 rfl ?_
    refine a_iload_n 4 dX5_rindIsSeen_29 rfl ?_
    refine jn_s (fun q7 : Int => aW G cX5_rindIsSeen RX5 "rindIsSeen" 6 none (sR 1 0 0) (aQ G none 0 0 (r_0, (mkSh q_0 x_0, s_0))) aX 0 0 (mkSh q_0 x_0, q1.1) [(0, .ref (gP G o0)), (1, .ref (gP G 2)), (2, vI a2), (3, vI a3), (4, vI q1.2)] 45 [vL q7, vL (q1.1 (o0 + 1) (wi q1.2).toNat), vI q1.2, .ref (gP G (o0 + 1))]) h (fun q7 h => ?_) (fun K8 hK8 h => ?_)
    · skip
      refine a_lmul dX5_rindIsSeen_45 ?_
      refine a_gd h (fun c9 h => ?_)
      refine a_last (x' := wi q1.2) dX5_rindIsSeen_46 g_o0 rfl c9 rfl ?_
      refine a_iinc (L' := [(4, vI (q1.2 + 1)), (0, .ref (gP G o0)), (1, .ref (gP G 2)), (2, vI a2), (3, vI a3)]) 4 dX5_rindIsSeen_47 rfl (by decide) rfl ?_
      refine a_goto 3 dX5_rindIsSeen_50 (by decide) ?_
      have hh := hK2 _ h
      exact a_sub [1, 2, 3, 4, 0] rfl hh
    · skip
      refine a_if_eq 39 dX5_rindIsSeen_30 (by decide) rfl h (fun c10 h => ?_) (fun c10 h => ?_)
      · skip
        refine a_bipush dX5_rindIsSeen_39 (by decide) ?_
        refine a_iload 0 dX5_rindIsSeen_41 rfl ?_
        refine a_isub dX5_rindIsSeen_43 ?_
        refine a_i2l dX5_rindIsSeen_44 ?_
        have hh := hK8 _ h
        exact a_sub [1, 2, 3, 4, 5] rfl hh
      · skip
        refine a_iload 0 dX5_rindIsSeen_33 rfl ?_
        refine a_i2l dX5_rindIsSeen_35 ?_
        refine a_goto 45 dX5_rindIsSeen_36 (by decide) ?_
        have hh := hK8 _ h
        exact a_sub [1, 2, 3, 4, 5] rfl hh

def X5_greatest (o0 : Nat) (σ : sM) : Option Int := some (if wl (if wl (σ (o0 + 1) 3) < wl (σ (o0 + 1) 2) then σ (o0 + 1) 2 else σ (o0 + 1) 3) < wl (if wl (σ (o0 + 1) 1) < wl (σ (o0 + 1) 0) then σ (o0 + 1) 0 else σ (o0 + 1) 1) then (if wl (σ (o0 + 1) 1) < wl (σ (o0 + 1) 0) then σ (o0 + 1) 0 else σ (o0 + 1) 1) else (if wl (σ (o0 + 1) 3) < wl (σ (o0 + 1) 2) then σ (o0 + 1) 2 else σ (o0 + 1) 3))
set_option maxRecDepth 100000 in
set_option maxHeartbeats 400000 in
theorem T_X5_greatest {G : sG} {q_0 : qT} {x_0 : List Nat} {σ : sM} {r_0 : Int} {o0 : Nat} (h_o0 : (mkSh q_0 x_0)[o0]? = some (.inl (5, [.ref (o0 + 1)]))) (g_o0 : (mkSh q_0 x_0)[o0 + 1]? = some (.inr (.long, 4, gN))) (h : X5_greatest o0 σ = some r_0) : aM G yX5_greatest cX5_greatest 1 (some .long) 1 0 0 [.ref (gP G o0)] (mkSh q_0 x_0, σ) (r_0, (mkSh q_0 x_0, σ)) := by
  unfold X5_greatest at h
  refine aM_of (by decide) (Nat.le_of_ble_eq_true rfl) ?_
  show aW G cX5_greatest RX5 "greatest" 1 (some .long) _ _ aX 0 0 _ [(0, .ref (gP G o0))] 0 []
  refine a_aload_n 0 dX5_greatest_0 rfl ?_
  refine a_getR (j := 0) dX5_greatest_1 KX5 h_o0 (by decide) rfl kf_RX5_9 ?_
  refine a_iconst dX5_greatest_4 ?_
  refine a_lald (x' := 0) dX5_greatest_5 g_o0 (by decide) (by decide) rfl ?_
  refine a_aload_n 0 dX5_greatest_6 rfl ?_
  refine a_getR (j := 0) dX5_greatest_7 KX5 h_o0 (by decide) rfl kf_RX5_9 ?_
  refine a_iconst dX5_greatest_10 ?_
  refine a_lald (x' := 1) dX5_greatest_11 g_o0 (by decide) (by decide) rfl ?_
  refine a_mmaxl dX5_greatest_12 km_RX5_37 kv_J9_max_f86c9 ki_RJ9 kx_maxl ⟨Nat.le_of_ble_eq_true rfl, Nat.le_of_ble_eq_true rfl⟩ ⟨Nat.zero_le _, Nat.zero_le _⟩ (Nat.le_of_ble_eq_true rfl) ?_
  refine a_aload_n 0 dX5_greatest_15 rfl ?_
  refine a_getR (j := 0) dX5_greatest_16 KX5 h_o0 (by decide) rfl kf_RX5_9 ?_
  refine a_iconst dX5_greatest_19 ?_
  refine a_lald (x' := 2) dX5_greatest_20 g_o0 (by decide) (by decide) rfl ?_
  refine a_aload_n 0 dX5_greatest_21 rfl ?_
  refine a_getR (j := 0) dX5_greatest_22 KX5 h_o0 (by decide) rfl kf_RX5_9 ?_
  refine a_iconst dX5_greatest_25 ?_
  refine a_lald (x' := 3) dX5_greatest_26 g_o0 (by decide) (by decide) rfl ?_
  refine a_mmaxl dX5_greatest_27 km_RX5_37 kv_J9_max_f86c9 ki_RJ9 kx_maxl ⟨Nat.le_of_ble_eq_true rfl, Nat.le_of_ble_eq_true rfl⟩ ⟨Nat.zero_le _, Nat.zero_le _⟩ (Nat.le_of_ble_eq_true rfl) ?_
  refine a_mmaxl dX5_greatest_30 km_RX5_37 kv_J9_max_f86c9 ki_RJ9 kx_maxl ⟨Nat.le_of_ble_eq_true rfl, Nat.le_of_ble_eq_true rfl⟩ ⟨Nat.zero_le _, Nat.zero_le _⟩ (Nat.le_of_ble_eq_true rfl) ?_
  exact a_lret dX5_greatest_33 rfl (s_inj h) rfl

def X6_beginAnew (F : Nat) (σ : sM) (a1 : Int) : Option (Int × sM) := bn (X5_startAt F 50 (sU σ 49 3 a1) 0) (fun r1 σ3 => some (0, σ3))
set_option maxRecDepth 100000 in
set_option maxHeartbeats 400000 in
theorem T_X6_beginAnew {G : sG} {q_0 : qT} {x_0 : List Nat} {σ s_0 : sM} {r_0 : Int} {a1 : Int} {F : Nat}  (h : X6_beginAnew F σ a1 = some (r_0, s_0)) : aM G yX6_beginAnew cX6_beginAnew 2 none 1 0 0 [.ref (gP G 49), vI a1] (mkSh q_0 x_0, σ) (r_0, (mkSh q_0 x_0, s_0)) := by
  unfold X6_beginAnew at h
  refine aM_of (by decide) (Nat.le_of_ble_eq_true rfl) ?_
  show aW G cX6_beginAnew RX6 "beginAnew" 2 none _ _ aX 0 0 _ [(0, .ref (gP G 49)), (1, vI a1)] 0 []
  refine a_aload_n 0 dX6_beginAnew_0 rfl ?_
  refine a_iload_n 1 dX6_beginAnew_1 rfl ?_
  refine a_putI (j := 3) dX6_beginAnew_2 KX6 rfl (by decide) rfl rfl rfl kf_RX6_21 ?_
  refine a_aload_n 0 dX6_beginAnew_5 rfl ?_
  refine a_getR (j := 1) dX6_beginAnew_6 KX6 rfl (by decide) rfl kf_RX6_12 ?_
  refine a_iconst dX6_beginAnew_9 ?_
  refine bn_s h (fun r1 σ3 e2 h => ?_)
  refine a_callVV dX6_beginAnew_10 mX5_startAt KX5 rfl kv_X5_startAt ks_X5_startAt rfl km_RX6_29 rfl (T_X5_startAt rfl rfl e2) (fun _ => rfl) rfl (Nat.le_of_ble_eq_true rfl) (Nat.le_of_ble_eq_true rfl) ⟨(Nat.le_of_ble_eq_true rfl), (Nat.le_of_ble_eq_true rfl)⟩ (Nat.le_of_ble_eq_true rfl) ?_
  exact a_vret dX6_beginAnew_13 rfl (p_S (p_2 h))

def X7_beginAnew (σ : sM) (a1 : Int) : Option (Int × sM) := some (0, (sU (sU (sU (sU (sU (sU σ 26 0 0) 26 1 0) 26 2 a1) 26 3 0) 26 4 0) 26 5 0))
set_option maxRecDepth 100000 in
set_option maxHeartbeats 400000 in
theorem T_X7_beginAnew {G : sG} {q_0 : qT} {x_0 : List Nat} {σ s_0 : sM} {r_0 : Int} {a1 : Int}  (h : X7_beginAnew σ a1 = some (r_0, s_0)) : aM G yX7_beginAnew cX7_beginAnew 2 none 0 0 0 [.ref (gP G 26), vI a1] (mkSh q_0 x_0, σ) (r_0, (mkSh q_0 x_0, s_0)) := by
  unfold X7_beginAnew at h
  refine aM_of (by decide) (Nat.le_of_ble_eq_true rfl) ?_
  show aW G cX7_beginAnew RX7 "beginAnew" 2 none _ _ aX 0 0 _ [(0, .ref (gP G 26)), (1, vI a1)] 0 []
  refine a_aload_n 0 dX7_beginAnew_0 rfl ?_
  refine a_iconst dX7_beginAnew_1 ?_
  refine a_putI (j := 0) dX7_beginAnew_2 KX7 rfl (by decide) rfl rfl rfl kf_RX7_9 ?_
  refine a_aload_n 0 dX7_beginAnew_5 rfl ?_
  refine a_iconst dX7_beginAnew_6 ?_
  refine a_putZ (j := 1) dX7_beginAnew_7 KX7 rfl (by decide) rfl rfl rfl kf_RX7_15 (by decide) ?_
  refine a_aload_n 0 dX7_beginAnew_10 rfl ?_
  refine a_iload_n 1 dX7_beginAnew_11 rfl ?_
  refine a_putI (j := 2) dX7_beginAnew_12 KX7 rfl (by decide) rfl rfl rfl kf_RX7_19 ?_
  refine a_aload_n 0 dX7_beginAnew_15 rfl ?_
  refine a_iconst dX7_beginAnew_16 ?_
  refine a_putI (j := 3) dX7_beginAnew_17 KX7 rfl (by decide) rfl rfl rfl kf_RX7_22 ?_
  refine a_aload_n 0 dX7_beginAnew_20 rfl ?_
  refine a_iconst dX7_beginAnew_21 ?_
  refine a_putI (j := 4) dX7_beginAnew_22 KX7 rfl (by decide) rfl rfl rfl kf_RX7_25 ?_
  refine a_aload_n 0 dX7_beginAnew_25 rfl ?_
  refine a_iconst dX7_beginAnew_26 ?_
  refine a_putI (j := 5) dX7_beginAnew_27 KX7 rfl (by decide) rfl rfl rfl kf_RX7_28 ?_
  exact a_vret dX7_beginAnew_30 rfl (p_S (p_2 h))

def X7_becomeLike (o0 o1 : Nat) (σ : sM) : Option (Int × sM) := if wi ((sU σ o0 0 (σ o1 0)) o1 1) = 0 ∨ wi ((sU σ o0 0 (σ o1 0)) o1 1) = 1 then nm (sU (sU (sU σ o0 0 (σ o1 0)) o0 1 ((sU σ o0 0 (σ o1 0)) o1 1)) o0 2 ((sU (sU σ o0 0 (σ o1 0)) o0 1 ((sU σ o0 0 (σ o1 0)) o1 1)) o1 2)) (fun σ2 => nm (sU (sU (sU σ2 o0 3 (σ2 o1 3)) o0 4 ((sU σ2 o0 3 (σ2 o1 3)) o1 4)) o0 5 ((sU (sU σ2 o0 3 (σ2 o1 3)) o0 4 ((sU σ2 o0 3 (σ2 o1 3)) o1 4)) o1 5)) (fun σ4 => some (0, (sU σ4 o0 6 (σ4 o1 6))))) else none
set_option maxRecDepth 100000 in
set_option maxHeartbeats 400000 in
theorem T_X7_becomeLike {G : sG} {q_0 : qT} {x_0 : List Nat} {σ s_0 : sM} {r_0 : Int} {o0 o1 : Nat} (h_o0 : (mkSh q_0 x_0)[o0]? = some (.inl (7, [.int 0, .int 0, .int 0, .int 0, .int 0, .int 0, .int 0, .int 0]))) (h_o1 : (mkSh q_0 x_0)[o1]? = some (.inl (7, [.int 0, .int 0, .int 0, .int 0, .int 0, .int 0, .int 0, .int 0]))) (h : X7_becomeLike o0 o1 σ = some (r_0, s_0)) : aM G yX7_becomeLike cX7_becomeLike 2 none 0 0 0 [.ref (gP G o0), .ref (gP G o1)] (mkSh q_0 x_0, σ) (r_0, (mkSh q_0 x_0, s_0)) := by
  unfold X7_becomeLike at h
  refine aM_of (by decide) (Nat.le_of_ble_eq_true rfl) ?_
  show aW G cX7_becomeLike RX7 "becomeLike" 2 none _ _ aX 0 0 _ [(0, .ref (gP G o0)), (1, .ref (gP G o1))] 0 []
  refine a_aload_n 0 dX7_becomeLike_0 rfl ?_
  refine a_aload_n 1 dX7_becomeLike_1 rfl ?_
  refine a_getI (j := 0) dX7_becomeLike_2 KX7 h_o1 (by decide) rfl kf_RX7_9 ?_
  refine a_putI (j := 0) dX7_becomeLike_5 KX7 h_o0 (by decide) rfl rfl rfl kf_RX7_9 ?_
  refine a_aload_n 0 dX7_becomeLike_8 rfl ?_
  refine a_aload_n 1 dX7_becomeLike_9 rfl ?_
  refine a_getI (j := 1) dX7_becomeLike_10 KX7 h_o1 (by decide) rfl kf_RX7_15 ?_
  refine a_gd h (fun c1 h => ?_)
  refine a_putZ (j := 1) dX7_becomeLike_13 KX7 h_o0 (by decide) rfl rfl rfl kf_RX7_15 (nz_01 c1) ?_
  refine a_aload_n 0 dX7_becomeLike_16 rfl ?_
  refine a_aload_n 1 dX7_becomeLike_17 rfl ?_
  refine a_getI (j := 2) dX7_becomeLike_18 KX7 h_o1 (by decide) rfl kf_RX7_19 ?_
  refine a_putI (j := 2) dX7_becomeLike_21 KX7 h_o0 (by decide) rfl rfl rfl kf_RX7_19 ?_
  refine a_nmS h (fun σ2 w3 h => ?_)
  refine a_aload_n 0 dX7_becomeLike_24 rfl ?_
  refine a_aload_n 1 dX7_becomeLike_25 rfl ?_
  refine a_getI (j := 3) dX7_becomeLike_26 KX7 h_o1 (by decide) rfl kf_RX7_22 ?_
  refine a_putI (j := 3) dX7_becomeLike_29 KX7 h_o0 (by decide) rfl rfl rfl kf_RX7_22 ?_
  refine a_aload_n 0 dX7_becomeLike_32 rfl ?_
  refine a_aload_n 1 dX7_becomeLike_33 rfl ?_
  refine a_getI (j := 4) dX7_becomeLike_34 KX7 h_o1 (by decide) rfl kf_RX7_25 ?_
  refine a_putI (j := 4) dX7_becomeLike_37 KX7 h_o0 (by decide) rfl rfl rfl kf_RX7_25 ?_
  refine a_aload_n 0 dX7_becomeLike_40 rfl ?_
  refine a_aload_n 1 dX7_becomeLike_41 rfl ?_
  refine a_getI (j := 5) dX7_becomeLike_42 KX7 h_o1 (by decide) rfl kf_RX7_28 ?_
  refine a_putI (j := 5) dX7_becomeLike_45 KX7 h_o0 (by decide) rfl rfl rfl kf_RX7_28 ?_
  refine a_nmS h (fun σ4 w5 h => ?_)
  refine a_aload_n 0 dX7_becomeLike_48 rfl ?_
  refine a_aload_n 1 dX7_becomeLike_49 rfl ?_
  refine a_getI (j := 6) dX7_becomeLike_50 KX7 h_o1 (by decide) rfl kf_RX7_31 ?_
  refine a_putI (j := 6) dX7_becomeLike_53 KX7 h_o0 (by decide) rfl rfl rfl kf_RX7_31 ?_
  exact a_vret dX7_becomeLike_56 rfl (p_S (p_2 h))

def X8_type (F : Nat) (σ : sM) (a1 a2 : Int) : Option (Int × sM) := if wi a2 < 1 then some ((-1), σ) else if wi a2 ≤ 8 then if wi ((σ 0 1) + a2) ≤ 400 then lp (fun K5 (q4 : sM × Int) => if wi q4.2 < 0 then some (q4.1 0 1, q4.1) else if 0 ≤ wi (q4.1 0 1) ∧ wi (q4.1 0 1) < 400 then nm (sU (sU q4.1 1 (wi (q4.1 0 1)).toNat (q_b (q_b (q_lushr a1 (8 * q4.2))))) 0 1 (((sU q4.1 1 (wi (q4.1 0 1)).toNat (q_b (q_b (q_lushr a1 (8 * q4.2))))) 0 1) + 1)) (fun σ8 => K5 (σ8, q4.2 + (-1))) else none) F (σ, a2 - 1) else some ((-3), σ) else some ((-1), σ)
set_option maxRecDepth 100000 in
set_option maxHeartbeats 400000 in
theorem T_X8_type {G : sG} {q_0 : qT} {x_0 : List Nat} {σ s_0 : sM} {r_0 : Int} {a1 a2 : Int} {F : Nat}  (h : X8_type F σ a1 a2 = some (r_0, s_0)) : aM G yX8_type cX8_type 5 (some .int) 0 0 0 [.ref (gP G 0), vL a1, vI a2] (mkSh q_0 x_0, σ) (r_0, (mkSh q_0 x_0, s_0)) := by
  unfold X8_type at h
  refine aM_of (by decide) (Nat.le_of_ble_eq_true rfl) ?_
  show aW G cX8_type RX8 "type" 5 (some .int) _ _ aX 0 0 _ [(0, .ref (gP G 0)), (1, vL a1), (3, vI a2)] 0 []
  refine a_iload_n 2 dX8_type_0 rfl ?_
  refine a_iconst dX8_type_1 ?_
  refine a_icmp_lt 11 dX8_type_2 (by decide) rfl (by decide) h (fun c1 h => ?_) (fun c1 h => ?_)
  · skip
    refine a_iconst dX8_type_11 ?_
    exact a_iret dX8_type_12 rfl (p_1 h) (p_S (p_2 h))
  · skip
    refine a_iload_n 2 dX8_type_5 rfl ?_
    refine a_bipush dX8_type_6 (by decide) ?_
    refine a_icmp_le 13 dX8_type_8 (by decide) rfl (by decide) h (fun c2 h => ?_) (fun c2 h => ?_)
    · skip
      refine a_aload_n 0 dX8_type_13 rfl ?_
      refine a_getI (j := 1) dX8_type_14 KX8 rfl (by decide) rfl kf_RX8_13 ?_
      refine a_iload_n 2 dX8_type_17 rfl ?_
      refine a_iadd dX8_type_18 ?_
      refine a_sipush dX8_type_19 (by decide) ?_
      refine a_icmp_le 28 dX8_type_22 (by decide) rfl (by decide) h (fun c3 h => ?_) (fun c3 h => ?_)
      · skip
        refine a_iload_n 2 dX8_type_28 rfl ?_
        refine a_iconst dX8_type_29 ?_
        refine a_isub dX8_type_30 ?_
        refine a_istore (L' := [(4, vI (a2 - 1)), (0, .ref (gP G 0)), (1, vL a1), (3, vI a2)]) dX8_type_31 (by decide) rfl ?_
        refine a_sub (L' := [(0, .ref (gP G 0)), (1, vL a1), (4, vI (a2 - 1))]) [1, 2, 0] rfl (lp_s (x := (σ, a2 - 1)) (fun q4 : sM × Int => aW G cX8_type RX8 "type" 5 (some .int) (sR 0 0 0) (aQ G (some .int) 0 0 (r_0, (mkSh q_0 x_0, s_0))) aX 0 0 (mkSh q_0 x_0, q4.1) [(0, .ref (gP G 0)), (1, vL a1), (4, vI q4.2)] 33 []) h (fun K5 hK5 q4 h => ?_))
        refine a_iload 2 dX8_type_33 rfl ?_
        refine a_if_lt 72 dX8_type_35 (by decide) rfl h (fun c6 h => ?_) (fun c6 h => ?_)
        · skip
          refine a_aload_n 0 dX8_type_72 rfl ?_
          refine a_getI (j := 1) dX8_type_73 KX8 rfl (by decide) rfl kf_RX8_13 ?_
          exact a_iret dX8_type_76 rfl (p_1 h) (p_S (p_2 h))
        · skip
          refine a_aload_n 0 dX8_type_38 rfl ?_
          refine a_getR (j := 0) dX8_type_39 KX8 rfl (by decide) rfl kf_RX8_9 ?_
          refine a_aload_n 0 dX8_type_42 rfl ?_
          refine a_getI (j := 1) dX8_type_43 KX8 rfl (by decide) rfl kf_RX8_13 ?_
          refine a_lload_n 1 dX8_type_46 rfl ?_
          refine a_bipush dX8_type_47 (by decide) ?_
          refine a_iload 2 dX8_type_49 rfl ?_
          refine a_imul dX8_type_51 ?_
          refine a_lushr dX8_type_52 ?_
          refine a_l2i dX8_type_53 ?_
          refine a_i2b dX8_type_54 ?_
          refine a_gd h (fun c7 h => ?_)
          refine a_bast (x' := wi (q4.1 0 1)) dX8_type_55 rfl rfl c7 rfl ?_
          refine a_aload_n 0 dX8_type_56 rfl ?_
          refine a_dupR dX8_type_57 ?_
          refine a_getI (j := 1) dX8_type_58 KX8 rfl (by decide) rfl kf_RX8_13 ?_
          refine a_iconst dX8_type_61 ?_
          refine a_iadd dX8_type_62 ?_
          refine a_putI (j := 1) dX8_type_63 KX8 rfl (by decide) rfl rfl rfl kf_RX8_13 ?_
          refine a_nmS h (fun σ8 w9 h => ?_)
          refine a_iinc (L' := [(4, vI (q4.2 + (-1))), (0, .ref (gP G 0)), (1, vL a1)]) 2 dX8_type_66 rfl (by decide) rfl ?_
          refine a_goto 33 dX8_type_69 (by decide) ?_
          have hh := hK5 _ h
          exact a_sub [1, 2, 0] rfl hh
      · skip
        refine a_bipush dX8_type_25 (by decide) ?_
        exact a_iret dX8_type_27 rfl (p_1 h) (p_S (p_2 h))
    · skip
      refine a_iconst dX8_type_11 ?_
      exact a_iret dX8_type_12 rfl (p_1 h) (p_S (p_2 h))

def X8_clear (σ : sM) : Option (Int × sM) := some (σ 0 1, (sU σ 0 1 0))
set_option maxRecDepth 100000 in
set_option maxHeartbeats 400000 in
theorem T_X8_clear {G : sG} {q_0 : qT} {x_0 : List Nat} {σ s_0 : sM} {r_0 : Int}  (h : X8_clear σ = some (r_0, s_0)) : aM G yX8_clear cX8_clear 2 (some .int) 0 0 0 [.ref (gP G 0)] (mkSh q_0 x_0, σ) (r_0, (mkSh q_0 x_0, s_0)) := by
  unfold X8_clear at h
  refine aM_of (by decide) (Nat.le_of_ble_eq_true rfl) ?_
  show aW G cX8_clear RX8 "clear" 2 (some .int) _ _ aX 0 0 _ [(0, .ref (gP G 0))] 0 []
  refine a_aload_n 0 dX8_clear_0 rfl ?_
  refine a_getI (j := 1) dX8_clear_1 KX8 rfl (by decide) rfl kf_RX8_13 ?_
  refine a_istore_n (L' := [(1, vI (σ 0 1)), (0, .ref (gP G 0))]) dX8_clear_4 (by decide) rfl ?_
  refine a_aload_n 1 dX8_clear_5 rfl ?_
  refine a_iconst dX8_clear_6 ?_
  refine a_putI (j := 1) dX8_clear_7 KX8 rfl (by decide) rfl rfl rfl kf_RX8_13 ?_
  refine a_iload_n 0 dX8_clear_10 rfl ?_
  exact a_iret dX8_clear_11 rfl (p_1 h) (p_S (p_2 h))

def X8_sort (σ : sM) (a1 a2 : Int) : Option Int := bp (X1_isSort σ a1) (fun r1 => if wi r1 = 0 then some (-1) else if wi a2 < 0 then some (-1) else if wi a2 < 14 then bp (X1_trait σ a1 a2) (fun r6 => some r6) else some (-1))
set_option maxRecDepth 100000 in
set_option maxHeartbeats 400000 in
theorem T_X8_sort {G : sG} {q_0 : qT} {x_0 : List Nat} {σ : sM} {r_0 : Int} {a1 a2 : Int}  (h : X8_sort σ a1 a2 = some r_0) : aM G yX8_sort cX8_sort 3 (some .int) 1 0 0 [.ref (gP G 0), vI a1, vI a2] (mkSh q_0 x_0, σ) (r_0, (mkSh q_0 x_0, σ)) := by
  unfold X8_sort at h
  refine aM_of (by decide) (Nat.le_of_ble_eq_true rfl) ?_
  show aW G cX8_sort RX8 "sort" 3 (some .int) _ _ aX 0 0 _ [(0, .ref (gP G 0)), (1, vI a1), (2, vI a2)] 0 []
  refine a_aload_n 0 dX8_sort_0 rfl ?_
  refine a_getR (j := 2) dX8_sort_1 KX8 rfl (by decide) rfl kf_RX8_20 ?_
  refine a_iload_n 1 dX8_sort_4 rfl ?_
  refine bp_s h (fun r1 e2 h => ?_)
  refine a_callVI dX8_sort_5 mX1_isSort KX1 rfl kv_X1_isSort ks_X1_isSort rfl km_RX8_116 rfl (T_X1_isSort e2) (fun _ => rfl) rfl (Nat.le_of_ble_eq_true rfl) (Nat.le_of_ble_eq_true rfl) ⟨(Nat.le_of_ble_eq_true rfl), (Nat.le_of_ble_eq_true rfl)⟩ (Nat.le_of_ble_eq_true rfl) ?_
  refine a_if_eq 21 dX8_sort_8 (by decide) rfl h (fun c3 h => ?_) (fun c3 h => ?_)
  · skip
    refine a_iconst dX8_sort_21 ?_
    exact a_iret dX8_sort_22 rfl (s_inj h) rfl
  · skip
    refine a_iload_n 2 dX8_sort_11 rfl ?_
    refine a_if_lt 21 dX8_sort_12 (by decide) rfl h (fun c4 h => ?_) (fun c4 h => ?_)
    · skip
      refine a_iconst dX8_sort_21 ?_
      exact a_iret dX8_sort_22 rfl (s_inj h) rfl
    · skip
      refine a_iload_n 2 dX8_sort_15 rfl ?_
      refine a_bipush dX8_sort_16 (by decide) ?_
      refine a_icmp_lt 23 dX8_sort_18 (by decide) rfl (by decide) h (fun c5 h => ?_) (fun c5 h => ?_)
      · skip
        refine a_aload_n 0 dX8_sort_23 rfl ?_
        refine a_getR (j := 2) dX8_sort_24 KX8 rfl (by decide) rfl kf_RX8_20 ?_
        refine a_iload_n 1 dX8_sort_27 rfl ?_
        refine a_iload_n 2 dX8_sort_28 rfl ?_
        refine bp_s h (fun r6 e7 h => ?_)
        refine a_callVI dX8_sort_29 mX1_trait KX1 rfl kv_X1_trait ks_X1_trait rfl km_RX8_120 rfl (T_X1_trait e7) (fun _ => rfl) rfl (Nat.le_of_ble_eq_true rfl) (Nat.le_of_ble_eq_true rfl) ⟨(Nat.le_of_ble_eq_true rfl), (Nat.le_of_ble_eq_true rfl)⟩ (Nat.le_of_ble_eq_true rfl) ?_
        exact a_iret dX8_sort_32 rfl (s_inj h) rfl
      · skip
        refine a_iconst dX8_sort_21 ?_
        exact a_iret dX8_sort_22 rfl (s_inj h) rfl

def X8_week (σ : sM) (a1 a2 : Int) : Option Int := if wi a1 < 0 then some (-1) else if 8 ≤ wi a1 then some (-1) else if wi a2 < 0 then some (-1) else if wi a2 ≤ 1 then if ¬ wi a2 = 0 then bp (X1_priceOf σ a1) (fun r6 => some r6) else bp (X1_warmthOf σ a1) (fun r8 => some r8) else some (-1)
set_option maxRecDepth 100000 in
set_option maxHeartbeats 400000 in
theorem T_X8_week {G : sG} {q_0 : qT} {x_0 : List Nat} {σ : sM} {r_0 : Int} {a1 a2 : Int}  (h : X8_week σ a1 a2 = some r_0) : aM G yX8_week cX8_week 3 (some .int) 1 0 0 [.ref (gP G 0), vI a1, vI a2] (mkSh q_0 x_0, σ) (r_0, (mkSh q_0 x_0, σ)) := by
  unfold X8_week at h
  refine aM_of (by decide) (Nat.le_of_ble_eq_true rfl) ?_
  show aW G cX8_week RX8 "week" 3 (some .int) _ _ aX 0 0 _ [(0, .ref (gP G 0)), (1, vI a1), (2, vI a2)] 0 []
  refine a_iload_n 1 dX8_week_0 rfl ?_
  refine a_if_lt 19 dX8_week_1 (by decide) rfl h (fun c1 h => ?_) (fun c1 h => ?_)
  · skip
    refine a_iconst dX8_week_19 ?_
    exact a_iret dX8_week_20 rfl (s_inj h) rfl
  · skip
    refine a_iload_n 1 dX8_week_4 rfl ?_
    refine a_bipush dX8_week_5 (by decide) ?_
    refine a_icmp_ge 19 dX8_week_7 (by decide) rfl (by decide) h (fun c2 h => ?_) (fun c2 h => ?_)
    · skip
      refine a_iconst dX8_week_19 ?_
      exact a_iret dX8_week_20 rfl (s_inj h) rfl
    · skip
      refine a_iload_n 2 dX8_week_10 rfl ?_
      refine a_if_lt 19 dX8_week_11 (by decide) rfl h (fun c3 h => ?_) (fun c3 h => ?_)
      · skip
        refine a_iconst dX8_week_19 ?_
        exact a_iret dX8_week_20 rfl (s_inj h) rfl
      · skip
        refine a_iload_n 2 dX8_week_14 rfl ?_
        refine a_iconst dX8_week_15 ?_
        refine a_icmp_le 21 dX8_week_16 (by decide) rfl (by decide) h (fun c4 h => ?_) (fun c4 h => ?_)
        · skip
          refine a_iload_n 2 dX8_week_21 rfl ?_
          refine a_if_ne 36 dX8_week_22 (by decide) rfl h (fun c5 h => ?_) (fun c5 h => ?_)
          · skip
            refine a_aload_n 0 dX8_week_36 rfl ?_
            refine a_getR (j := 2) dX8_week_37 KX8 rfl (by decide) rfl kf_RX8_20 ?_
            refine a_iload_n 1 dX8_week_40 rfl ?_
            refine bp_s h (fun r6 e7 h => ?_)
            refine a_callVI dX8_week_41 mX1_priceOf KX1 rfl kv_X1_priceOf ks_X1_priceOf rfl km_RX8_165 rfl (T_X1_priceOf e7) (fun _ => rfl) rfl (Nat.le_of_ble_eq_true rfl) (Nat.le_of_ble_eq_true rfl) ⟨(Nat.le_of_ble_eq_true rfl), (Nat.le_of_ble_eq_true rfl)⟩ (Nat.le_of_ble_eq_true rfl) ?_
            exact a_iret dX8_week_44 rfl (s_inj h) rfl
          · skip
            refine a_aload_n 0 dX8_week_25 rfl ?_
            refine a_getR (j := 2) dX8_week_26 KX8 rfl (by decide) rfl kf_RX8_20 ?_
            refine a_iload_n 1 dX8_week_29 rfl ?_
            refine bp_s h (fun r8 e9 h => ?_)
            refine a_callVI dX8_week_30 mX1_warmthOf KX1 rfl kv_X1_warmthOf ks_X1_warmthOf rfl km_RX8_162 rfl (T_X1_warmthOf e9) (fun _ => rfl) rfl (Nat.le_of_ble_eq_true rfl) (Nat.le_of_ble_eq_true rfl) ⟨(Nat.le_of_ble_eq_true rfl), (Nat.le_of_ble_eq_true rfl)⟩ (Nat.le_of_ble_eq_true rfl) ?_
            refine a_goto 44 dX8_week_33 (by decide) ?_
            exact a_iret dX8_week_44 rfl (s_inj h) rfl
        · skip
          refine a_iconst dX8_week_19 ?_
          exact a_iret dX8_week_20 rfl (s_inj h) rfl

def X8_isOver (σ : sM) : Option Int := if wi (σ 26 0) < wi (σ 2 7) then some 0 else some 1
set_option maxRecDepth 100000 in
set_option maxHeartbeats 400000 in
theorem T_X8_isOver {G : sG} {q_0 : qT} {x_0 : List Nat} {σ : sM} {r_0 : Int}  (h : X8_isOver σ = some r_0) : aM G yX8_isOver cX8_isOver 1 (some .boolean) 0 0 0 [.ref (gP G 0)] (mkSh q_0 x_0, σ) (r_0, (mkSh q_0 x_0, σ)) := by
  unfold X8_isOver at h
  refine aM_of (by decide) (Nat.le_of_ble_eq_true rfl) ?_
  show aW G cX8_isOver RX8 "isOver" 1 (some .boolean) _ _ aX 0 0 _ [(0, .ref (gP G 0))] 0 []
  refine a_aload_n 0 dX8_isOver_0 rfl ?_
  refine a_getR (j := 5) dX8_isOver_1 KX8 rfl (by decide) rfl kf_RX8_39 ?_
  refine a_getIN (j := 0) dX8_isOver_4 KX7 rfl (by decide) rfl kf_RX8_155 ?_
  refine a_aload_n 0 dX8_isOver_7 rfl ?_
  refine a_getR (j := 2) dX8_isOver_8 KX8 rfl (by decide) rfl kf_RX8_20 ?_
  refine a_getIN (j := 7) dX8_isOver_11 KX1 rfl (by decide) rfl kf_RX8_189 ?_
  refine a_icmp_lt 21 dX8_isOver_14 (by decide) rfl rfl h (fun c1 h => ?_) (fun c1 h => ?_)
  · skip
    refine a_iconst dX8_isOver_21 ?_
    exact a_zret dX8_isOver_22 rfl (by decide) (s_inj h) rfl
  · skip
    refine a_iconst dX8_isOver_17 ?_
    refine a_goto 22 dX8_isOver_18 (by decide) ?_
    exact a_zret dX8_isOver_22 rfl (by decide) (s_inj h) rfl

def X8_mayActNow (σ : sM) : Option Int := if ¬ wi (σ 26 1) = 0 then some 0 else bp (X8_isOver σ) (fun r2 => if ¬ wi r2 = 0 then some 0 else some 1)
set_option maxRecDepth 100000 in
set_option maxHeartbeats 400000 in
theorem T_X8_mayActNow {G : sG} {q_0 : qT} {x_0 : List Nat} {σ : sM} {r_0 : Int}  (h : X8_mayActNow σ = some r_0) : aM G yX8_mayActNow cX8_mayActNow 1 (some .boolean) 1 0 0 [.ref (gP G 0)] (mkSh q_0 x_0, σ) (r_0, (mkSh q_0 x_0, σ)) := by
  unfold X8_mayActNow at h
  refine aM_of (by decide) (Nat.le_of_ble_eq_true rfl) ?_
  show aW G cX8_mayActNow RX8 "mayActNow" 1 (some .boolean) _ _ aX 0 0 _ [(0, .ref (gP G 0))] 0 []
  refine a_aload_n 0 dX8_mayActNow_0 rfl ?_
  refine a_getR (j := 5) dX8_mayActNow_1 KX8 rfl (by decide) rfl kf_RX8_39 ?_
  refine a_getIN (j := 1) dX8_mayActNow_4 KX7 rfl (by decide) rfl kf_RX8_192 ?_
  refine a_if_ne 21 dX8_mayActNow_7 (by decide) rfl h (fun c1 h => ?_) (fun c1 h => ?_)
  · skip
    refine a_iconst dX8_mayActNow_21 ?_
    exact a_zret dX8_mayActNow_22 rfl (by decide) (s_inj h) rfl
  · skip
    refine a_aload_n 0 dX8_mayActNow_10 rfl ?_
    refine bp_s h (fun r2 e3 h => ?_)
    refine a_callVI dX8_mayActNow_11 mX8_isOver KX8 rfl kv_X8_isOver ks_X8_isOver rfl km_RX8_195 rfl (T_X8_isOver e3) (fun _ => rfl) rfl (Nat.le_of_ble_eq_true rfl) (Nat.le_of_ble_eq_true rfl) ⟨(Nat.le_of_ble_eq_true rfl), (Nat.le_of_ble_eq_true rfl)⟩ (Nat.le_of_ble_eq_true rfl) ?_
    refine a_if_ne 21 dX8_mayActNow_14 (by decide) rfl h (fun c4 h => ?_) (fun c4 h => ?_)
    · skip
      refine a_iconst dX8_mayActNow_21 ?_
      exact a_zret dX8_mayActNow_22 rfl (by decide) (s_inj h) rfl
    · skip
      refine a_iconst dX8_mayActNow_17 ?_
      refine a_goto 22 dX8_mayActNow_18 (by decide) ?_
      exact a_zret dX8_mayActNow_22 rfl (by decide) (s_inj h) rfl

def X8_lot (σ : sM) (a1 : Int) : Option (Int × sM) := some (σ 26 6, (sU σ 26 6 a1))
set_option maxRecDepth 100000 in
set_option maxHeartbeats 400000 in
theorem T_X8_lot {G : sG} {q_0 : qT} {x_0 : List Nat} {σ s_0 : sM} {r_0 : Int} {a1 : Int}  (h : X8_lot σ a1 = some (r_0, s_0)) : aM G yX8_lot cX8_lot 3 (some .int) 0 0 0 [.ref (gP G 0), vI a1] (mkSh q_0 x_0, σ) (r_0, (mkSh q_0 x_0, s_0)) := by
  unfold X8_lot at h
  refine aM_of (by decide) (Nat.le_of_ble_eq_true rfl) ?_
  show aW G cX8_lot RX8 "lot" 3 (some .int) _ _ aX 0 0 _ [(0, .ref (gP G 0)), (1, vI a1)] 0 []
  refine a_aload_n 0 dX8_lot_0 rfl ?_
  refine a_getR (j := 5) dX8_lot_1 KX8 rfl (by decide) rfl kf_RX8_39 ?_
  refine a_getIN (j := 6) dX8_lot_4 KX7 rfl (by decide) rfl kf_RX8_89 ?_
  refine a_istore_n (L' := [(2, vI (σ 26 6)), (0, .ref (gP G 0)), (1, vI a1)]) dX8_lot_7 (by decide) rfl ?_
  refine a_aload_n 1 dX8_lot_8 rfl ?_
  refine a_getR (j := 5) dX8_lot_9 KX8 rfl (by decide) rfl kf_RX8_39 ?_
  refine a_iload_n 2 dX8_lot_12 rfl ?_
  refine a_putIN (j := 6) dX8_lot_13 KX7 rfl (by decide) rfl rfl rfl kf_RX8_89 ?_
  refine a_iload_n 0 dX8_lot_16 rfl ?_
  exact a_iret dX8_lot_17 rfl (p_1 h) (p_S (p_2 h))

def X8_isRule (σ : sM) (a0 : Int) : Option Int := if wi a0 < 0 then some 0 else if 4 < wi a0 then some 0 else some 1
set_option maxRecDepth 100000 in
set_option maxHeartbeats 400000 in
theorem T_X8_isRule {G : sG} {q_0 : qT} {x_0 : List Nat} {σ : sM} {r_0 : Int} {a0 : Int}  (h : X8_isRule σ a0 = some r_0) : aM G yX8_isRule cX8_isRule 1 (some .boolean) 0 0 0 [vI a0] (mkSh q_0 x_0, σ) (r_0, (mkSh q_0 x_0, σ)) := by
  unfold X8_isRule at h
  refine aM_of (by decide) (Nat.le_of_ble_eq_true rfl) ?_
  show aW G cX8_isRule RX8 "isRule" 1 (some .boolean) _ _ aX 0 0 _ [(0, vI a0)] 0 []
  refine a_iload_n 0 dX8_isRule_0 rfl ?_
  refine a_if_lt 13 dX8_isRule_1 (by decide) rfl h (fun c1 h => ?_) (fun c1 h => ?_)
  · skip
    refine a_iconst dX8_isRule_13 ?_
    exact a_zret dX8_isRule_14 rfl (by decide) (s_inj h) rfl
  · skip
    refine a_iload_n 0 dX8_isRule_4 rfl ?_
    refine a_iconst dX8_isRule_5 ?_
    refine a_icmp_gt 13 dX8_isRule_6 (by decide) rfl (by decide) h (fun c2 h => ?_) (fun c2 h => ?_)
    · skip
      refine a_iconst dX8_isRule_13 ?_
      exact a_zret dX8_isRule_14 rfl (by decide) (s_inj h) rfl
    · skip
      refine a_iconst dX8_isRule_9 ?_
      refine a_goto 14 dX8_isRule_10 (by decide) ?_
      exact a_zret dX8_isRule_14 rfl (by decide) (s_inj h) rfl

def X8_outlookBy (q_0 : qT) (x_0 : List Nat) (σ : sM) (a1 : Int) : Option (Int × qT × List Nat × sM) := if ¬ wi a1 = 4 then bn (X3_lookBy33 q_0 x_0 σ a1 (σ 26 3)) (fun r2 σ4 => some (((33 : Nat) : Int), (σ4.1, σ4.2.1, σ4.2.2))) else bn (X3_lookBy29 q_0 x_0 σ a1 (σ 26 3)) (fun r5 σ7 => some (((29 : Nat) : Int), (σ7.1, σ7.2.1, σ7.2.2)))
set_option maxRecDepth 100000 in
set_option maxHeartbeats 400000 in
theorem T_X8_outlookBy {G : sG} {q_0 : qT} {x_0 : List Nat} {σ : sM} {t_0 : qT × List Nat × sM} {r_0 : Int} {a1 : Int} (h : X8_outlookBy q_0 x_0 σ a1 = some (r_0, t_0)) : aM G yX8_outlookBy cX8_outlookBy 3 (some (.object "CheeseFirst$Outlook")) 1 3 98304 [.ref (gP G 0), vI a1] (mkSh q_0 x_0, σ) (r_0, (mkSh t_0.1 t_0.2.1, t_0.2.2)) := by
  unfold X8_outlookBy at h
  refine aM_of (by decide) (Nat.le_of_ble_eq_true rfl) ?_
  show aW G cX8_outlookBy RX8 "outlookBy" 3 (some (.object "CheeseFirst$Outlook")) _ _ aX 0 0 _ [(0, .ref (gP G 0)), (1, vI a1)] 0 []
  refine a_iload_n 1 dX8_outlookBy_0 rfl ?_
  refine a_iconst dX8_outlookBy_1 ?_
  refine a_icmp_ne 12 dX8_outlookBy_2 (by decide) rfl (by decide) h (fun c1 h => ?_) (fun c1 h => ?_)
  · skip
    refine a_aload_n 0 dX8_outlookBy_12 rfl ?_
    refine a_getR (j := 9) dX8_outlookBy_13 KX8 rfl (by decide) rfl kf_RX8_58 ?_
    refine a_astore_n (L' := [(2, .ref (gP G 33)), (0, .ref (gP G 0)), (1, vI a1)]) dX8_outlookBy_16 (by decide) rfl ?_
    refine a_aload_n 0 dX8_outlookBy_17 rfl ?_
    refine a_iload_n 2 dX8_outlookBy_18 rfl ?_
    refine a_aload_n 1 dX8_outlookBy_19 rfl ?_
    refine a_getR (j := 5) dX8_outlookBy_20 KX8 rfl (by decide) rfl kf_RX8_39 ?_
    refine a_getIN (j := 3) dX8_outlookBy_23 KX7 rfl (by decide) rfl kf_RX8_146 ?_
    refine bn_s h (fun r2 σ4 e3 h => ?_)
    refine a_callVV dX8_outlookBy_26 mX3_lookBy KX3 rfl kv_X3_lookBy ks_X3_lookBy rfl km_RX8_214 rfl (T_X3_lookBy33 e3) (fun _ => rfl) rfl (Nat.le_of_ble_eq_true rfl) (Nat.le_of_ble_eq_true rfl) ⟨show 0 + 3 ≤ 3 by omega, show 0 + 98304 ≤ 98304 by omega⟩ (Nat.le_of_ble_eq_true rfl) ?_
    refine a_aload_n 0 dX8_outlookBy_29 rfl ?_
    refine a_widen (k' := 3) (n' := 98304) (by omega) (by omega) ?_
    exact a_aret dX8_outlookBy_30 rfl (by rw [← p_1 h]; rfl) (p_T (p_2 h))
  · skip
    refine a_aload_n 0 dX8_outlookBy_5 rfl ?_
    refine a_getR (j := 8) dX8_outlookBy_6 KX8 rfl (by decide) rfl kf_RX8_54 ?_
    refine a_goto 16 dX8_outlookBy_9 (by decide) ?_
    refine a_astore_n (L' := [(2, .ref (gP G 29)), (0, .ref (gP G 0)), (1, vI a1)]) dX8_outlookBy_16 (by decide) rfl ?_
    refine a_aload_n 0 dX8_outlookBy_17 rfl ?_
    refine a_iload_n 2 dX8_outlookBy_18 rfl ?_
    refine a_aload_n 1 dX8_outlookBy_19 rfl ?_
    refine a_getR (j := 5) dX8_outlookBy_20 KX8 rfl (by decide) rfl kf_RX8_39 ?_
    refine a_getIN (j := 3) dX8_outlookBy_23 KX7 rfl (by decide) rfl kf_RX8_146 ?_
    refine bn_s h (fun r5 σ7 e6 h => ?_)
    refine a_callVV dX8_outlookBy_26 mX3_lookBy KX3 rfl kv_X3_lookBy ks_X3_lookBy rfl km_RX8_214 rfl (T_X3_lookBy29 e6) (fun _ => rfl) rfl (Nat.le_of_ble_eq_true rfl) (Nat.le_of_ble_eq_true rfl) ⟨show 0 + 3 ≤ 3 by omega, show 0 + 98304 ≤ 98304 by omega⟩ (Nat.le_of_ble_eq_true rfl) ?_
    refine a_aload_n 0 dX8_outlookBy_29 rfl ?_
    refine a_widen (k' := 3) (n' := 98304) (by omega) (by omega) ?_
    exact a_aret dX8_outlookBy_30 rfl (by rw [← p_1 h]; rfl) (p_T (p_2 h))

def X8_thought (F : Nat) (σ : sM) (a1 : Int) : Option (Int × sM) := bp (X1_isSort σ a1) (fun r1 => if ¬ wi r1 = 0 then bn (X6_beginAnew F σ a1) (fun r4 σ6 => some (1, σ6)) else some ((-1), σ))
set_option maxRecDepth 100000 in
set_option maxHeartbeats 400000 in
theorem T_X8_thought {G : sG} {q_0 : qT} {x_0 : List Nat} {σ s_0 : sM} {r_0 : Int} {a1 : Int} {F : Nat}  (h : X8_thought F σ a1 = some (r_0, s_0)) : aM G yX8_thought cX8_thought 2 (some .int) 2 0 0 [.ref (gP G 0), vI a1] (mkSh q_0 x_0, σ) (r_0, (mkSh q_0 x_0, s_0)) := by
  unfold X8_thought at h
  refine aM_of (by decide) (Nat.le_of_ble_eq_true rfl) ?_
  show aW G cX8_thought RX8 "thought" 2 (some .int) _ _ aX 0 0 _ [(0, .ref (gP G 0)), (1, vI a1)] 0 []
  refine a_aload_n 0 dX8_thought_0 rfl ?_
  refine a_getR (j := 2) dX8_thought_1 KX8 rfl (by decide) rfl kf_RX8_20 ?_
  refine a_iload_n 1 dX8_thought_4 rfl ?_
  refine bp_s h (fun r1 e2 h => ?_)
  refine a_callVI dX8_thought_5 mX1_isSort KX1 rfl kv_X1_isSort ks_X1_isSort rfl km_RX8_116 rfl (T_X1_isSort e2) (fun _ => rfl) rfl (Nat.le_of_ble_eq_true rfl) (Nat.le_of_ble_eq_true rfl) ⟨(Nat.le_of_ble_eq_true rfl), (Nat.le_of_ble_eq_true rfl)⟩ (Nat.le_of_ble_eq_true rfl) ?_
  refine a_if_ne 13 dX8_thought_8 (by decide) rfl h (fun c3 h => ?_) (fun c3 h => ?_)
  · skip
    refine a_aload_n 0 dX8_thought_13 rfl ?_
    refine a_getR (j := 12) dX8_thought_14 KX8 rfl (by decide) rfl kf_RX8_78 ?_
    refine a_iload_n 1 dX8_thought_17 rfl ?_
    refine bn_s h (fun r4 σ6 e5 h => ?_)
    refine a_callVV dX8_thought_18 mX6_beginAnew KX6 rfl kv_X6_beginAnew ks_X6_beginAnew rfl km_RX8_111 rfl (T_X6_beginAnew e5) (fun _ => rfl) rfl (Nat.le_of_ble_eq_true rfl) (Nat.le_of_ble_eq_true rfl) ⟨(Nat.le_of_ble_eq_true rfl), (Nat.le_of_ble_eq_true rfl)⟩ (Nat.le_of_ble_eq_true rfl) ?_
    refine a_iconst dX8_thought_21 ?_
    exact a_iret dX8_thought_22 rfl (p_1 h) (p_S (p_2 h))
  · skip
    refine a_iconst dX8_thought_11 ?_
    exact a_iret dX8_thought_12 rfl (p_1 h) (p_S (p_2 h))

def X8_imageOf (σ : sM) (a1 : Int) : Option Int := if ¬ wi a1 = 0 then some ((28 : Nat) : Int) else some ((27 : Nat) : Int)
set_option maxRecDepth 100000 in
set_option maxHeartbeats 400000 in
theorem T_X8_imageOf {G : sG} {q_0 : qT} {x_0 : List Nat} {σ : sM} {r_0 : Int} {a1 : Int}  (h : X8_imageOf σ a1 = some r_0) : aM G yX8_imageOf cX8_imageOf 2 (some (.object "CheeseFirst$Winter")) 0 0 0 [.ref (gP G 0), vI a1] (mkSh q_0 x_0, σ) (r_0, (mkSh q_0 x_0, σ)) := by
  unfold X8_imageOf at h
  refine aM_of (by decide) (Nat.le_of_ble_eq_true rfl) ?_
  show aW G cX8_imageOf RX8 "imageOf" 2 (some (.object "CheeseFirst$Winter")) _ _ aX 0 0 _ [(0, .ref (gP G 0)), (1, vI a1)] 0 []
  refine a_iload_n 1 dX8_imageOf_0 rfl ?_
  refine a_if_ne 11 dX8_imageOf_1 (by decide) rfl h (fun c1 h => ?_) (fun c1 h => ?_)
  · skip
    refine a_aload_n 0 dX8_imageOf_11 rfl ?_
    refine a_getR (j := 7) dX8_imageOf_12 KX8 rfl (by decide) rfl kf_RX8_46 ?_
    exact a_aret dX8_imageOf_15 rfl (by rw [← (s_inj h)]; rfl) rfl
  · skip
    refine a_aload_n 0 dX8_imageOf_4 rfl ?_
    refine a_getR (j := 6) dX8_imageOf_5 KX8 rfl (by decide) rfl kf_RX8_43 ?_
    refine a_goto 15 dX8_imageOf_8 (by decide) ?_
    exact a_aret dX8_imageOf_15 rfl (by rw [← (s_inj h)]; rfl) rfl

def X8_keep (σ : sM) (a1 : Int) : Option (Int × sM) := if wi a1 < 0 then some ((-1), σ) else if wi a1 < 2 then bp (X8_imageOf σ a1) (fun r3 => if r3 = 27 then bn (X7_becomeLike 27 26 σ) (fun r6 σ8 => some ((sU σ8 27 7 1) 26 0, (sU σ8 27 7 1))) else if r3 = 28 then bn (X7_becomeLike 28 26 σ) (fun r10 σ12 => some ((sU σ12 28 7 1) 26 0, (sU σ12 28 7 1))) else none) else some ((-1), σ)
set_option maxRecDepth 100000 in
set_option maxHeartbeats 400000 in
theorem T_X8_keep {G : sG} {q_0 : qT} {x_0 : List Nat} {σ s_0 : sM} {r_0 : Int} {a1 : Int}  (h : X8_keep σ a1 = some (r_0, s_0)) : aM G yX8_keep cX8_keep 3 (some .int) 1 0 0 [.ref (gP G 0), vI a1] (mkSh q_0 x_0, σ) (r_0, (mkSh q_0 x_0, s_0)) := by
  unfold X8_keep at h
  refine aM_of (by decide) (Nat.le_of_ble_eq_true rfl) ?_
  show aW G cX8_keep RX8 "keep" 3 (some .int) _ _ aX 0 0 _ [(0, .ref (gP G 0)), (1, vI a1)] 0 []
  refine a_iload_n 1 dX8_keep_0 rfl ?_
  refine a_if_lt 9 dX8_keep_1 (by decide) rfl h (fun c1 h => ?_) (fun c1 h => ?_)
  · skip
    refine a_iconst dX8_keep_9 ?_
    exact a_iret dX8_keep_10 rfl (p_1 h) (p_S (p_2 h))
  · skip
    refine a_iload_n 1 dX8_keep_4 rfl ?_
    refine a_iconst dX8_keep_5 ?_
    refine a_icmp_lt 11 dX8_keep_6 (by decide) rfl (by decide) h (fun c2 h => ?_) (fun c2 h => ?_)
    · skip
      refine a_aload_n 0 dX8_keep_11 rfl ?_
      refine a_iload_n 1 dX8_keep_12 rfl ?_
      refine bp_s h (fun r3 e4 h => ?_)
      refine a_callVR dX8_keep_13 mX8_imageOf KX8 rfl kv_X8_imageOf ks_X8_imageOf rfl km_RX8_305 rfl (T_X8_imageOf e4) (fun _ => rfl) rfl (Nat.le_of_ble_eq_true rfl) (Nat.le_of_ble_eq_true rfl) ⟨(Nat.le_of_ble_eq_true rfl), (Nat.le_of_ble_eq_true rfl)⟩ (Nat.le_of_ble_eq_true rfl) ?_
      refine a_if h (fun c5 hz => ?_) (fun c5 h => ?_)
      · skip
        subst c5
        have h := hz
        refine a_astore_n (L' := [(2, .ref (gP G 27)), (0, .ref (gP G 0)), (1, vI a1)]) dX8_keep_16 (by decide) rfl ?_
        refine a_aload_n 0 dX8_keep_17 rfl ?_
        refine a_aload_n 1 dX8_keep_18 rfl ?_
        refine a_getR (j := 5) dX8_keep_19 KX8 rfl (by decide) rfl kf_RX8_39 ?_
        refine bn_s h (fun r6 σ8 e7 h => ?_)
        refine a_callVV dX8_keep_22 mX7_becomeLike KX7 rfl kv_X7_becomeLike ks_X7_becomeLike rfl km_RX8_309 rfl (T_X7_becomeLike rfl rfl e7) (fun _ => rfl) rfl (Nat.le_of_ble_eq_true rfl) (Nat.le_of_ble_eq_true rfl) ⟨(Nat.le_of_ble_eq_true rfl), (Nat.le_of_ble_eq_true rfl)⟩ (Nat.le_of_ble_eq_true rfl) ?_
        refine a_aload_n 0 dX8_keep_25 rfl ?_
        refine a_iconst dX8_keep_26 ?_
        refine a_putZN (j := 7) dX8_keep_27 KX7 rfl (by decide) rfl rfl rfl kf_RX8_107 (by decide) ?_
        refine a_aload_n 1 dX8_keep_30 rfl ?_
        refine a_getR (j := 5) dX8_keep_31 KX8 rfl (by decide) rfl kf_RX8_39 ?_
        refine a_getIN (j := 0) dX8_keep_34 KX7 rfl (by decide) rfl kf_RX8_155 ?_
        exact a_iret dX8_keep_37 rfl (p_1 h) (p_S (p_2 h))
      · skip
        refine a_if h (fun c9 hz => ?_) (fun c9 h => ?_)
        · skip
          subst c9
          have h := hz
          refine a_astore_n (L' := [(2, .ref (gP G 28)), (0, .ref (gP G 0)), (1, vI a1)]) dX8_keep_16 (by decide) rfl ?_
          refine a_aload_n 0 dX8_keep_17 rfl ?_
          refine a_aload_n 1 dX8_keep_18 rfl ?_
          refine a_getR (j := 5) dX8_keep_19 KX8 rfl (by decide) rfl kf_RX8_39 ?_
          refine bn_s h (fun r10 σ12 e11 h => ?_)
          refine a_callVV dX8_keep_22 mX7_becomeLike KX7 rfl kv_X7_becomeLike ks_X7_becomeLike rfl km_RX8_309 rfl (T_X7_becomeLike rfl rfl e11) (fun _ => rfl) rfl (Nat.le_of_ble_eq_true rfl) (Nat.le_of_ble_eq_true rfl) ⟨(Nat.le_of_ble_eq_true rfl), (Nat.le_of_ble_eq_true rfl)⟩ (Nat.le_of_ble_eq_true rfl) ?_
          refine a_aload_n 0 dX8_keep_25 rfl ?_
          refine a_iconst dX8_keep_26 ?_
          refine a_putZN (j := 7) dX8_keep_27 KX7 rfl (by decide) rfl rfl rfl kf_RX8_107 (by decide) ?_
          refine a_aload_n 1 dX8_keep_30 rfl ?_
          refine a_getR (j := 5) dX8_keep_31 KX8 rfl (by decide) rfl kf_RX8_39 ?_
          refine a_getIN (j := 0) dX8_keep_34 KX7 rfl (by decide) rfl kf_RX8_155 ?_
          exact a_iret dX8_keep_37 rfl (p_1 h) (p_S (p_2 h))
        · skip
          cases h
    · skip
      refine a_iconst dX8_keep_9 ?_
      exact a_iret dX8_keep_10 rfl (p_1 h) (p_S (p_2 h))

def X8_back (σ : sM) (a1 : Int) : Option (Int × sM) := if wi a1 < 0 then some ((-1), σ) else if wi a1 < 2 then bp (X8_imageOf σ a1) (fun r3 => if r3 = 27 then if ¬ wi (σ 27 7) = 0 then bn (X7_becomeLike 26 27 σ) (fun r7 σ9 => some (σ9 26 0, σ9)) else some ((-2), σ) else if r3 = 28 then if ¬ wi (σ 28 7) = 0 then bn (X7_becomeLike 26 28 σ) (fun r12 σ14 => some (σ14 26 0, σ14)) else some ((-2), σ) else none) else some ((-1), σ)
set_option maxRecDepth 100000 in
set_option maxHeartbeats 400000 in
theorem T_X8_back {G : sG} {q_0 : qT} {x_0 : List Nat} {σ s_0 : sM} {r_0 : Int} {a1 : Int}  (h : X8_back σ a1 = some (r_0, s_0)) : aM G yX8_back cX8_back 3 (some .int) 1 0 0 [.ref (gP G 0), vI a1] (mkSh q_0 x_0, σ) (r_0, (mkSh q_0 x_0, s_0)) := by
  unfold X8_back at h
  refine aM_of (by decide) (Nat.le_of_ble_eq_true rfl) ?_
  show aW G cX8_back RX8 "back" 3 (some .int) _ _ aX 0 0 _ [(0, .ref (gP G 0)), (1, vI a1)] 0 []
  refine a_iload_n 1 dX8_back_0 rfl ?_
  refine a_if_lt 9 dX8_back_1 (by decide) rfl h (fun c1 h => ?_) (fun c1 h => ?_)
  · skip
    refine a_iconst dX8_back_9 ?_
    exact a_iret dX8_back_10 rfl (p_1 h) (p_S (p_2 h))
  · skip
    refine a_iload_n 1 dX8_back_4 rfl ?_
    refine a_iconst dX8_back_5 ?_
    refine a_icmp_lt 11 dX8_back_6 (by decide) rfl (by decide) h (fun c2 h => ?_) (fun c2 h => ?_)
    · skip
      refine a_aload_n 0 dX8_back_11 rfl ?_
      refine a_iload_n 1 dX8_back_12 rfl ?_
      refine bp_s h (fun r3 e4 h => ?_)
      refine a_callVR dX8_back_13 mX8_imageOf KX8 rfl kv_X8_imageOf ks_X8_imageOf rfl km_RX8_305 rfl (T_X8_imageOf e4) (fun _ => rfl) rfl (Nat.le_of_ble_eq_true rfl) (Nat.le_of_ble_eq_true rfl) ⟨(Nat.le_of_ble_eq_true rfl), (Nat.le_of_ble_eq_true rfl)⟩ (Nat.le_of_ble_eq_true rfl) ?_
      refine a_if h (fun c5 hz => ?_) (fun c5 h => ?_)
      · skip
        subst c5
        have h := hz
        refine a_astore_n (L' := [(2, .ref (gP G 27)), (0, .ref (gP G 0)), (1, vI a1)]) dX8_back_16 (by decide) rfl ?_
        refine a_aload_n 0 dX8_back_17 rfl ?_
        refine a_getIN (j := 7) dX8_back_18 KX7 rfl (by decide) rfl kf_RX8_107 ?_
        refine a_if_ne 27 dX8_back_21 (by decide) rfl h (fun c6 h => ?_) (fun c6 h => ?_)
        · skip
          refine a_aload_n 1 dX8_back_27 rfl ?_
          refine a_getR (j := 5) dX8_back_28 KX8 rfl (by decide) rfl kf_RX8_39 ?_
          refine a_aload_n 0 dX8_back_31 rfl ?_
          refine bn_s h (fun r7 σ9 e8 h => ?_)
          refine a_callVV dX8_back_32 mX7_becomeLike KX7 rfl kv_X7_becomeLike ks_X7_becomeLike rfl km_RX8_309 rfl (T_X7_becomeLike rfl rfl e8) (fun _ => rfl) rfl (Nat.le_of_ble_eq_true rfl) (Nat.le_of_ble_eq_true rfl) ⟨(Nat.le_of_ble_eq_true rfl), (Nat.le_of_ble_eq_true rfl)⟩ (Nat.le_of_ble_eq_true rfl) ?_
          refine a_aload_n 1 dX8_back_35 rfl ?_
          refine a_getR (j := 5) dX8_back_36 KX8 rfl (by decide) rfl kf_RX8_39 ?_
          refine a_getIN (j := 0) dX8_back_39 KX7 rfl (by decide) rfl kf_RX8_155 ?_
          exact a_iret dX8_back_42 rfl (p_1 h) (p_S (p_2 h))
        · skip
          refine a_bipush dX8_back_24 (by decide) ?_
          exact a_iret dX8_back_26 rfl (p_1 h) (p_S (p_2 h))
      · skip
        refine a_if h (fun c10 hz => ?_) (fun c10 h => ?_)
        · skip
          subst c10
          have h := hz
          refine a_astore_n (L' := [(2, .ref (gP G 28)), (0, .ref (gP G 0)), (1, vI a1)]) dX8_back_16 (by decide) rfl ?_
          refine a_aload_n 0 dX8_back_17 rfl ?_
          refine a_getIN (j := 7) dX8_back_18 KX7 rfl (by decide) rfl kf_RX8_107 ?_
          refine a_if_ne 27 dX8_back_21 (by decide) rfl h (fun c11 h => ?_) (fun c11 h => ?_)
          · skip
            refine a_aload_n 1 dX8_back_27 rfl ?_
            refine a_getR (j := 5) dX8_back_28 KX8 rfl (by decide) rfl kf_RX8_39 ?_
            refine a_aload_n 0 dX8_back_31 rfl ?_
            refine bn_s h (fun r12 σ14 e13 h => ?_)
            refine a_callVV dX8_back_32 mX7_becomeLike KX7 rfl kv_X7_becomeLike ks_X7_becomeLike rfl km_RX8_309 rfl (T_X7_becomeLike rfl rfl e13) (fun _ => rfl) rfl (Nat.le_of_ble_eq_true rfl) (Nat.le_of_ble_eq_true rfl) ⟨(Nat.le_of_ble_eq_true rfl), (Nat.le_of_ble_eq_true rfl)⟩ (Nat.le_of_ble_eq_true rfl) ?_
            refine a_aload_n 1 dX8_back_35 rfl ?_
            refine a_getR (j := 5) dX8_back_36 KX8 rfl (by decide) rfl kf_RX8_39 ?_
            refine a_getIN (j := 0) dX8_back_39 KX7 rfl (by decide) rfl kf_RX8_155 ?_
            exact a_iret dX8_back_42 rfl (p_1 h) (p_S (p_2 h))
          · skip
            refine a_bipush dX8_back_24 (by decide) ?_
            exact a_iret dX8_back_26 rfl (p_1 h) (p_S (p_2 h))
        · skip
          cases h
    · skip
      refine a_iconst dX8_back_9 ?_
      exact a_iret dX8_back_10 rfl (p_1 h) (p_S (p_2 h))

def X8_count (σ : sM) (a1 : Int) : Option Int := if wi a1 = 0 then some (σ 2 5) else if wi a1 = 1 then some (σ 2 6) else if wi a1 = 2 then some (σ 2 7) else if wi a1 = 3 then some (σ 2 8) else if wi a1 = 4 then some (σ 0 1) else if wi a1 = 5 then some (σ 49 3) else some (-1)
set_option maxRecDepth 100000 in
set_option maxHeartbeats 400000 in
theorem T_X8_count {G : sG} {q_0 : qT} {x_0 : List Nat} {σ : sM} {r_0 : Int} {a1 : Int}  (h : X8_count σ a1 = some r_0) : aM G yX8_count cX8_count 2 (some .int) 0 0 0 [.ref (gP G 0), vI a1] (mkSh q_0 x_0, σ) (r_0, (mkSh q_0 x_0, σ)) := by
  unfold X8_count at h
  refine aM_of (by decide) (Nat.le_of_ble_eq_true rfl) ?_
  show aW G cX8_count RX8 "count" 2 (some .int) _ _ aX 0 0 _ [(0, .ref (gP G 0)), (1, vI a1)] 0 []
  refine a_iload_n 1 dX8_count_0 rfl ?_
  refine a_if h (fun c1 h => ?_) (fun c1 h => ?_)
  · skip
    refine a_tsIn (off := 39) 40 dX8_count_1 c1 (by decide) (by decide) (by decide) ?_
    refine a_aload_n 0 dX8_count_40 rfl ?_
    refine a_getR (j := 2) dX8_count_41 KX8 rfl (by decide) rfl kf_RX8_20 ?_
    refine a_getIN (j := 5) dX8_count_44 KX1 rfl (by decide) rfl kf_RX8_311 ?_
    exact a_iret dX8_count_47 rfl (s_inj h) rfl
  · skip
    refine a_if h (fun c2 h => ?_) (fun c2 h => ?_)
    · skip
      refine a_tsIn (off := 47) 48 dX8_count_1 c2 (by decide) (by decide) (by decide) ?_
      refine a_aload_n 0 dX8_count_48 rfl ?_
      refine a_getR (j := 2) dX8_count_49 KX8 rfl (by decide) rfl kf_RX8_20 ?_
      refine a_getIN (j := 6) dX8_count_52 KX1 rfl (by decide) rfl kf_RX8_314 ?_
      exact a_iret dX8_count_55 rfl (s_inj h) rfl
    · skip
      refine a_if h (fun c3 h => ?_) (fun c3 h => ?_)
      · skip
        refine a_tsIn (off := 55) 56 dX8_count_1 c3 (by decide) (by decide) (by decide) ?_
        refine a_aload_n 0 dX8_count_56 rfl ?_
        refine a_getR (j := 2) dX8_count_57 KX8 rfl (by decide) rfl kf_RX8_20 ?_
        refine a_getIN (j := 7) dX8_count_60 KX1 rfl (by decide) rfl kf_RX8_189 ?_
        exact a_iret dX8_count_63 rfl (s_inj h) rfl
      · skip
        refine a_if h (fun c4 h => ?_) (fun c4 h => ?_)
        · skip
          refine a_tsIn (off := 63) 64 dX8_count_1 c4 (by decide) (by decide) (by decide) ?_
          refine a_aload_n 0 dX8_count_64 rfl ?_
          refine a_getR (j := 2) dX8_count_65 KX8 rfl (by decide) rfl kf_RX8_20 ?_
          refine a_getIN (j := 8) dX8_count_68 KX1 rfl (by decide) rfl kf_RX8_317 ?_
          exact a_iret dX8_count_71 rfl (s_inj h) rfl
        · skip
          refine a_if h (fun c5 h => ?_) (fun c5 h => ?_)
          · skip
            refine a_tsIn (off := 71) 72 dX8_count_1 c5 (by decide) (by decide) (by decide) ?_
            refine a_aload_n 0 dX8_count_72 rfl ?_
            refine a_getI (j := 1) dX8_count_73 KX8 rfl (by decide) rfl kf_RX8_13 ?_
            exact a_iret dX8_count_76 rfl (s_inj h) rfl
          · skip
            refine a_if h (fun c6 h => ?_) (fun c6 h => ?_)
            · skip
              refine a_tsIn (off := 76) 77 dX8_count_1 c6 (by decide) (by decide) (by decide) ?_
              refine a_aload_n 0 dX8_count_77 rfl ?_
              refine a_getR (j := 12) dX8_count_78 KX8 rfl (by decide) rfl kf_RX8_78 ?_
              refine a_getIN (j := 3) dX8_count_81 KX6 rfl (by decide) rfl kf_RX8_320 ?_
              exact a_iret dX8_count_84 rfl (s_inj h) rfl
            · skip
              refine a_tsOut (v := wi a1) 85 dX8_count_1 rfl (by omega) (by decide) ?_
              refine a_iconst dX8_count_85 ?_
              exact a_iret dX8_count_86 rfl (s_inj h) rfl

