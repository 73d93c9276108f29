def X1_becomeEmpty (F : Nat) (σ : sM) : Option (Int × sM) := bn (J7_fill_53178 F 19 3 (sU (sU (sU (sU σ 12 5 0) 12 6 0) 12 7 6) 12 8 3) 0) (fun r1 σ3 => bn (J7_fill_53178 F 20 8 σ3 0) (fun r4 σ6 => bn (J7_fill_53178 F 21 8 σ6 0) (fun r7 σ9 => some (0, σ9))))
set_option maxRecDepth 100000 in
set_option maxHeartbeats 400000 in
theorem T_X1_becomeEmpty {G : sG} {q_0 : qT} {x_0 : List Nat} {σ s_0 : sM} {r_0 : Int} {F : Nat}  (h : X1_becomeEmpty F σ = some (r_0, s_0)) : aM G yX1_becomeEmpty cX1_becomeEmpty 1 none 1 0 0 [.ref (gP G 12)] (mkSh q_0 x_0, σ) (r_0, (mkSh q_0 x_0, s_0)) := by
  unfold X1_becomeEmpty at h
  refine aM_of (by decide) (Nat.le_of_ble_eq_true rfl) ?_
  show aW G cX1_becomeEmpty RX1 "becomeEmpty" 1 none _ _ aX 0 0 _ [(0, .ref (gP G 12))] 0 []
  refine a_aload_n 0 dX1_becomeEmpty_0 rfl ?_
  refine a_iconst dX1_becomeEmpty_1 ?_
  refine a_putI (j := 5) dX1_becomeEmpty_2 KX1 rfl (by decide) rfl rfl rfl kf_RX1_29 ?_
  refine a_aload_n 0 dX1_becomeEmpty_5 rfl ?_
  refine a_iconst dX1_becomeEmpty_6 ?_
  refine a_putI (j := 6) dX1_becomeEmpty_7 KX1 rfl (by decide) rfl rfl rfl kf_RX1_33 ?_
  refine a_aload_n 0 dX1_becomeEmpty_10 rfl ?_
  refine a_bipush dX1_becomeEmpty_11 (by decide) ?_
  refine a_putI (j := 7) dX1_becomeEmpty_13 KX1 rfl (by decide) rfl rfl rfl kf_RX1_36 ?_
  refine a_aload_n 0 dX1_becomeEmpty_16 rfl ?_
  refine a_iconst dX1_becomeEmpty_17 ?_
  refine a_putI (j := 8) dX1_becomeEmpty_18 KX1 rfl (by decide) rfl rfl rfl kf_RX1_39 ?_
  refine a_aload_n 0 dX1_becomeEmpty_21 rfl ?_
  refine a_getR (j := 2) dX1_becomeEmpty_22 KX1 rfl (by decide) rfl kf_RX1_20 ?_
  refine a_iconst dX1_becomeEmpty_25 ?_
  refine bn_s h (fun r1 σ3 e2 h => ?_)
  refine a_callSV dX1_becomeEmpty_26 mJ7_fill_53178 kv_J7_fill_53178 km_RX1_42 rfl (T_J7_fill_53178 rfl e2) (fun _ => rfl) rfl (Nat.le_of_ble_eq_true rfl) (Nat.le_of_ble_eq_true rfl) ⟨(Nat.le_of_ble_eq_true rfl), (Nat.le_of_ble_eq_true rfl)⟩ (Nat.le_of_ble_eq_true rfl) ?_
  refine a_aload_n 0 dX1_becomeEmpty_29 rfl ?_
  refine a_getR (j := 3) dX1_becomeEmpty_30 KX1 rfl (by decide) rfl kf_RX1_23 ?_
  refine a_iconst dX1_becomeEmpty_33 ?_
  refine bn_s h (fun r4 σ6 e5 h => ?_)
  refine a_callSV dX1_becomeEmpty_34 mJ7_fill_53178 kv_J7_fill_53178 km_RX1_42 rfl (T_J7_fill_53178 rfl e5) (fun _ => rfl) rfl (Nat.le_of_ble_eq_true rfl) (Nat.le_of_ble_eq_true rfl) ⟨(Nat.le_of_ble_eq_true rfl), (Nat.le_of_ble_eq_true rfl)⟩ (Nat.le_of_ble_eq_true rfl) ?_
  refine a_aload_n 0 dX1_becomeEmpty_37 rfl ?_
  refine a_getR (j := 4) dX1_becomeEmpty_38 KX1 rfl (by decide) rfl kf_RX1_26 ?_
  refine a_iconst dX1_becomeEmpty_41 ?_
  refine bn_s h (fun r7 σ9 e8 h => ?_)
  refine a_callSV dX1_becomeEmpty_42 mJ7_fill_53178 kv_J7_fill_53178 km_RX1_42 rfl (T_J7_fill_53178 rfl e8) (fun _ => rfl) rfl (Nat.le_of_ble_eq_true rfl) (Nat.le_of_ble_eq_true rfl) ⟨(Nat.le_of_ble_eq_true rfl), (Nat.le_of_ble_eq_true rfl)⟩ (Nat.le_of_ble_eq_true rfl) ?_
  exact a_vret dX1_becomeEmpty_45 rfl (p_S (p_2 h))

def X1_startStand (F : Nat) (σ : sM) : Option Int := lp (fun K2 (q1 : Int × Int) => if 3 ≤ wi q1.2 then some q1.1 else bp (X1_portionsAtFirst σ q1.2) (fun r4 => bp (X8_field σ q1.2 0 r4) (fun r6 => K2 (q_or q1.1 r6, q1.2 + 1)))) F (0, 0)
set_option maxRecDepth 100000 in
set_option maxHeartbeats 400000 in
theorem T_X1_startStand {G : sG} {q_0 : qT} {x_0 : List Nat} {σ : sM} {r_0 : Int} {F : Nat}  (h : X1_startStand F σ = some r_0) : aM G yX1_startStand cX1_startStand 3 (some .int) 1 0 0 [.ref (gP G 2)] (mkSh q_0 x_0, σ) (r_0, (mkSh q_0 x_0, σ)) := by
  unfold X1_startStand at h
  refine aM_of (by decide) (Nat.le_of_ble_eq_true rfl) ?_
  show aW G cX1_startStand RX1 "startStand" 3 (some .int) _ _ aX 0 0 _ [(0, .ref (gP G 2))] 0 []
  refine a_iconst dX1_startStand_0 ?_
  refine a_istore_n (L' := [(1, vI 0), (0, .ref (gP G 2))]) dX1_startStand_1 (by decide) rfl ?_
  refine a_iconst dX1_startStand_2 ?_
  refine a_istore_n (L' := [(2, vI 0), (1, vI 0), (0, .ref (gP G 2))]) dX1_startStand_3 (by decide) rfl ?_
  refine a_sub (L' := [(0, .ref (gP G 2)), (1, vI 0), (2, vI 0)]) [2, 1, 0] rfl (lp_s (x := (0, 0)) (fun q1 : Int × Int => aW G cX1_startStand RX1 "startStand" 3 (some .int) (sR 1 0 0) (aQ G (some .int) 0 0 (r_0, (mkSh q_0 x_0, σ))) aX 0 0 (mkSh q_0 x_0, σ) [(0, .ref (gP G 2)), (1, vI q1.1), (2, vI q1.2)] 4 []) h (fun K2 hK2 q1 h => ?_))
  refine a_iload_n 2 dX1_startStand_4 rfl ?_
  refine a_iconst dX1_startStand_5 ?_
  refine a_icmp_ge 28 dX1_startStand_6 (by decide) rfl (by decide) h (fun c3 h => ?_) (fun c3 h => ?_)
  · skip
    refine a_iload_n 1 dX1_startStand_28 rfl ?_
    exact a_iret dX1_startStand_29 rfl (s_inj h) rfl
  · skip
    refine a_iload_n 1 dX1_startStand_9 rfl ?_
    refine a_iload_n 2 dX1_startStand_10 rfl ?_
    refine a_iconst dX1_startStand_11 ?_
    refine a_aload_n 0 dX1_startStand_12 rfl ?_
    refine a_iload_n 2 dX1_startStand_13 rfl ?_
    refine bp_s h (fun r4 e5 h => ?_)
    refine a_callVI dX1_startStand_14 mX1_portionsAtFirst KX1 rfl kv_X1_portionsAtFirst ks_X1_portionsAtFirst rfl km_RX1_54 rfl (T_X1_portionsAtFirst e5) (fun _ => rfl) rfl (Nat.le_of_ble_eq_true rfl) (Nat.le_of_ble_eq_true rfl) ⟨(Nat.le_of_ble_eq_true rfl), (Nat.le_of_ble_eq_true rfl)⟩ (Nat.le_of_ble_eq_true rfl) ?_
    refine bp_s h (fun r6 e7 h => ?_)
    refine a_callSNI dX1_startStand_17 mX8_field kv_X8_field km_RX1_58 rfl (T_X8_field e7) (fun _ => rfl) rfl (Nat.le_of_ble_eq_true rfl) (Nat.le_of_ble_eq_true rfl) ⟨(Nat.le_of_ble_eq_true rfl), (Nat.le_of_ble_eq_true rfl)⟩ (Nat.le_of_ble_eq_true rfl) ?_
    refine a_ior dX1_startStand_20 ?_
    refine a_istore_n (L' := [(1, vI (q_or q1.1 r6)), (0, .ref (gP G 2)), (2, vI q1.2)]) dX1_startStand_21 (by decide) rfl ?_
    refine a_iinc (L' := [(2, vI (q1.2 + 1)), (1, vI (q_or q1.1 r6)), (0, .ref (gP G 2))]) 2 dX1_startStand_22 rfl (by decide) rfl ?_
    refine a_goto 4 dX1_startStand_25 (by decide) ?_
    have hh := hK2 _ h
    exact a_sub [2, 1, 0] rfl hh

def X1_isWhole (σ : sM) (a1 a2 : Int) : Option Int := if wi a2 < 0 then some 0 else if 3 ≤ wi a2 then some 0 else bp (X8_portionsOf σ a1 a2) (fun r3 => if 0 ≤ wi a2 ∧ wi a2 < 3 then if ¬ wi r3 = wi (σ 9 (wi a2).toNat) then some 0 else some 1 else none)
set_option maxRecDepth 100000 in
set_option maxHeartbeats 400000 in
theorem T_X1_isWhole {G : sG} {q_0 : qT} {x_0 : List Nat} {σ : sM} {r_0 : Int} {a1 a2 : Int}  (h : X1_isWhole σ a1 a2 = some r_0) : aM G yX1_isWhole cX1_isWhole 3 (some .boolean) 1 0 0 [.ref (gP G 2), vI a1, vI a2] (mkSh q_0 x_0, σ) (r_0, (mkSh q_0 x_0, σ)) := by
  unfold X1_isWhole at h
  refine aM_of (by decide) (Nat.le_of_ble_eq_true rfl) ?_
  show aW G cX1_isWhole RX1 "isWhole" 3 (some .boolean) _ _ aX 0 0 _ [(0, .ref (gP G 2)), (1, vI a1), (2, vI a2)] 0 []
  refine a_iload_n 2 dX1_isWhole_0 rfl ?_
  refine a_if_lt 27 dX1_isWhole_1 (by decide) rfl h (fun c1 h => ?_) (fun c1 h => ?_)
  · skip
    refine a_iconst dX1_isWhole_27 ?_
    exact a_zret dX1_isWhole_28 rfl (by decide) (s_inj h) rfl
  · skip
    refine a_iload_n 2 dX1_isWhole_4 rfl ?_
    refine a_iconst dX1_isWhole_5 ?_
    refine a_icmp_ge 27 dX1_isWhole_6 (by decide) rfl (by decide) h (fun c2 h => ?_) (fun c2 h => ?_)
    · skip
      refine a_iconst dX1_isWhole_27 ?_
      exact a_zret dX1_isWhole_28 rfl (by decide) (s_inj h) rfl
    · skip
      refine a_iload_n 1 dX1_isWhole_9 rfl ?_
      refine a_iload_n 2 dX1_isWhole_10 rfl ?_
      refine bp_s h (fun r3 e4 h => ?_)
      refine a_callSNI dX1_isWhole_11 mX8_portionsOf kv_X8_portionsOf km_RX1_62 rfl (T_X8_portionsOf e4) (fun _ => rfl) rfl (Nat.le_of_ble_eq_true rfl) (Nat.le_of_ble_eq_true rfl) ⟨(Nat.le_of_ble_eq_true rfl), (Nat.le_of_ble_eq_true rfl)⟩ (Nat.le_of_ble_eq_true rfl) ?_
      refine a_aload_n 0 dX1_isWhole_14 rfl ?_
      refine a_getR (j := 2) dX1_isWhole_15 KX1 rfl (by decide) rfl kf_RX1_20 ?_
      refine a_iload_n 2 dX1_isWhole_18 rfl ?_
      refine a_gd h (fun c5 h => ?_)
      refine a_iald (x' := wi a2) dX1_isWhole_19 rfl rfl c5 rfl ?_
      refine a_icmp_ne 27 dX1_isWhole_20 (by decide) rfl rfl h (fun c6 h => ?_) (fun c6 h => ?_)
      · skip
        refine a_iconst dX1_isWhole_27 ?_
        exact a_zret dX1_isWhole_28 rfl (by decide) (s_inj h) rfl
      · skip
        refine a_iconst dX1_isWhole_23 ?_
        refine a_goto 28 dX1_isWhole_24 (by decide) ?_
        exact a_zret dX1_isWhole_28 rfl (by decide) (s_inj h) rfl

def X1_isOpen (σ : sM) (a1 a2 : Int) : Option Int := bp (X8_portionsOf σ a1 a2) (fun r1 => if wi r1 ≤ 0 then some 0 else bp (X1_isWhole σ a1 a2) (fun r4 => if ¬ wi r4 = 0 then some 0 else some 1))
set_option maxRecDepth 100000 in
set_option maxHeartbeats 400000 in
theorem T_X1_isOpen {G : sG} {q_0 : qT} {x_0 : List Nat} {σ : sM} {r_0 : Int} {a1 a2 : Int}  (h : X1_isOpen σ a1 a2 = some r_0) : aM G yX1_isOpen cX1_isOpen 3 (some .boolean) 2 0 0 [.ref (gP G 2), vI a1, vI a2] (mkSh q_0 x_0, σ) (r_0, (mkSh q_0 x_0, σ)) := by
  unfold X1_isOpen at h
  refine aM_of (by decide) (Nat.le_of_ble_eq_true rfl) ?_
  show aW G cX1_isOpen RX1 "isOpen" 3 (some .boolean) _ _ aX 0 0 _ [(0, .ref (gP G 2)), (1, vI a1), (2, vI a2)] 0 []
  refine a_iload_n 1 dX1_isOpen_0 rfl ?_
  refine a_iload_n 2 dX1_isOpen_1 rfl ?_
  refine bp_s h (fun r1 e2 h => ?_)
  refine a_callSNI dX1_isOpen_2 mX8_portionsOf kv_X8_portionsOf km_RX1_62 rfl (T_X8_portionsOf e2) (fun _ => rfl) rfl (Nat.le_of_ble_eq_true rfl) (Nat.le_of_ble_eq_true rfl) ⟨(Nat.le_of_ble_eq_true rfl), (Nat.le_of_ble_eq_true rfl)⟩ (Nat.le_of_ble_eq_true rfl) ?_
  refine a_if_le 21 dX1_isOpen_5 (by decide) rfl h (fun c3 h => ?_) (fun c3 h => ?_)
  · skip
    refine a_iconst dX1_isOpen_21 ?_
    exact a_zret dX1_isOpen_22 rfl (by decide) (s_inj h) rfl
  · skip
    refine a_aload_n 0 dX1_isOpen_8 rfl ?_
    refine a_iload_n 1 dX1_isOpen_9 rfl ?_
    refine a_iload_n 2 dX1_isOpen_10 rfl ?_
    refine bp_s h (fun r4 e5 h => ?_)
    refine a_callVI dX1_isOpen_11 mX1_isWhole KX1 rfl kv_X1_isWhole ks_X1_isWhole rfl km_RX1_66 rfl (T_X1_isWhole e5) (fun _ => rfl) rfl (Nat.le_of_ble_eq_true rfl) (Nat.le_of_ble_eq_true rfl) ⟨(Nat.le_of_ble_eq_true rfl), (Nat.le_of_ble_eq_true rfl)⟩ (Nat.le_of_ble_eq_true rfl) ?_
    refine a_if_ne 21 dX1_isOpen_14 (by decide) rfl h (fun c6 h => ?_) (fun c6 h => ?_)
    · skip
      refine a_iconst dX1_isOpen_21 ?_
      exact a_zret dX1_isOpen_22 rfl (by decide) (s_inj h) rfl
    · skip
      refine a_iconst dX1_isOpen_17 ?_
      refine a_goto 22 dX1_isOpen_18 (by decide) ?_
      exact a_zret dX1_isOpen_22 rfl (by decide) (s_inj h) rfl

def X1_countOpen (F : Nat) (σ : sM) (a1 : Int) : Option Int := lp (fun K2 (q1 : Int × Int) => if 3 ≤ wi q1.2 then some q1.1 else bp (X8_portionsOf σ a1 q1.2) (fun r4 => jn (fun q6 : Int => K2 (q1.1 + q6, q1.2 + 1)) (fun K7 => jn (fun q8 : Unit => K7 0) (fun K9 => if wi r4 ≤ 0 then K9 () else if 0 ≤ wi q1.2 ∧ wi q1.2 < 3 then if wi (σ 9 (wi q1.2).toNat) ≤ wi r4 then K9 () else K7 1 else none)))) F (0, 0)
set_option maxRecDepth 100000 in
set_option maxHeartbeats 400000 in
theorem T_X1_countOpen {G : sG} {q_0 : qT} {x_0 : List Nat} {σ : sM} {r_0 : Int} {a1 : Int} {F : Nat}  (h : X1_countOpen F σ a1 = some r_0) : aM G yX1_countOpen cX1_countOpen 5 (some .int) 1 0 0 [.ref (gP G 2), vI a1] (mkSh q_0 x_0, σ) (r_0, (mkSh q_0 x_0, σ)) := by
  unfold X1_countOpen at h
  refine aM_of (by decide) (Nat.le_of_ble_eq_true rfl) ?_
  show aW G cX1_countOpen RX1 "countOpen" 5 (some .int) _ _ aX 0 0 _ [(0, .ref (gP G 2)), (1, vI a1)] 0 []
  refine a_iconst dX1_countOpen_0 ?_
  refine a_istore_n (L' := [(2, vI 0), (0, .ref (gP G 2)), (1, vI a1)]) dX1_countOpen_1 (by decide) rfl ?_
  refine a_iconst dX1_countOpen_2 ?_
  refine a_istore_n (L' := [(3, vI 0), (2, vI 0), (0, .ref (gP G 2)), (1, vI a1)]) dX1_countOpen_3 (by decide) rfl ?_
  refine a_sub (L' := [(0, .ref (gP G 2)), (1, vI a1), (2, vI 0), (3, vI 0)]) [2, 3, 1, 0] rfl (lp_s (x := (0, 0)) (fun q1 : Int × Int => aW G cX1_countOpen RX1 "countOpen" 5 (some .int) (sR 1 0 0) (aQ G (some .int) 0 0 (r_0, (mkSh q_0 x_0, σ))) aX 0 0 (mkSh q_0 x_0, σ) [(0, .ref (gP G 2)), (1, vI a1), (2, vI q1.1), (3, vI q1.2)] 4 []) h (fun K2 hK2 q1 h => ?_))
  refine a_iload_n 3 dX1_countOpen_4 rfl ?_
  refine a_iconst dX1_countOpen_5 ?_
  refine a_icmp_ge 46 dX1_countOpen_6 (by decide) rfl (by decide) h (fun c3 h => ?_) (fun c3 h => ?_)
  · skip
    refine a_iload_n 2 dX1_countOpen_46 rfl ?_
    exact a_iret dX1_countOpen_47 rfl (s_inj h) rfl
  · skip
    refine a_iload_n 1 dX1_countOpen_9 rfl ?_
    refine a_iload_n 3 dX1_countOpen_10 rfl ?_
    refine bp_s h (fun r4 e5 h => ?_)
    refine a_callSNI dX1_countOpen_11 mX8_portionsOf kv_X8_portionsOf km_RX1_62 rfl (T_X8_portionsOf e5) (fun _ => rfl) rfl (Nat.le_of_ble_eq_true rfl) (Nat.le_of_ble_eq_true rfl) ⟨(Nat.le_of_ble_eq_true rfl), (Nat.le_of_ble_eq_true rfl)⟩ (Nat.le_of_ble_eq_true rfl) ?_
    refine a_istore (L' := [(4, vI r4), (0, .ref (gP G 2)), (1, vI a1), (2, vI q1.1), (3, vI q1.2)]) dX1_countOpen_14 (by decide) rfl ?_
    refine a_iload_n 3 dX1_countOpen_16 rfl ?_
    refine a_iload 0 dX1_countOpen_17 rfl ?_
    refine jn_s (fun q6 : Int => aW G cX1_countOpen RX1 "countOpen" 5 (some .int) (sR 1 0 0) (aQ G (some .int) 0 0 (r_0, (mkSh q_0 x_0, σ))) aX 0 0 (mkSh q_0 x_0, σ) [(0, .ref (gP G 2)), (1, vI a1), (3, vI q1.2)] 38 [vI q6, vI q1.1]) h (fun q6 h => ?_) (fun K7 hK7 h => ?_)
    · skip
      refine a_iadd dX1_countOpen_38 ?_
      refine a_istore_n (L' := [(2, vI (q1.1 + q6)), (0, .ref (gP G 2)), (1, vI a1), (3, vI q1.2)]) dX1_countOpen_39 (by decide) rfl ?_
      refine a_iinc (L' := [(3, vI (q1.2 + 1)), (2, vI (q1.1 + q6)), (0, .ref (gP G 2)), (1, vI a1)]) 3 dX1_countOpen_40 rfl (by decide) rfl ?_
      refine a_goto 4 dX1_countOpen_43 (by decide) ?_
      have hh := hK2 _ h
      exact a_sub [2, 3, 1, 0] rfl hh
    · skip
      refine jn_s (fun q8 : Unit => aW G cX1_countOpen RX1 "countOpen" 5 (some .int) (sR 1 0 0) (aQ G (some .int) 0 0 (r_0, (mkSh q_0 x_0, σ))) aX 0 0 (mkSh q_0 x_0, σ) [(0, .ref (gP G 2)), (1, vI a1), (3, vI q1.2)] 37 [vI q1.1]) h (fun q8 h => ?_) (fun K9 hK9 h => ?_)
      · skip
        refine a_iconst dX1_countOpen_37 ?_
        have hh := hK7 _ h
        exact a_sub [0, 1, 2] rfl hh
      · skip
        refine a_if_le 37 dX1_countOpen_19 (by decide) rfl h (fun c10 h => ?_) (fun c10 h => ?_)
        · skip
          have hh := hK9 _ h
          exact a_sub [1, 2, 4] rfl hh
        · skip
          refine a_iload 0 dX1_countOpen_22 rfl ?_
          refine a_aload_n 1 dX1_countOpen_24 rfl ?_
          refine a_getR (j := 2) dX1_countOpen_25 KX1 rfl (by decide) rfl kf_RX1_20 ?_
          refine a_iload_n 4 dX1_countOpen_28 rfl ?_
          refine a_gd h (fun c11 h => ?_)
          refine a_iald (x' := wi q1.2) dX1_countOpen_29 rfl rfl c11 rfl ?_
          refine a_icmp_ge 37 dX1_countOpen_30 (by decide) rfl rfl h (fun c12 h => ?_) (fun c12 h => ?_)
          · skip
            have hh := hK9 _ h
            exact a_sub [1, 2, 4] rfl hh
          · skip
            refine a_iconst dX1_countOpen_33 ?_
            refine a_goto 38 dX1_countOpen_34 (by decide) ?_
            have hh := hK7 _ h
            exact a_sub [1, 2, 4] rfl hh

def X1_goodNow (σ : sM) (a1 a2 : Int) : Option Int := bp (X1_sortOf σ a2) (fun r1 => bp (X8_stepOf σ a1 a2) (fun r3 => bp (X1_trait σ r1 (0 + r3)) (fun r5 => some r5)))
set_option maxRecDepth 100000 in
set_option maxHeartbeats 400000 in
theorem T_X1_goodNow {G : sG} {q_0 : qT} {x_0 : List Nat} {σ : sM} {r_0 : Int} {a1 a2 : Int}  (h : X1_goodNow σ a1 a2 = some r_0) : aM G yX1_goodNow cX1_goodNow 3 (some .int) 1 0 0 [.ref (gP G 2), vI a1, vI a2] (mkSh q_0 x_0, σ) (r_0, (mkSh q_0 x_0, σ)) := by
  unfold X1_goodNow at h
  refine aM_of (by decide) (Nat.le_of_ble_eq_true rfl) ?_
  show aW G cX1_goodNow RX1 "goodNow" 3 (some .int) _ _ aX 0 0 _ [(0, .ref (gP G 2)), (1, vI a1), (2, vI a2)] 0 []
  refine a_aload_n 0 dX1_goodNow_0 rfl ?_
  refine a_aload_n 0 dX1_goodNow_1 rfl ?_
  refine a_iload_n 2 dX1_goodNow_2 rfl ?_
  refine bp_s h (fun r1 e2 h => ?_)
  refine a_callVI dX1_goodNow_3 mX1_sortOf KX1 rfl kv_X1_sortOf ks_X1_sortOf rfl km_RX1_70 rfl (T_X1_sortOf e2) (fun _ => rfl) rfl (Nat.le_of_ble_eq_true rfl) (Nat.le_of_ble_eq_true rfl) ⟨(Nat.le_of_ble_eq_true rfl), (Nat.le_of_ble_eq_true rfl)⟩ (Nat.le_of_ble_eq_true rfl) ?_
  refine a_iconst dX1_goodNow_6 ?_
  refine a_iload_n 1 dX1_goodNow_7 rfl ?_
  refine a_iload_n 2 dX1_goodNow_8 rfl ?_
  refine bp_s h (fun r3 e4 h => ?_)
  refine a_callSNI dX1_goodNow_9 mX8_stepOf kv_X8_stepOf km_RX1_73 rfl (T_X8_stepOf e4) (fun _ => rfl) rfl (Nat.le_of_ble_eq_true rfl) (Nat.le_of_ble_eq_true rfl) ⟨(Nat.le_of_ble_eq_true rfl), (Nat.le_of_ble_eq_true rfl)⟩ (Nat.le_of_ble_eq_true rfl) ?_
  refine a_iadd dX1_goodNow_12 ?_
  refine bp_s h (fun r5 e6 h => ?_)
  refine a_callVI dX1_goodNow_13 mX1_trait KX1 rfl kv_X1_trait ks_X1_trait rfl km_RX1_76 rfl (T_X1_trait e6) (fun _ => rfl) rfl (Nat.le_of_ble_eq_true rfl) (Nat.le_of_ble_eq_true rfl) ⟨(Nat.le_of_ble_eq_true rfl), (Nat.le_of_ble_eq_true rfl)⟩ (Nat.le_of_ble_eq_true rfl) ?_
  exact a_iret dX1_goodNow_16 rfl (s_inj h) rfl

def X1_mayEat (F : Nat) (σ : sM) (a1 a2 : Int) : Option Int := bp (X1_isWheel σ a2) (fun r1 => if wi r1 = 0 then some 0 else bp (X8_portionsOf σ a1 a2) (fun r4 => if ¬ wi r4 = 0 then bp (X1_isWhole σ a1 a2) (fun r7 => if wi r7 = 0 then some 1 else bp (X1_countOpen F σ a1) (fun r10 => if wi (σ 2 8) ≤ wi r10 then some 0 else some 1)) else some 0))
set_option maxRecDepth 100000 in
set_option maxHeartbeats 400000 in
theorem T_X1_mayEat {G : sG} {q_0 : qT} {x_0 : List Nat} {σ : sM} {r_0 : Int} {a1 a2 : Int} {F : Nat}  (h : X1_mayEat F σ a1 a2 = some r_0) : aM G yX1_mayEat cX1_mayEat 3 (some .boolean) 2 0 0 [.ref (gP G 2), vI a1, vI a2] (mkSh q_0 x_0, σ) (r_0, (mkSh q_0 x_0, σ)) := by
  unfold X1_mayEat at h
  refine aM_of (by decide) (Nat.le_of_ble_eq_true rfl) ?_
  show aW G cX1_mayEat RX1 "mayEat" 3 (some .boolean) _ _ aX 0 0 _ [(0, .ref (gP G 2)), (1, vI a1), (2, vI a2)] 0 []
  refine a_aload_n 0 dX1_mayEat_0 rfl ?_
  refine a_iload_n 2 dX1_mayEat_1 rfl ?_
  refine bp_s h (fun r1 e2 h => ?_)
  refine a_callVI dX1_mayEat_2 mX1_isWheel KX1 rfl kv_X1_isWheel ks_X1_isWheel rfl km_RX1_79 rfl (T_X1_isWheel e2) (fun _ => rfl) rfl (Nat.le_of_ble_eq_true rfl) (Nat.le_of_ble_eq_true rfl) ⟨(Nat.le_of_ble_eq_true rfl), (Nat.le_of_ble_eq_true rfl)⟩ (Nat.le_of_ble_eq_true rfl) ?_
  refine a_if_eq 16 dX1_mayEat_5 (by decide) rfl h (fun c3 h => ?_) (fun c3 h => ?_)
  · skip
    refine a_iconst dX1_mayEat_16 ?_
    exact a_zret dX1_mayEat_17 rfl (by decide) (s_inj h) rfl
  · skip
    refine a_iload_n 1 dX1_mayEat_8 rfl ?_
    refine a_iload_n 2 dX1_mayEat_9 rfl ?_
    refine bp_s h (fun r4 e5 h => ?_)
    refine a_callSNI dX1_mayEat_10 mX8_portionsOf kv_X8_portionsOf km_RX1_62 rfl (T_X8_portionsOf e5) (fun _ => rfl) rfl (Nat.le_of_ble_eq_true rfl) (Nat.le_of_ble_eq_true rfl) ⟨(Nat.le_of_ble_eq_true rfl), (Nat.le_of_ble_eq_true rfl)⟩ (Nat.le_of_ble_eq_true rfl) ?_
    refine a_if_ne 18 dX1_mayEat_13 (by decide) rfl h (fun c6 h => ?_) (fun c6 h => ?_)
    · skip
      refine a_aload_n 0 dX1_mayEat_18 rfl ?_
      refine a_iload_n 1 dX1_mayEat_19 rfl ?_
      refine a_iload_n 2 dX1_mayEat_20 rfl ?_
      refine bp_s h (fun r7 e8 h => ?_)
      refine a_callVI dX1_mayEat_21 mX1_isWhole KX1 rfl kv_X1_isWhole ks_X1_isWhole rfl km_RX1_66 rfl (T_X1_isWhole e8) (fun _ => rfl) rfl (Nat.le_of_ble_eq_true rfl) (Nat.le_of_ble_eq_true rfl) ⟨(Nat.le_of_ble_eq_true rfl), (Nat.le_of_ble_eq_true rfl)⟩ (Nat.le_of_ble_eq_true rfl) ?_
      refine a_if_eq 39 dX1_mayEat_24 (by decide) rfl h (fun c9 h => ?_) (fun c9 h => ?_)
      · skip
        refine a_iconst dX1_mayEat_39 ?_
        refine a_goto 44 dX1_mayEat_40 (by decide) ?_
        exact a_zret dX1_mayEat_44 rfl (by decide) (s_inj h) rfl
      · skip
        refine a_aload_n 0 dX1_mayEat_27 rfl ?_
        refine a_iload_n 1 dX1_mayEat_28 rfl ?_
        refine bp_s h (fun r10 e11 h => ?_)
        refine a_callVI dX1_mayEat_29 mX1_countOpen KX1 rfl kv_X1_countOpen ks_X1_countOpen rfl km_RX1_83 rfl (T_X1_countOpen e11) (fun _ => rfl) rfl (Nat.le_of_ble_eq_true rfl) (Nat.le_of_ble_eq_true rfl) ⟨(Nat.le_of_ble_eq_true rfl), (Nat.le_of_ble_eq_true rfl)⟩ (Nat.le_of_ble_eq_true rfl) ?_
        refine a_aload_n 0 dX1_mayEat_32 rfl ?_
        refine a_getI (j := 8) dX1_mayEat_33 KX1 rfl (by decide) rfl kf_RX1_39 ?_
        refine a_icmp_ge 43 dX1_mayEat_36 (by decide) rfl rfl h (fun c12 h => ?_) (fun c12 h => ?_)
        · skip
          refine a_iconst dX1_mayEat_43 ?_
          exact a_zret dX1_mayEat_44 rfl (by decide) (s_inj h) rfl
        · skip
          refine a_iconst dX1_mayEat_39 ?_
          refine a_goto 44 dX1_mayEat_40 (by decide) ?_
          exact a_zret dX1_mayEat_44 rfl (by decide) (s_inj h) rfl
    · skip
      refine a_iconst dX1_mayEat_16 ?_
      exact a_zret dX1_mayEat_17 rfl (by decide) (s_inj h) rfl

def X1_maySell (σ : sM) (a1 a2 : Int) : Option Int := bp (X1_isWheel σ a2) (fun r1 => if wi r1 = 0 then some 0 else bp (X1_isWhole σ a1 a2) (fun r4 => if wi r4 = 0 then some 0 else bp (X8_stepOf σ a1 a2) (fun r7 => if 1 < wi r7 then some 0 else some 1)))
set_option maxRecDepth 100000 in
set_option maxHeartbeats 400000 in
theorem T_X1_maySell {G : sG} {q_0 : qT} {x_0 : List Nat} {σ : sM} {r_0 : Int} {a1 a2 : Int}  (h : X1_maySell σ a1 a2 = some r_0) : aM G yX1_maySell cX1_maySell 3 (some .boolean) 2 0 0 [.ref (gP G 2), vI a1, vI a2] (mkSh q_0 x_0, σ) (r_0, (mkSh q_0 x_0, σ)) := by
  unfold X1_maySell at h
  refine aM_of (by decide) (Nat.le_of_ble_eq_true rfl) ?_
  show aW G cX1_maySell RX1 "maySell" 3 (some .boolean) _ _ aX 0 0 _ [(0, .ref (gP G 2)), (1, vI a1), (2, vI a2)] 0 []
  refine a_aload_n 0 dX1_maySell_0 rfl ?_
  refine a_iload_n 2 dX1_maySell_1 rfl ?_
  refine bp_s h (fun r1 e2 h => ?_)
  refine a_callVI dX1_maySell_2 mX1_isWheel KX1 rfl kv_X1_isWheel ks_X1_isWheel rfl km_RX1_79 rfl (T_X1_isWheel e2) (fun _ => rfl) rfl (Nat.le_of_ble_eq_true rfl) (Nat.le_of_ble_eq_true rfl) ⟨(Nat.le_of_ble_eq_true rfl), (Nat.le_of_ble_eq_true rfl)⟩ (Nat.le_of_ble_eq_true rfl) ?_
  refine a_if_eq 30 dX1_maySell_5 (by decide) rfl h (fun c3 h => ?_) (fun c3 h => ?_)
  · skip
    refine a_iconst dX1_maySell_30 ?_
    exact a_zret dX1_maySell_31 rfl (by decide) (s_inj h) rfl
  · skip
    refine a_aload_n 0 dX1_maySell_8 rfl ?_
    refine a_iload_n 1 dX1_maySell_9 rfl ?_
    refine a_iload_n 2 dX1_maySell_10 rfl ?_
    refine bp_s h (fun r4 e5 h => ?_)
    refine a_callVI dX1_maySell_11 mX1_isWhole KX1 rfl kv_X1_isWhole ks_X1_isWhole rfl km_RX1_66 rfl (T_X1_isWhole e5) (fun _ => rfl) rfl (Nat.le_of_ble_eq_true rfl) (Nat.le_of_ble_eq_true rfl) ⟨(Nat.le_of_ble_eq_true rfl), (Nat.le_of_ble_eq_true rfl)⟩ (Nat.le_of_ble_eq_true rfl) ?_
    refine a_if_eq 30 dX1_maySell_14 (by decide) rfl h (fun c6 h => ?_) (fun c6 h => ?_)
    · skip
      refine a_iconst dX1_maySell_30 ?_
      exact a_zret dX1_maySell_31 rfl (by decide) (s_inj h) rfl
    · skip
      refine a_iload_n 1 dX1_maySell_17 rfl ?_
      refine a_iload_n 2 dX1_maySell_18 rfl ?_
      refine bp_s h (fun r7 e8 h => ?_)
      refine a_callSNI dX1_maySell_19 mX8_stepOf kv_X8_stepOf km_RX1_73 rfl (T_X8_stepOf e8) (fun _ => rfl) rfl (Nat.le_of_ble_eq_true rfl) (Nat.le_of_ble_eq_true rfl) ⟨(Nat.le_of_ble_eq_true rfl), (Nat.le_of_ble_eq_true rfl)⟩ (Nat.le_of_ble_eq_true rfl) ?_
      refine a_iconst dX1_maySell_22 ?_
      refine a_icmp_gt 30 dX1_maySell_23 (by decide) rfl (by decide) h (fun c9 h => ?_) (fun c9 h => ?_)
      · skip
        refine a_iconst dX1_maySell_30 ?_
        exact a_zret dX1_maySell_31 rfl (by decide) (s_inj h) rfl
      · skip
        refine a_iconst dX1_maySell_26 ?_
        refine a_goto 31 dX1_maySell_27 (by decide) ?_
        exact a_zret dX1_maySell_31 rfl (by decide) (s_inj h) rfl

def X1_mayBe (F : Nat) (σ : sM) (a1 a2 : Int) : Option Int := if 3 ≤ wi a2 then if wi a2 = 6 then some 1 else bp (X1_maySell σ a1 (a2 - 3)) (fun r3 => if wi r3 = 0 then some 0 else some 1) else bp (X1_mayEat F σ a1 a2) (fun r6 => if wi r6 = 0 ∨ wi r6 = 1 then some r6 else none)
set_option maxRecDepth 100000 in
set_option maxHeartbeats 400000 in
theorem T_X1_mayBe {G : sG} {q_0 : qT} {x_0 : List Nat} {σ : sM} {r_0 : Int} {a1 a2 : Int} {F : Nat}  (h : X1_mayBe F σ a1 a2 = some r_0) : aM G yX1_mayBe cX1_mayBe 3 (some .boolean) 3 0 0 [.ref (gP G 2), vI a1, vI a2] (mkSh q_0 x_0, σ) (r_0, (mkSh q_0 x_0, σ)) := by
  unfold X1_mayBe at h
  refine aM_of (by decide) (Nat.le_of_ble_eq_true rfl) ?_
  show aW G cX1_mayBe RX1 "mayBe" 3 (some .boolean) _ _ aX 0 0 _ [(0, .ref (gP G 2)), (1, vI a1), (2, vI a2)] 0 []
  refine a_iload_n 2 dX1_mayBe_0 rfl ?_
  refine a_iconst dX1_mayBe_1 ?_
  refine a_icmp_ge 12 dX1_mayBe_2 (by decide) rfl (by decide) h (fun c1 h => ?_) (fun c1 h => ?_)
  · skip
    refine a_iload_n 2 dX1_mayBe_12 rfl ?_
    refine a_bipush dX1_mayBe_13 (by decide) ?_
    refine a_icmp_eq 29 dX1_mayBe_15 (by decide) rfl (by decide) h (fun c2 h => ?_) (fun c2 h => ?_)
    · skip
      refine a_iconst dX1_mayBe_29 ?_
      refine a_goto 34 dX1_mayBe_30 (by decide) ?_
      exact a_zret dX1_mayBe_34 rfl (by decide) (s_inj h) rfl
    · skip
      refine a_aload_n 0 dX1_mayBe_18 rfl ?_
      refine a_iload_n 1 dX1_mayBe_19 rfl ?_
      refine a_iload_n 2 dX1_mayBe_20 rfl ?_
      refine a_iconst dX1_mayBe_21 ?_
      refine a_isub dX1_mayBe_22 ?_
      refine bp_s h (fun r3 e4 h => ?_)
      refine a_callVI dX1_mayBe_23 mX1_maySell KX1 rfl kv_X1_maySell ks_X1_maySell rfl km_RX1_89 rfl (T_X1_maySell e4) (fun _ => rfl) rfl (Nat.le_of_ble_eq_true rfl) (Nat.le_of_ble_eq_true rfl) ⟨(Nat.le_of_ble_eq_true rfl), (Nat.le_of_ble_eq_true rfl)⟩ (Nat.le_of_ble_eq_true rfl) ?_
      refine a_if_eq 33 dX1_mayBe_26 (by decide) rfl h (fun c5 h => ?_) (fun c5 h => ?_)
      · skip
        refine a_iconst dX1_mayBe_33 ?_
        exact a_zret dX1_mayBe_34 rfl (by decide) (s_inj h) rfl
      · skip
        refine a_iconst dX1_mayBe_29 ?_
        refine a_goto 34 dX1_mayBe_30 (by decide) ?_
        exact a_zret dX1_mayBe_34 rfl (by decide) (s_inj h) rfl
  · skip
    refine a_aload_n 0 dX1_mayBe_5 rfl ?_
    refine a_iload_n 1 dX1_mayBe_6 rfl ?_
    refine a_iload_n 2 dX1_mayBe_7 rfl ?_
    refine bp_s h (fun r6 e7 h => ?_)
    refine a_callVI dX1_mayBe_8 mX1_mayEat KX1 rfl kv_X1_mayEat ks_X1_mayEat rfl km_RX1_86 rfl (T_X1_mayEat e7) (fun _ => rfl) rfl (Nat.le_of_ble_eq_true rfl) (Nat.le_of_ble_eq_true rfl) ⟨(Nat.le_of_ble_eq_true rfl), (Nat.le_of_ble_eq_true rfl)⟩ (Nat.le_of_ble_eq_true rfl) ?_
    refine a_gd h (fun c8 h => ?_)
    exact a_zret dX1_mayBe_11 rfl (nb_01 c8) (s_inj h) rfl

def X1_hadBy (σ : sM) (a1 a2 a3 : Int) : Option Int := if ¬ wi a2 = 6 then if 3 ≤ wi a2 then bp (X8_portionsOf σ a1 (a2 - 3)) (fun r3 => bp (X1_priceOf σ a3) (fun r5 => some (r3 * r5))) else bp (X1_goodNow σ a1 a2) (fun r7 => some r7) else some 0
set_option maxRecDepth 100000 in
set_option maxHeartbeats 400000 in
theorem T_X1_hadBy {G : sG} {q_0 : qT} {x_0 : List Nat} {σ : sM} {r_0 : Int} {a1 a2 a3 : Int}  (h : X1_hadBy σ a1 a2 a3 = some r_0) : aM G yX1_hadBy cX1_hadBy 4 (some .int) 2 0 0 [.ref (gP G 2), vI a1, vI a2, vI a3] (mkSh q_0 x_0, σ) (r_0, (mkSh q_0 x_0, σ)) := by
  unfold X1_hadBy at h
  refine aM_of (by decide) (Nat.le_of_ble_eq_true rfl) ?_
  show aW G cX1_hadBy RX1 "hadBy" 4 (some .int) _ _ aX 0 0 _ [(0, .ref (gP G 2)), (1, vI a1), (2, vI a2), (3, vI a3)] 0 []
  refine a_iload_n 2 dX1_hadBy_0 rfl ?_
  refine a_bipush dX1_hadBy_1 (by decide) ?_
  refine a_icmp_ne 8 dX1_hadBy_3 (by decide) rfl (by decide) h (fun c1 h => ?_) (fun c1 h => ?_)
  · skip
    refine a_iload_n 2 dX1_hadBy_8 rfl ?_
    refine a_iconst dX1_hadBy_9 ?_
    refine a_icmp_ge 20 dX1_hadBy_10 (by decide) rfl (by decide) h (fun c2 h => ?_) (fun c2 h => ?_)
    · skip
      refine a_iload_n 1 dX1_hadBy_20 rfl ?_
      refine a_iload_n 2 dX1_hadBy_21 rfl ?_
      refine a_iconst dX1_hadBy_22 ?_
      refine a_isub dX1_hadBy_23 ?_
      refine bp_s h (fun r3 e4 h => ?_)
      refine a_callSNI dX1_hadBy_24 mX8_portionsOf kv_X8_portionsOf km_RX1_62 rfl (T_X8_portionsOf e4) (fun _ => rfl) rfl (Nat.le_of_ble_eq_true rfl) (Nat.le_of_ble_eq_true rfl) ⟨(Nat.le_of_ble_eq_true rfl), (Nat.le_of_ble_eq_true rfl)⟩ (Nat.le_of_ble_eq_true rfl) ?_
      refine a_aload_n 0 dX1_hadBy_27 rfl ?_
      refine a_iload_n 3 dX1_hadBy_28 rfl ?_
      refine bp_s h (fun r5 e6 h => ?_)
      refine a_callVI dX1_hadBy_29 mX1_priceOf KX1 rfl kv_X1_priceOf ks_X1_priceOf rfl km_RX1_95 rfl (T_X1_priceOf e6) (fun _ => rfl) rfl (Nat.le_of_ble_eq_true rfl) (Nat.le_of_ble_eq_true rfl) ⟨(Nat.le_of_ble_eq_true rfl), (Nat.le_of_ble_eq_true rfl)⟩ (Nat.le_of_ble_eq_true rfl) ?_
      refine a_imul dX1_hadBy_32 ?_
      exact a_iret dX1_hadBy_33 rfl (s_inj h) rfl
    · skip
      refine a_aload_n 0 dX1_hadBy_13 rfl ?_
      refine a_iload_n 1 dX1_hadBy_14 rfl ?_
      refine a_iload_n 2 dX1_hadBy_15 rfl ?_
      refine bp_s h (fun r7 e8 h => ?_)
      refine a_callVI dX1_hadBy_16 mX1_goodNow KX1 rfl kv_X1_goodNow ks_X1_goodNow rfl km_RX1_92 rfl (T_X1_goodNow e8) (fun _ => rfl) rfl (Nat.le_of_ble_eq_true rfl) (Nat.le_of_ble_eq_true rfl) ⟨(Nat.le_of_ble_eq_true rfl), (Nat.le_of_ble_eq_true rfl)⟩ (Nat.le_of_ble_eq_true rfl) ?_
      exact a_iret dX1_hadBy_19 rfl (s_inj h) rfl
  · skip
    refine a_iconst dX1_hadBy_6 ?_
    exact a_iret dX1_hadBy_7 rfl (s_inj h) rfl

def X1_standAfter (σ : sM) (a1 a2 : Int) : Option Int := if ¬ wi a2 = 6 then if 3 ≤ wi a2 then bp (X8_portionsOf σ a1 (a2 - 3)) (fun r3 => bp (X8_field σ (a2 - 3) 0 r3) (fun r5 => some (a1 - r5))) else bp (X8_field σ a2 0 1) (fun r7 => some (a1 - r7)) else some a1
set_option maxRecDepth 100000 in
set_option maxHeartbeats 400000 in
theorem T_X1_standAfter {G : sG} {q_0 : qT} {x_0 : List Nat} {σ : sM} {r_0 : Int} {a1 a2 : Int}  (h : X1_standAfter σ a1 a2 = some r_0) : aM G yX1_standAfter cX1_standAfter 4 (some .int) 1 0 0 [.ref (gP G 2), vI a1, vI a2] (mkSh q_0 x_0, σ) (r_0, (mkSh q_0 x_0, σ)) := by
  unfold X1_standAfter at h
  refine aM_of (by decide) (Nat.le_of_ble_eq_true rfl) ?_
  show aW G cX1_standAfter RX1 "standAfter" 4 (some .int) _ _ aX 0 0 _ [(0, .ref (gP G 2)), (1, vI a1), (2, vI a2)] 0 []
  refine a_iload_n 2 dX1_standAfter_0 rfl ?_
  refine a_bipush dX1_standAfter_1 (by decide) ?_
  refine a_icmp_ne 8 dX1_standAfter_3 (by decide) rfl (by decide) h (fun c1 h => ?_) (fun c1 h => ?_)
  · skip
    refine a_iload_n 2 dX1_standAfter_8 rfl ?_
    refine a_iconst dX1_standAfter_9 ?_
    refine a_icmp_ge 22 dX1_standAfter_10 (by decide) rfl (by decide) h (fun c2 h => ?_) (fun c2 h => ?_)
    · skip
      refine a_iload_n 2 dX1_standAfter_22 rfl ?_
      refine a_iconst dX1_standAfter_23 ?_
      refine a_isub dX1_standAfter_24 ?_
      refine a_istore_n (L' := [(3, vI (a2 - 3)), (0, .ref (gP G 2)), (1, vI a1), (2, vI a2)]) dX1_standAfter_25 (by decide) rfl ?_
      refine a_iload_n 2 dX1_standAfter_26 rfl ?_
      refine a_iload_n 0 dX1_standAfter_27 rfl ?_
      refine a_iconst dX1_standAfter_28 ?_
      refine a_iload_n 2 dX1_standAfter_29 rfl ?_
      refine a_iload_n 0 dX1_standAfter_30 rfl ?_
      refine bp_s h (fun r3 e4 h => ?_)
      refine a_callSNI dX1_standAfter_31 mX8_portionsOf kv_X8_portionsOf km_RX1_62 rfl (T_X8_portionsOf e4) (fun _ => rfl) rfl (Nat.le_of_ble_eq_true rfl) (Nat.le_of_ble_eq_true rfl) ⟨(Nat.le_of_ble_eq_true rfl), (Nat.le_of_ble_eq_true rfl)⟩ (Nat.le_of_ble_eq_true rfl) ?_
      refine bp_s h (fun r5 e6 h => ?_)
      refine a_callSNI dX1_standAfter_34 mX8_field kv_X8_field km_RX1_58 rfl (T_X8_field e6) (fun _ => rfl) rfl (Nat.le_of_ble_eq_true rfl) (Nat.le_of_ble_eq_true rfl) ⟨(Nat.le_of_ble_eq_true rfl), (Nat.le_of_ble_eq_true rfl)⟩ (Nat.le_of_ble_eq_true rfl) ?_
      refine a_isub dX1_standAfter_37 ?_
      exact a_iret dX1_standAfter_38 rfl (s_inj h) rfl
    · skip
      refine a_iload_n 1 dX1_standAfter_13 rfl ?_
      refine a_iload_n 2 dX1_standAfter_14 rfl ?_
      refine a_iconst dX1_standAfter_15 ?_
      refine a_iconst dX1_standAfter_16 ?_
      refine bp_s h (fun r7 e8 h => ?_)
      refine a_callSNI dX1_standAfter_17 mX8_field kv_X8_field km_RX1_58 rfl (T_X8_field e8) (fun _ => rfl) rfl (Nat.le_of_ble_eq_true rfl) (Nat.le_of_ble_eq_true rfl) ⟨(Nat.le_of_ble_eq_true rfl), (Nat.le_of_ble_eq_true rfl)⟩ (Nat.le_of_ble_eq_true rfl) ?_
      refine a_isub dX1_standAfter_20 ?_
      exact a_iret dX1_standAfter_21 rfl (s_inj h) rfl
  · skip
    refine a_iload_n 1 dX1_standAfter_6 rfl ?_
    exact a_iret dX1_standAfter_7 rfl (s_inj h) rfl

def X1_mayGoOn (σ : sM) (a1 a2 a3 : Int) : Option Int := bp (X8_portionsOf σ a1 a3) (fun r1 => if wi r1 ≤ 0 then some 0 else bp (X8_has σ a2 a3) (fun r4 => if ¬ wi r4 = 0 then some 0 else bp (X8_stepOf σ a1 a3) (fun r7 => if 3 ≤ wi r7 then some 0 else some 1)))
set_option maxRecDepth 100000 in
set_option maxHeartbeats 400000 in
theorem T_X1_mayGoOn {G : sG} {q_0 : qT} {x_0 : List Nat} {σ : sM} {r_0 : Int} {a1 a2 a3 : Int}  (h : X1_mayGoOn σ a1 a2 a3 = some r_0) : aM G yX1_mayGoOn cX1_mayGoOn 4 (some .boolean) 1 0 0 [.ref (gP G 2), vI a1, vI a2, vI a3] (mkSh q_0 x_0, σ) (r_0, (mkSh q_0 x_0, σ)) := by
  unfold X1_mayGoOn at h
  refine aM_of (by decide) (Nat.le_of_ble_eq_true rfl) ?_
  show aW G cX1_mayGoOn RX1 "mayGoOn" 4 (some .boolean) _ _ aX 0 0 _ [(0, .ref (gP G 2)), (1, vI a1), (2, vI a2), (3, vI a3)] 0 []
  refine a_iload_n 1 dX1_mayGoOn_0 rfl ?_
  refine a_iload_n 3 dX1_mayGoOn_1 rfl ?_
  refine bp_s h (fun r1 e2 h => ?_)
  refine a_callSNI dX1_mayGoOn_2 mX8_portionsOf kv_X8_portionsOf km_RX1_62 rfl (T_X8_portionsOf e2) (fun _ => rfl) rfl (Nat.le_of_ble_eq_true rfl) (Nat.le_of_ble_eq_true rfl) ⟨(Nat.le_of_ble_eq_true rfl), (Nat.le_of_ble_eq_true rfl)⟩ (Nat.le_of_ble_eq_true rfl) ?_
  refine a_if_le 29 dX1_mayGoOn_5 (by decide) rfl h (fun c3 h => ?_) (fun c3 h => ?_)
  · skip
    refine a_iconst dX1_mayGoOn_29 ?_
    exact a_zret dX1_mayGoOn_30 rfl (by decide) (s_inj h) rfl
  · skip
    refine a_iload_n 2 dX1_mayGoOn_8 rfl ?_
    refine a_iload_n 3 dX1_mayGoOn_9 rfl ?_
    refine bp_s h (fun r4 e5 h => ?_)
    refine a_callSNI dX1_mayGoOn_10 mX8_has kv_X8_has km_RX1_98 rfl (T_X8_has e5) (fun _ => rfl) rfl (Nat.le_of_ble_eq_true rfl) (Nat.le_of_ble_eq_true rfl) ⟨(Nat.le_of_ble_eq_true rfl), (Nat.le_of_ble_eq_true rfl)⟩ (Nat.le_of_ble_eq_true rfl) ?_
    refine a_if_ne 29 dX1_mayGoOn_13 (by decide) rfl h (fun c6 h => ?_) (fun c6 h => ?_)
    · skip
      refine a_iconst dX1_mayGoOn_29 ?_
      exact a_zret dX1_mayGoOn_30 rfl (by decide) (s_inj h) rfl
    · skip
      refine a_iload_n 1 dX1_mayGoOn_16 rfl ?_
      refine a_iload_n 3 dX1_mayGoOn_17 rfl ?_
      refine bp_s h (fun r7 e8 h => ?_)
      refine a_callSNI dX1_mayGoOn_18 mX8_stepOf kv_X8_stepOf km_RX1_73 rfl (T_X8_stepOf e8) (fun _ => rfl) rfl (Nat.le_of_ble_eq_true rfl) (Nat.le_of_ble_eq_true rfl) ⟨(Nat.le_of_ble_eq_true rfl), (Nat.le_of_ble_eq_true rfl)⟩ (Nat.le_of_ble_eq_true rfl) ?_
      refine a_iconst dX1_mayGoOn_21 ?_
      refine a_icmp_ge 29 dX1_mayGoOn_22 (by decide) rfl (by decide) h (fun c9 h => ?_) (fun c9 h => ?_)
      · skip
        refine a_iconst dX1_mayGoOn_29 ?_
        exact a_zret dX1_mayGoOn_30 rfl (by decide) (s_inj h) rfl
      · skip
        refine a_iconst dX1_mayGoOn_25 ?_
        refine a_goto 30 dX1_mayGoOn_26 (by decide) ?_
        exact a_zret dX1_mayGoOn_30 rfl (by decide) (s_inj h) rfl

def X1_tenthsNow (σ : sM) (a1 a2 a3 a4 : Int) : Option Int := bp (X1_mayGoOn σ a1 a2 a3) (fun r1 => if ¬ wi r1 = 0 then bp (X1_sortOf σ a3) (fun r4 => bp (X8_stepOf σ a1 a3) (fun r6 => bp (X1_isWhole σ a1 a3) (fun r8 => jn (fun q10 : Int => bp (X1_tenths σ r4 r6 q10 a4) (fun r12 => some r12)) (fun K11 => if ¬ wi r8 = 0 then K11 0 else K11 1)))) else some 0)
set_option maxRecDepth 100000 in
set_option maxHeartbeats 400000 in
theorem T_X1_tenthsNow {G : sG} {q_0 : qT} {x_0 : List Nat} {σ : sM} {r_0 : Int} {a1 a2 a3 a4 : Int}  (h : X1_tenthsNow σ a1 a2 a3 a4 = some r_0) : aM G yX1_tenthsNow cX1_tenthsNow 5 (some .int) 2 0 0 [.ref (gP G 2), vI a1, vI a2, vI a3, vI a4] (mkSh q_0 x_0, σ) (r_0, (mkSh q_0 x_0, σ)) := by
  unfold X1_tenthsNow at h
  refine aM_of (by decide) (Nat.le_of_ble_eq_true rfl) ?_
  show aW G cX1_tenthsNow RX1 "tenthsNow" 5 (some .int) _ _ aX 0 0 _ [(0, .ref (gP G 2)), (1, vI a1), (2, vI a2), (3, vI a3), (4, vI a4)] 0 []
  refine a_aload_n 0 dX1_tenthsNow_0 rfl ?_
  refine a_iload_n 1 dX1_tenthsNow_1 rfl ?_
  refine a_iload_n 2 dX1_tenthsNow_2 rfl ?_
  refine a_iload_n 3 dX1_tenthsNow_3 rfl ?_
  refine bp_s h (fun r1 e2 h => ?_)
  refine a_callVI dX1_tenthsNow_4 mX1_mayGoOn KX1 rfl kv_X1_mayGoOn ks_X1_mayGoOn rfl km_RX1_101 rfl (T_X1_mayGoOn e2) (fun _ => rfl) rfl (Nat.le_of_ble_eq_true rfl) (Nat.le_of_ble_eq_true rfl) ⟨(Nat.le_of_ble_eq_true rfl), (Nat.le_of_ble_eq_true rfl)⟩ (Nat.le_of_ble_eq_true rfl) ?_
  refine a_if_ne 12 dX1_tenthsNow_7 (by decide) rfl h (fun c3 h => ?_) (fun c3 h => ?_)
  · skip
    refine a_aload_n 0 dX1_tenthsNow_12 rfl ?_
    refine a_aload_n 0 dX1_tenthsNow_13 rfl ?_
    refine a_iload_n 3 dX1_tenthsNow_14 rfl ?_
    refine bp_s h (fun r4 e5 h => ?_)
    refine a_callVI dX1_tenthsNow_15 mX1_sortOf KX1 rfl kv_X1_sortOf ks_X1_sortOf rfl km_RX1_70 rfl (T_X1_sortOf e5) (fun _ => rfl) rfl (Nat.le_of_ble_eq_true rfl) (Nat.le_of_ble_eq_true rfl) ⟨(Nat.le_of_ble_eq_true rfl), (Nat.le_of_ble_eq_true rfl)⟩ (Nat.le_of_ble_eq_true rfl) ?_
    refine a_iload_n 1 dX1_tenthsNow_18 rfl ?_
    refine a_iload_n 3 dX1_tenthsNow_19 rfl ?_
    refine bp_s h (fun r6 e7 h => ?_)
    refine a_callSNI dX1_tenthsNow_20 mX8_stepOf kv_X8_stepOf km_RX1_73 rfl (T_X8_stepOf e7) (fun _ => rfl) rfl (Nat.le_of_ble_eq_true rfl) (Nat.le_of_ble_eq_true rfl) ⟨(Nat.le_of_ble_eq_true rfl), (Nat.le_of_ble_eq_true rfl)⟩ (Nat.le_of_ble_eq_true rfl) ?_
    refine a_aload_n 0 dX1_tenthsNow_23 rfl ?_
    refine a_iload_n 1 dX1_tenthsNow_24 rfl ?_
    refine a_iload_n 3 dX1_tenthsNow_25 rfl ?_
    refine bp_s h (fun r8 e9 h => ?_)
    refine a_callVI dX1_tenthsNow_26 mX1_isWhole KX1 rfl kv_X1_isWhole ks_X1_isWhole rfl km_RX1_66 rfl (T_X1_isWhole e9) (fun _ => rfl) rfl (Nat.le_of_ble_eq_true rfl) (Nat.le_of_ble_eq_true rfl) ⟨(Nat.le_of_ble_eq_true rfl), (Nat.le_of_ble_eq_true rfl)⟩ (Nat.le_of_ble_eq_true rfl) ?_
    refine jn_s (fun q10 : Int => aW G cX1_tenthsNow RX1 "tenthsNow" 5 (some .int) (sR 2 0 0) (aQ G (some .int) 0 0 (r_0, (mkSh q_0 x_0, σ))) aX 0 0 (mkSh q_0 x_0, σ) [(4, vI a4)] 37 [vI q10, vI r6, vI r4, .ref (gP G 2)]) h (fun q10 h => ?_) (fun K11 hK11 h => ?_)
    · skip
      refine a_iload 0 dX1_tenthsNow_37 rfl ?_
      refine bp_s h (fun r12 e13 h => ?_)
      refine a_callVI dX1_tenthsNow_39 mX1_tenths KX1 rfl kv_X1_tenths ks_X1_tenths rfl km_RX1_105 rfl (T_X1_tenths e13) (fun _ => rfl) rfl (Nat.le_of_ble_eq_true rfl) (Nat.le_of_ble_eq_true rfl) ⟨(Nat.le_of_ble_eq_true rfl), (Nat.le_of_ble_eq_true rfl)⟩ (Nat.le_of_ble_eq_true rfl) ?_
      exact a_iret dX1_tenthsNow_42 rfl (s_inj h) rfl
    · skip
      refine a_if_ne 36 dX1_tenthsNow_29 (by decide) rfl h (fun c14 h => ?_) (fun c14 h => ?_)
      · skip
        refine a_iconst dX1_tenthsNow_36 ?_
        have hh := hK11 _ h
        exact a_sub [4] rfl hh
      · skip
        refine a_iconst dX1_tenthsNow_32 ?_
        refine a_goto 37 dX1_tenthsNow_33 (by decide) ?_
        have hh := hK11 _ h
        exact a_sub [4] rfl hh
  · skip
    refine a_iconst dX1_tenthsNow_10 ?_
    exact a_iret dX1_tenthsNow_11 rfl (s_inj h) rfl

def X2_asRule (σ : sM) (a1 a2 : Int) : Option (Int × sM) := bp (X8_portionsOf (sU σ 54 1 ((σ 54 1) + 1)) a1 a2) (fun r1 => some (r1, (sU σ 54 1 ((σ 54 1) + 1))))
set_option maxRecDepth 100000 in
set_option maxHeartbeats 400000 in
theorem T_X2_asRule {G : sG} {q_0 : qT} {x_0 : List Nat} {σ s_0 : sM} {r_0 : Int} {a1 a2 : Int}  (h : X2_asRule σ a1 a2 = some (r_0, s_0)) : aM G yX2_asRule cX2_asRule 3 (some .int) 1 0 0 [.ref (gP G 54), vI a1, vI a2] (mkSh q_0 x_0, σ) (r_0, (mkSh q_0 x_0, s_0)) := by
  unfold X2_asRule at h
  refine aM_of (by decide) (Nat.le_of_ble_eq_true rfl) ?_
  show aW G cX2_asRule RX2 "asRule" 3 (some .int) _ _ aX 0 0 _ [(0, .ref (gP G 54)), (1, vI a1), (2, vI a2)] 0 []
  refine a_aload_n 0 dX2_asRule_0 rfl ?_
  refine a_dupR dX2_asRule_1 ?_
  refine a_getL (j := 1) dX2_asRule_2 KX2 rfl (by decide) rfl kf_RX2_9 ?_
  refine a_lconst (z := 1) dX2_asRule_5 (by decide) ?_
  refine a_ladd dX2_asRule_6 ?_
  refine a_putL (j := 1) dX2_asRule_7 KX2 rfl (by decide) rfl rfl rfl kf_RX2_9 ?_
  refine a_iload_n 1 dX2_asRule_10 rfl ?_
  refine a_iload_n 2 dX2_asRule_11 rfl ?_
  refine bp_s h (fun r1 e2 h => ?_)
  refine a_callSNI dX2_asRule_12 mX8_portionsOf kv_X8_portionsOf km_RX2_39 rfl (T_X8_portionsOf e2) (fun _ => rfl) rfl (Nat.le_of_ble_eq_true rfl) (Nat.le_of_ble_eq_true rfl) ⟨(Nat.le_of_ble_eq_true rfl), (Nat.le_of_ble_eq_true rfl)⟩ (Nat.le_of_ble_eq_true rfl) ?_
  exact a_iret dX2_asRule_15 rfl (p_1 h) (p_S (p_2 h))

def X2_asOld (σ : sM) (a1 a2 : Int) : Option (Int × sM) := bn (X2_asRule (sU σ 54 1 ((σ 54 1) + 10)) a1 a2) (fun r1 σ3 => bp (X8_stepOf σ3 a1 a2) (fun r4 => some (r1 + r4, σ3)))
set_option maxRecDepth 100000 in
set_option maxHeartbeats 400000 in
theorem T_X2_asOld {G : sG} {q_0 : qT} {x_0 : List Nat} {σ s_0 : sM} {r_0 : Int} {a1 a2 : Int}  (h : X2_asOld σ a1 a2 = some (r_0, s_0)) : aM G yX2_asOld cX2_asOld 3 (some .int) 2 0 0 [.ref (gP G 54), vI a1, vI a2] (mkSh q_0 x_0, σ) (r_0, (mkSh q_0 x_0, s_0)) := by
  unfold X2_asOld at h
  refine aM_of (by decide) (Nat.le_of_ble_eq_true rfl) ?_
  show aW G cX2_asOld RX2 "asOld" 3 (some .int) _ _ aX 0 0 _ [(0, .ref (gP G 54)), (1, vI a1), (2, vI a2)] 0 []
  refine a_aload_n 0 dX2_asOld_0 rfl ?_
  refine a_dupR dX2_asOld_1 ?_
  refine a_getL (j := 1) dX2_asOld_2 KX2 rfl (by decide) rfl kf_RX2_9 ?_
  refine a_ldc2 (z := 10) dX2_asOld_5 kc_RX2_42 (by decide) ?_
  refine a_ladd dX2_asOld_8 ?_
  refine a_putL (j := 1) dX2_asOld_9 KX2 rfl (by decide) rfl rfl rfl kf_RX2_9 ?_
  refine a_aload_n 0 dX2_asOld_12 rfl ?_
  refine a_iload_n 1 dX2_asOld_13 rfl ?_
  refine a_iload_n 2 dX2_asOld_14 rfl ?_
  refine bn_s h (fun r1 σ3 e2 h => ?_)
  refine a_callVI dX2_asOld_15 mX2_asRule KX2 rfl kv_X2_asRule ks_X2_asRule rfl km_RX2_19 rfl (T_X2_asRule e2) (fun _ => rfl) rfl (Nat.le_of_ble_eq_true rfl) (Nat.le_of_ble_eq_true rfl) ⟨(Nat.le_of_ble_eq_true rfl), (Nat.le_of_ble_eq_true rfl)⟩ (Nat.le_of_ble_eq_true rfl) ?_
  refine a_iload_n 1 dX2_asOld_18 rfl ?_
  refine a_iload_n 2 dX2_asOld_19 rfl ?_
  refine bp_s h (fun r4 e5 h => ?_)
  refine a_callSNI dX2_asOld_20 mX8_stepOf kv_X8_stepOf km_RX2_44 rfl (T_X8_stepOf e5) (fun _ => rfl) rfl (Nat.le_of_ble_eq_true rfl) (Nat.le_of_ble_eq_true rfl) ⟨(Nat.le_of_ble_eq_true rfl), (Nat.le_of_ble_eq_true rfl)⟩ (Nat.le_of_ble_eq_true rfl) ?_
  refine a_iadd dX2_asOld_23 ?_
  exact a_iret dX2_asOld_24 rfl (p_1 h) (p_S (p_2 h))

def X2_asBest (σ : sM) (a1 a2 : Int) : Option (Int × sM) := bn (X2_asRule (sU σ 54 1 ((σ 54 1) + 100)) a1 a2) (fun r1 σ3 => bp (X1_goodNow σ3 a1 a2) (fun r4 => some (r1 * r4, σ3)))
set_option maxRecDepth 100000 in
set_option maxHeartbeats 400000 in
theorem T_X2_asBest {G : sG} {q_0 : qT} {x_0 : List Nat} {σ s_0 : sM} {r_0 : Int} {a1 a2 : Int}  (h : X2_asBest σ a1 a2 = some (r_0, s_0)) : aM G yX2_asBest cX2_asBest 3 (some .int) 2 0 0 [.ref (gP G 54), vI a1, vI a2] (mkSh q_0 x_0, σ) (r_0, (mkSh q_0 x_0, s_0)) := by
  unfold X2_asBest at h
  refine aM_of (by decide) (Nat.le_of_ble_eq_true rfl) ?_
  show aW G cX2_asBest RX2 "asBest" 3 (some .int) _ _ aX 0 0 _ [(0, .ref (gP G 54)), (1, vI a1), (2, vI a2)] 0 []
  refine a_aload_n 0 dX2_asBest_0 rfl ?_
  refine a_dupR dX2_asBest_1 ?_
  refine a_getL (j := 1) dX2_asBest_2 KX2 rfl (by decide) rfl kf_RX2_9 ?_
  refine a_ldc2 (z := 100) dX2_asBest_5 kc_RX2_47 (by decide) ?_
  refine a_ladd dX2_asBest_8 ?_
  refine a_putL (j := 1) dX2_asBest_9 KX2 rfl (by decide) rfl rfl rfl kf_RX2_9 ?_
  refine a_aload_n 0 dX2_asBest_12 rfl ?_
  refine a_iload_n 1 dX2_asBest_13 rfl ?_
  refine a_iload_n 2 dX2_asBest_14 rfl ?_
  refine bn_s h (fun r1 σ3 e2 h => ?_)
  refine a_callVI dX2_asBest_15 mX2_asRule KX2 rfl kv_X2_asRule ks_X2_asRule rfl km_RX2_19 rfl (T_X2_asRule e2) (fun _ => rfl) rfl (Nat.le_of_ble_eq_true rfl) (Nat.le_of_ble_eq_true rfl) ⟨(Nat.le_of_ble_eq_true rfl), (Nat.le_of_ble_eq_true rfl)⟩ (Nat.le_of_ble_eq_true rfl) ?_
  refine a_aload_n 0 dX2_asBest_18 rfl ?_
  refine a_getR (j := 0) dX2_asBest_19 KX2 rfl (by decide) rfl kf_RX2_15 ?_
  refine a_iload_n 1 dX2_asBest_22 rfl ?_
  refine a_iload_n 2 dX2_asBest_23 rfl ?_
  refine bp_s h (fun r4 e5 h => ?_)
  refine a_callVI dX2_asBest_24 mX1_goodNow KX1 rfl kv_X1_goodNow ks_X1_goodNow rfl km_RX2_49 rfl (T_X1_goodNow e5) (fun _ => rfl) rfl (Nat.le_of_ble_eq_true rfl) (Nat.le_of_ble_eq_true rfl) ⟨(Nat.le_of_ble_eq_true rfl), (Nat.le_of_ble_eq_true rfl)⟩ (Nat.le_of_ble_eq_true rfl) ?_
  refine a_imul dX2_asBest_27 ?_
  exact a_iret dX2_asBest_28 rfl (p_1 h) (p_S (p_2 h))

def X2_asLook (σ : sM) (a1 a2 : Int) : Option (Int × sM) := bn (X2_asBest (sU σ 54 1 ((σ 54 1) + 1000)) a1 a2) (fun r1 σ3 => bp (X1_sortOf σ3 a2) (fun r4 => bp (X8_stepOf σ3 a1 a2) (fun r6 => bp (X1_trait σ3 r4 (10 + r6)) (fun r8 => some (r1 + r8, σ3)))))
set_option maxRecDepth 100000 in
set_option maxHeartbeats 400000 in
theorem T_X2_asLook {G : sG} {q_0 : qT} {x_0 : List Nat} {σ s_0 : sM} {r_0 : Int} {a1 a2 : Int}  (h : X2_asLook σ a1 a2 = some (r_0, s_0)) : aM G yX2_asLook cX2_asLook 3 (some .int) 3 0 0 [.ref (gP G 54), vI a1, vI a2] (mkSh q_0 x_0, σ) (r_0, (mkSh q_0 x_0, s_0)) := by
  unfold X2_asLook at h
  refine aM_of (by decide) (Nat.le_of_ble_eq_true rfl) ?_
  show aW G cX2_asLook RX2 "asLook" 3 (some .int) _ _ aX 0 0 _ [(0, .ref (gP G 54)), (1, vI a1), (2, vI a2)] 0 []
  refine a_aload_n 0 dX2_asLook_0 rfl ?_
  refine a_dupR dX2_asLook_1 ?_
  refine a_getL (j := 1) dX2_asLook_2 KX2 rfl (by decide) rfl kf_RX2_9 ?_
  refine a_ldc2 (z := 1000) dX2_asLook_5 kc_RX2_54 (by decide) ?_
  refine a_ladd dX2_asLook_8 ?_
  refine a_putL (j := 1) dX2_asLook_9 KX2 rfl (by decide) rfl rfl rfl kf_RX2_9 ?_
  refine a_aload_n 0 dX2_asLook_12 rfl ?_
  refine a_iload_n 1 dX2_asLook_13 rfl ?_
  refine a_iload_n 2 dX2_asLook_14 rfl ?_
  refine bn_s h (fun r1 σ3 e2 h => ?_)
  refine a_callVI dX2_asLook_15 mX2_asBest KX2 rfl kv_X2_asBest ks_X2_asBest rfl km_RX2_26 rfl (T_X2_asBest e2) (fun _ => rfl) rfl (Nat.le_of_ble_eq_true rfl) (Nat.le_of_ble_eq_true rfl) ⟨(Nat.le_of_ble_eq_true rfl), (Nat.le_of_ble_eq_true rfl)⟩ (Nat.le_of_ble_eq_true rfl) ?_
  refine a_aload_n 0 dX2_asLook_18 rfl ?_
  refine a_getR (j := 0) dX2_asLook_19 KX2 rfl (by decide) rfl kf_RX2_15 ?_
  refine a_aload_n 0 dX2_asLook_22 rfl ?_
  refine a_getR (j := 0) dX2_asLook_23 KX2 rfl (by decide) rfl kf_RX2_15 ?_
  refine a_iload_n 2 dX2_asLook_26 rfl ?_
  refine bp_s h (fun r4 e5 h => ?_)
  refine a_callVI dX2_asLook_27 mX1_sortOf KX1 rfl kv_X1_sortOf ks_X1_sortOf rfl km_RX2_56 rfl (T_X1_sortOf e5) (fun _ => rfl) rfl (Nat.le_of_ble_eq_true rfl) (Nat.le_of_ble_eq_true rfl) ⟨(Nat.le_of_ble_eq_true rfl), (Nat.le_of_ble_eq_true rfl)⟩ (Nat.le_of_ble_eq_true rfl) ?_
  refine a_bipush dX2_asLook_30 (by decide) ?_
  refine a_iload_n 1 dX2_asLook_32 rfl ?_
  refine a_iload_n 2 dX2_asLook_33 rfl ?_
  refine bp_s h (fun r6 e7 h => ?_)
  refine a_callSNI dX2_asLook_34 mX8_stepOf kv_X8_stepOf km_RX2_44 rfl (T_X8_stepOf e7) (fun _ => rfl) rfl (Nat.le_of_ble_eq_true rfl) (Nat.le_of_ble_eq_true rfl) ⟨(Nat.le_of_ble_eq_true rfl), (Nat.le_of_ble_eq_true rfl)⟩ (Nat.le_of_ble_eq_true rfl) ?_
  refine a_iadd dX2_asLook_37 ?_
  refine bp_s h (fun r8 e9 h => ?_)
  refine a_callVI dX2_asLook_38 mX1_trait KX1 rfl kv_X1_trait ks_X1_trait rfl km_RX2_60 rfl (T_X1_trait e9) (fun _ => rfl) rfl (Nat.le_of_ble_eq_true rfl) (Nat.le_of_ble_eq_true rfl) ⟨(Nat.le_of_ble_eq_true rfl), (Nat.le_of_ble_eq_true rfl)⟩ (Nat.le_of_ble_eq_true rfl) ?_
  refine a_iadd dX2_asLook_41 ?_
  exact a_iret dX2_asLook_42 rfl (p_1 h) (p_S (p_2 h))

def X2_asSave (σ : sM) (a1 a2 : Int) : Option (Int × sM) := bn (X2_asRule (sU σ 54 1 ((σ 54 1) + 10000)) a1 a2) (fun r1 σ3 => some (r1 - a2, σ3))
set_option maxRecDepth 100000 in
set_option maxHeartbeats 400000 in
theorem T_X2_asSave {G : sG} {q_0 : qT} {x_0 : List Nat} {σ s_0 : sM} {r_0 : Int} {a1 a2 : Int}  (h : X2_asSave σ a1 a2 = some (r_0, s_0)) : aM G yX2_asSave cX2_asSave 3 (some .int) 2 0 0 [.ref (gP G 54), vI a1, vI a2] (mkSh q_0 x_0, σ) (r_0, (mkSh q_0 x_0, s_0)) := by
  unfold X2_asSave at h
  refine aM_of (by decide) (Nat.le_of_ble_eq_true rfl) ?_
  show aW G cX2_asSave RX2 "asSave" 3 (some .int) _ _ aX 0 0 _ [(0, .ref (gP G 54)), (1, vI a1), (2, vI a2)] 0 []
  refine a_aload_n 0 dX2_asSave_0 rfl ?_
  refine a_dupR dX2_asSave_1 ?_
  refine a_getL (j := 1) dX2_asSave_2 KX2 rfl (by decide) rfl kf_RX2_9 ?_
  refine a_ldc2 (z := 10000) dX2_asSave_5 kc_RX2_63 (by decide) ?_
  refine a_ladd dX2_asSave_8 ?_
  refine a_putL (j := 1) dX2_asSave_9 KX2 rfl (by decide) rfl rfl rfl kf_RX2_9 ?_
  refine a_aload_n 0 dX2_asSave_12 rfl ?_
  refine a_iload_n 1 dX2_asSave_13 rfl ?_
  refine a_iload_n 2 dX2_asSave_14 rfl ?_
  refine bn_s h (fun r1 σ3 e2 h => ?_)
  refine a_callVI dX2_asSave_15 mX2_asRule KX2 rfl kv_X2_asRule ks_X2_asRule rfl km_RX2_19 rfl (T_X2_asRule e2) (fun _ => rfl) rfl (Nat.le_of_ble_eq_true rfl) (Nat.le_of_ble_eq_true rfl) ⟨(Nat.le_of_ble_eq_true rfl), (Nat.le_of_ble_eq_true rfl)⟩ (Nat.le_of_ble_eq_true rfl) ?_
  refine a_iload_n 2 dX2_asSave_18 rfl ?_
  refine a_isub dX2_asSave_19 ?_
  exact a_iret dX2_asSave_20 rfl (p_1 h) (p_S (p_2 h))

def X2_asWorst (σ : sM) (a1 a2 : Int) : Option (Int × sM) := bn (X2_asOld (sU σ 54 1 ((σ 54 1) + 100000)) a1 a2) (fun r1 σ3 => some (3 * r1, σ3))
set_option maxRecDepth 100000 in
set_option maxHeartbeats 400000 in
theorem T_X2_asWorst {G : sG} {q_0 : qT} {x_0 : List Nat} {σ s_0 : sM} {r_0 : Int} {a1 a2 : Int}  (h : X2_asWorst σ a1 a2 = some (r_0, s_0)) : aM G yX2_asWorst cX2_asWorst 3 (some .int) 3 0 0 [.ref (gP G 54), vI a1, vI a2] (mkSh q_0 x_0, σ) (r_0, (mkSh q_0 x_0, s_0)) := by
  unfold X2_asWorst at h
  refine aM_of (by decide) (Nat.le_of_ble_eq_true rfl) ?_
  show aW G cX2_asWorst RX2 "asWorst" 3 (some .int) _ _ aX 0 0 _ [(0, .ref (gP G 54)), (1, vI a1), (2, vI a2)] 0 []
  refine a_aload_n 0 dX2_asWorst_0 rfl ?_
  refine a_dupR dX2_asWorst_1 ?_
  refine a_getL (j := 1) dX2_asWorst_2 KX2 rfl (by decide) rfl kf_RX2_9 ?_
  refine a_ldc2 (z := 100000) dX2_asWorst_5 kc_RX2_65 (by decide) ?_
  refine a_ladd dX2_asWorst_8 ?_
  refine a_putL (j := 1) dX2_asWorst_9 KX2 rfl (by decide) rfl rfl rfl kf_RX2_9 ?_
  refine a_iconst dX2_asWorst_12 ?_
  refine a_aload_n 0 dX2_asWorst_13 rfl ?_
  refine a_iload_n 1 dX2_asWorst_14 rfl ?_
  refine a_iload_n 2 dX2_asWorst_15 rfl ?_
  refine bn_s h (fun r1 σ3 e2 h => ?_)
  refine a_callVI dX2_asWorst_16 mX2_asOld KX2 rfl kv_X2_asOld ks_X2_asOld rfl km_RX2_23 rfl (T_X2_asOld e2) (fun _ => rfl) rfl (Nat.le_of_ble_eq_true rfl) (Nat.le_of_ble_eq_true rfl) ⟨(Nat.le_of_ble_eq_true rfl), (Nat.le_of_ble_eq_true rfl)⟩ (Nat.le_of_ble_eq_true rfl) ?_
  refine a_imul dX2_asWorst_19 ?_
  exact a_iret dX2_asWorst_20 rfl (p_1 h) (p_S (p_2 h))

def X3_tellShares (F : Nat) (o0 : Nat) (σ : sM) (a1 a2 : Int) : Option (Int × sM) := bp (X1_portionsAtFirst σ a1) (fun r1 => lp (fun K4 (q3 : sM × Int) => if 16 ≤ wi q3.2 then some (0, q3.1) else if wi a1 < 0 then some (0, q3.1) else if 3 ≤ wi a1 then some (0, q3.1) else bp (X8_portionsOf q3.1 q3.2 0) (fun r8 => jn (fun q10 : Int => if 0 ≤ wi ((a1 * 16) + q3.2) ∧ wi ((a1 * 16) + q3.2) < 48 then K4 ((sU q3.1 (shC o0) (wi ((a1 * 16) + q3.2)).toNat (a2 * q10)), q3.2 + 1) else none) (fun K11 => jn (fun q13 : Unit => K11 0) (fun K14 => if wi r8 = 0 then K14 () else if wi r8 ≤ wi r1 then bp (X8_stepOf q3.1 q3.2 0) (fun r17 => K11 ((r1 * r17) + r8)) else K14 ())))) F (σ, 0))
set_option maxRecDepth 100000 in
set_option maxHeartbeats 400000 in
theorem T_X3_tellShares {o0P o0V o0W : Nat} {G : sG} {q_0 : qT} {x_0 : List Nat} {σ s_0 : sM} {r_0 : Int} {a1 a2 : Int} {o0 : Nat} {F : Nat} (h_o0 : (mkSh q_0 x_0)[o0]? = some (.inl (3, [.ref 2, .int 0, .int 0, .ref (shC o0), .int 0, .long 0, .ref o0P, .ref o0V, .ref o0W]))) (g_o0S : (mkSh q_0 x_0)[shC o0]? = some (.inr (.int, 48, gN))) (h : X3_tellShares F o0 σ a1 a2 = some (r_0, s_0)) : aM G yX3_tellShares cX3_tellShares 7 none 1 0 0 [.ref (gP G o0), vI a1, vI a2] (mkSh q_0 x_0, σ) (r_0, (mkSh q_0 x_0, s_0)) := by
  unfold X3_tellShares at h
  refine aM_of (by decide) (Nat.le_of_ble_eq_true rfl) ?_
  show aW G cX3_tellShares RX3 "tellShares" 7 none _ _ aX 0 0 _ [(0, .ref (gP G o0)), (1, vI a1), (2, vI a2)] 0 []
  refine a_aload_n 0 dX3_tellShares_0 rfl ?_
  refine a_getR (j := 0) dX3_tellShares_1 KX3 h_o0 (by decide) rfl kf_RX3_39 ?_
  refine a_iload_n 1 dX3_tellShares_4 rfl ?_
  refine bp_s h (fun r1 e2 h => ?_)
  refine a_callVI dX3_tellShares_5 mX1_portionsAtFirst KX1 rfl kv_X1_portionsAtFirst ks_X1_portionsAtFirst rfl km_RX3_47 rfl (T_X1_portionsAtFirst e2) (fun _ => rfl) rfl (Nat.le_of_ble_eq_true rfl) (Nat.le_of_ble_eq_true rfl) ⟨(Nat.le_of_ble_eq_true rfl), (Nat.le_of_ble_eq_true rfl)⟩ (Nat.le_of_ble_eq_true rfl) ?_
  refine a_istore_n (L' := [(3, vI r1), (0, .ref (gP G o0)), (1, vI a1), (2, vI a2)]) dX3_tellShares_8 (by decide) rfl ?_
  refine a_iconst dX3_tellShares_9 ?_
  refine a_istore (L' := [(4, vI 0), (3, vI r1), (0, .ref (gP G o0)), (1, vI a1), (2, vI a2)]) dX3_tellShares_10 (by decide) rfl ?_
  refine a_sub (L' := [(0, .ref (gP G o0)), (1, vI a1), (2, vI a2), (3, vI r1), (4, vI 0)]) [2, 3, 4, 1, 0] rfl (lp_s (x := (σ, 0)) (fun q3 : sM × Int => aW G cX3_tellShares RX3 "tellShares" 7 none (sR 1 0 0) (aQ G none 0 0 (r_0, (mkSh q_0 x_0, s_0))) aX 0 0 (mkSh q_0 x_0, q3.1) [(0, .ref (gP G o0)), (1, vI a1), (2, vI a2), (3, vI r1), (4, vI q3.2)] 12 []) h (fun K4 hK4 q3 h => ?_))
  refine a_iload 4 dX3_tellShares_12 rfl ?_
  refine a_bipush dX3_tellShares_14 (by decide) ?_
  refine a_icmp_ge 86 dX3_tellShares_16 (by decide) rfl (by decide) h (fun c5 h => ?_) (fun c5 h => ?_)
  · skip
    exact a_vret dX3_tellShares_86 rfl (p_S (p_2 h))
  · skip
    refine a_iload_n 1 dX3_tellShares_19 rfl ?_
    refine a_if_lt 86 dX3_tellShares_20 (by decide) rfl h (fun c6 h => ?_) (fun c6 h => ?_)
    · skip
      exact a_vret dX3_tellShares_86 rfl (p_S (p_2 h))
    · skip
      refine a_iload_n 1 dX3_tellShares_23 rfl ?_
      refine a_iconst dX3_tellShares_24 ?_
      refine a_icmp_ge 86 dX3_tellShares_25 (by decide) rfl (by decide) h (fun c7 h => ?_) (fun c7 h => ?_)
      · skip
        exact a_vret dX3_tellShares_86 rfl (p_S (p_2 h))
      · skip
        refine a_iload 4 dX3_tellShares_28 rfl ?_
        refine a_iconst dX3_tellShares_30 ?_
        refine bp_s h (fun r8 e9 h => ?_)
        refine a_callSNI dX3_tellShares_31 mX8_portionsOf kv_X8_portionsOf km_RX3_53 rfl (T_X8_portionsOf e9) (fun _ => rfl) rfl (Nat.le_of_ble_eq_true rfl) (Nat.le_of_ble_eq_true rfl) ⟨(Nat.le_of_ble_eq_true rfl), (Nat.le_of_ble_eq_true rfl)⟩ (Nat.le_of_ble_eq_true rfl) ?_
        refine a_istore (L' := [(5, vI r8), (0, .ref (gP G o0)), (1, vI a1), (2, vI a2), (3, vI r1), (4, vI q3.2)]) dX3_tellShares_34 (by decide) rfl ?_
        refine a_iload 0 dX3_tellShares_36 rfl ?_
        refine jn_s (fun q10 : Int => aW G cX3_tellShares RX3 "tellShares" 7 none (sR 1 0 0) (aQ G none 0 0 (r_0, (mkSh q_0 x_0, s_0))) aX 0 0 (mkSh q_0 x_0, q3.1) [(0, .ref (gP G o0)), (1, vI a1), (2, vI a2), (3, vI r1), (4, vI q3.2)] 62 [vI q10]) h (fun q10 h => ?_) (fun K11 hK11 h => ?_)
        · skip
          refine a_istore (L' := [(6, vI q10), (0, .ref (gP G o0)), (1, vI a1), (2, vI a2), (3, vI r1), (4, vI q3.2)]) dX3_tellShares_62 (by decide) rfl ?_
          refine a_aload_n 1 dX3_tellShares_64 rfl ?_
          refine a_getR (j := 3) dX3_tellShares_65 KX3 h_o0 (by decide) rfl kf_RX3_18 ?_
          refine a_iload_n 2 dX3_tellShares_68 rfl ?_
          refine a_bipush dX3_tellShares_69 (by decide) ?_
          refine a_imul dX3_tellShares_71 ?_
          refine a_iload 5 dX3_tellShares_72 rfl ?_
          refine a_iadd dX3_tellShares_74 ?_
          refine a_iload_n 3 dX3_tellShares_75 rfl ?_
          refine a_iload 0 dX3_tellShares_76 rfl ?_
          refine a_imul dX3_tellShares_78 ?_
          refine a_gd h (fun c12 h => ?_)
          refine a_iast (x' := wi ((a1 * 16) + q3.2)) dX3_tellShares_79 g_o0S rfl c12 rfl ?_
          refine a_iinc (L' := [(4, vI (q3.2 + 1)), (6, vI q10), (0, .ref (gP G o0)), (1, vI a1), (2, vI a2), (3, vI r1)]) 5 dX3_tellShares_80 rfl (by decide) rfl ?_
          refine a_goto 12 dX3_tellShares_83 (by decide) ?_
          have hh := hK4 _ h
          exact a_sub [2, 3, 4, 5, 0] rfl hh
        · skip
          refine jn_s (fun q13 : Unit => aW G cX3_tellShares RX3 "tellShares" 7 none (sR 1 0 0) (aQ G none 0 0 (r_0, (mkSh q_0 x_0, s_0))) aX 0 0 (mkSh q_0 x_0, q3.1) [(0, .ref (gP G o0)), (1, vI a1), (2, vI a2), (3, vI r1), (4, vI q3.2)] 47 []) h (fun q13 h => ?_) (fun K14 hK14 h => ?_)
          · skip
            refine a_iconst dX3_tellShares_47 ?_
            refine a_goto 62 dX3_tellShares_48 (by decide) ?_
            have hh := hK11 _ h
            exact a_sub [0, 1, 2, 3, 4] rfl hh
          · skip
            refine a_if_eq 47 dX3_tellShares_38 (by decide) rfl h (fun c15 h => ?_) (fun c15 h => ?_)
            · skip
              have hh := hK14 _ h
              exact a_sub [1, 2, 3, 4, 5] rfl hh
            · skip
              refine a_iload 0 dX3_tellShares_41 rfl ?_
              refine a_iload_n 4 dX3_tellShares_43 rfl ?_
              refine a_icmp_le 51 dX3_tellShares_44 (by decide) rfl rfl h (fun c16 h => ?_) (fun c16 h => ?_)
              · skip
                refine a_iload_n 4 dX3_tellShares_51 rfl ?_
                refine a_iload 5 dX3_tellShares_52 rfl ?_
                refine a_iconst dX3_tellShares_54 ?_
                refine bp_s h (fun r17 e18 h => ?_)
                refine a_callSNI dX3_tellShares_55 mX8_stepOf kv_X8_stepOf km_RX3_57 rfl (T_X8_stepOf e18) (fun _ => rfl) rfl (Nat.le_of_ble_eq_true rfl) (Nat.le_of_ble_eq_true rfl) ⟨(Nat.le_of_ble_eq_true rfl), (Nat.le_of_ble_eq_true rfl)⟩ (Nat.le_of_ble_eq_true rfl) ?_
                refine a_imul dX3_tellShares_58 ?_
                refine a_iload 0 dX3_tellShares_59 rfl ?_
                refine a_iadd dX3_tellShares_61 ?_
                have hh := hK11 _ h
                exact a_sub [1, 2, 3, 4, 5] rfl hh
              · skip
                have hh := hK14 _ h
                exact a_sub [1, 2, 3, 4, 5] rfl hh

def X3_leftAhead (F : Nat) (rec : Nat → sM → Int → Int → Int → Option (Int × sM)) (o0 o0P o0V o0W o0n : Nat) (σ : sM) (a1 a2 : Int) : Option (Int × sM) := if wi a1 < wi (σ 2 7) then bn (rec 8 σ a1 a2 0) (fun r2 σ4 => bp (X1_standAfter σ4 a2 r2) (fun r5 => bn (rec 9 σ4 a1 r5 0) (fun r7 σ9 => some (r7, σ9)))) else bp (X8_allPortions σ a2) (fun r10 => some (1000 * r10, σ))
set_option maxRecDepth 100000 in
set_option maxHeartbeats 400000 in
theorem T_X3_leftAhead {G : sG} {q_0 : qT} {x_0 : List Nat} {σ s_0 : sM} {r_0 : Int} {a1 a2 : Int} {o0 o0P o0V o0W o0n : Nat} {F dd : Nat} {rec : Nat → sM → Int → Int → Int → Option (Int × sM)} (h_o0 : (mkSh q_0 x_0)[o0]? = some (.inl (3, [.ref 2, .int 0, .int 0, .ref (shC o0), .int 0, .long 0, .ref o0P, .ref o0V, .ref o0W]))) (g_o0S : (mkSh q_0 x_0)[shC o0]? = some (.inr (.int, 48, gN))) (g_o0P : (mkSh q_0 x_0)[o0P]? = some (.inr (.long, o0n, gN))) (g_o0V : (mkSh q_0 x_0)[o0V]? = some (.inr (.long, o0n, gN))) (g_o0W : (mkSh q_0 x_0)[o0W]? = some (.inr (.long, o0n, gN))) (hdd : 20 ≤ dd) (hR : RCX3 G q_0 x_0 o0 o0P o0V o0W o0n dd rec) (h : X3_leftAhead F rec o0 o0P o0V o0W o0n σ a1 a2 = some (r_0, s_0)) : aM G yX3_leftAhead cX3_leftAhead 3 (some .int) (dd + 1) 0 0 [.ref (gP G o0), vI a1, vI a2] (mkSh q_0 x_0, σ) (r_0, (mkSh q_0 x_0, s_0)) := by
  unfold X3_leftAhead at h
  refine aM_of (by decide) (Nat.le_of_ble_eq_true rfl) ?_
  show aW G cX3_leftAhead RX3 "leftAhead" 3 (some .int) _ _ aX 0 0 _ [(0, .ref (gP G o0)), (1, vI a1), (2, vI a2)] 0 []
  refine a_iload_n 1 dX3_leftAhead_0 rfl ?_
  refine a_aload_n 0 dX3_leftAhead_1 rfl ?_
  refine a_getR (j := 0) dX3_leftAhead_2 KX3 h_o0 (by decide) rfl kf_RX3_39 ?_
  refine a_getIN (j := 7) dX3_leftAhead_5 KX1 rfl (by decide) rfl kf_RX3_63 ?_
  refine a_icmp_lt 20 dX3_leftAhead_8 (by decide) rfl rfl h (fun c1 h => ?_) (fun c1 h => ?_)
  · skip
    refine a_aload_n 0 dX3_leftAhead_20 rfl ?_
    refine a_iload_n 1 dX3_leftAhead_21 rfl ?_
    refine a_aload_n 0 dX3_leftAhead_22 rfl ?_
    refine a_getR (j := 0) dX3_leftAhead_23 KX3 h_o0 (by decide) rfl kf_RX3_39 ?_
    refine a_iload_n 2 dX3_leftAhead_26 rfl ?_
    refine a_aload_n 0 dX3_leftAhead_27 rfl ?_
    refine a_iload_n 1 dX3_leftAhead_28 rfl ?_
    refine a_iload_n 2 dX3_leftAhead_29 rfl ?_
    refine bn_s h (fun r2 σ4 e3 h => ?_)
    refine a_callVI dX3_leftAhead_30 mX3_choiceAt KX3 rfl kv_X3_choiceAt ks_X3_choiceAt h_o0 km_RX3_69 rfl (hR.2.2.2.2.2.2.2.2.1 _ _ _ _ _ e3) (fun _ => rfl) rfl (show dd + 1 ≤ dd + 1 by omega) (show 80 * dd + 79 ≤ 80 * (dd + 1) by omega) ⟨(Nat.le_of_ble_eq_true rfl), (Nat.le_of_ble_eq_true rfl)⟩ (Nat.le_of_ble_eq_true rfl) ?_
    refine bp_s h (fun r5 e6 h => ?_)
    refine a_callVI dX3_leftAhead_33 mX1_standAfter KX1 rfl kv_X1_standAfter ks_X1_standAfter rfl km_RX3_72 rfl (T_X1_standAfter e6) (fun _ => rfl) rfl (show 1 + 1 ≤ dd + 1 by omega) (show 80 * 1 + 79 ≤ 80 * (dd + 1) by omega) ⟨(Nat.le_of_ble_eq_true rfl), (Nat.le_of_ble_eq_true rfl)⟩ (Nat.le_of_ble_eq_true rfl) ?_
    refine bn_s h (fun r7 σ9 e8 h => ?_)
    refine a_callVI dX3_leftAhead_36 mX3_leftBehind KX3 rfl kv_X3_leftBehind ks_X3_leftBehind h_o0 km_RX3_75 rfl (hR.2.2.2.2.2.2.2.2.2 _ _ _ _ _ e8) (fun _ => rfl) rfl (show dd + 1 ≤ dd + 1 by omega) (show 80 * dd + 79 ≤ 80 * (dd + 1) by omega) ⟨(Nat.le_of_ble_eq_true rfl), (Nat.le_of_ble_eq_true rfl)⟩ (Nat.le_of_ble_eq_true rfl) ?_
    exact a_iret dX3_leftAhead_39 rfl (p_1 h) (p_S (p_2 h))
  · skip
    refine a_sipush dX3_leftAhead_11 (by decide) ?_
    refine a_iload_n 2 dX3_leftAhead_14 rfl ?_
    refine bp_s h (fun r10 e11 h => ?_)
    refine a_callSNI dX3_leftAhead_15 mX8_allPortions kv_X8_allPortions km_RX3_66 rfl (T_X8_allPortions e11) (fun _ => rfl) rfl (show 1 + 1 ≤ dd + 1 by omega) (show 80 * 1 + 79 ≤ 80 * (dd + 1) by omega) ⟨(Nat.le_of_ble_eq_true rfl), (Nat.le_of_ble_eq_true rfl)⟩ (Nat.le_of_ble_eq_true rfl) ?_
    refine a_imul dX3_leftAhead_18 ?_
    exact a_iret dX3_leftAhead_19 rfl (p_1 h) (p_S (p_2 h))

def X3_valueBehind (F : Nat) (rec : Nat → sM → Int → Int → Int → Option (Int × sM)) (o0 o0P o0V o0W o0n : Nat) (σ : sM) (a1 a2 : Int) : Option (Int × sM) := bp (X3_placeOf o0 o0P o0V o0W o0n σ a1 a2) (fun r1 => if 0 ≤ wi r1 then if 0 ≤ wi r1 ∧ wi r1 < o0n then bp (X3_isVoid o0 o0P o0V o0W o0n σ (σ o0V (wi r1).toNat)) (fun r5 => jn (fun q7 : sM => if 0 ≤ wi r1 ∧ wi r1 < o0n then some (q7 o0V (wi r1).toNat, q7) else none) (fun K8 => if wi r5 = 0 then K8 σ else bn (rec 6 σ a1 a2 0) (fun r11 σ13 => bp (X3_stamped o0 o0P o0V o0W o0n σ13 r11) (fun r14 => if 0 ≤ wi r1 ∧ wi r1 < o0n then K8 (sU σ13 o0V (wi r1).toNat r14) else none)))) else none else some (0, σ))
set_option maxRecDepth 100000 in
set_option maxHeartbeats 400000 in
theorem T_X3_valueBehind {G : sG} {q_0 : qT} {x_0 : List Nat} {σ s_0 : sM} {r_0 : Int} {a1 a2 : Int} {o0 o0P o0V o0W o0n : Nat} {F dd : Nat} {rec : Nat → sM → Int → Int → Int → Option (Int × sM)} (h_o0 : (mkSh q_0 x_0)[o0]? = some (.inl (3, [.ref 2, .int 0, .int 0, .ref (shC o0), .int 0, .long 0, .ref o0P, .ref o0V, .ref o0W]))) (g_o0S : (mkSh q_0 x_0)[shC o0]? = some (.inr (.int, 48, gN))) (g_o0P : (mkSh q_0 x_0)[o0P]? = some (.inr (.long, o0n, gN))) (g_o0V : (mkSh q_0 x_0)[o0V]? = some (.inr (.long, o0n, gN))) (g_o0W : (mkSh q_0 x_0)[o0W]? = some (.inr (.long, o0n, gN))) (hdd : 20 ≤ dd) (hR : RCX3 G q_0 x_0 o0 o0P o0V o0W o0n dd rec) (h : X3_valueBehind F rec o0 o0P o0V o0W o0n σ a1 a2 = some (r_0, s_0)) : aM G yX3_valueBehind cX3_valueBehind 4 (some .int) (dd + 1) 0 0 [.ref (gP G o0), vI a1, vI a2] (mkSh q_0 x_0, σ) (r_0, (mkSh q_0 x_0, s_0)) := by
  unfold X3_valueBehind at h
  refine aM_of (by decide) (Nat.le_of_ble_eq_true rfl) ?_
  show aW G cX3_valueBehind RX3 "valueBehind" 4 (some .int) _ _ aX 0 0 _ [(0, .ref (gP G o0)), (1, vI a1), (2, vI a2)] 0 []
  refine a_aload_n 0 dX3_valueBehind_0 rfl ?_
  refine a_iload_n 1 dX3_valueBehind_1 rfl ?_
  refine a_iload_n 2 dX3_valueBehind_2 rfl ?_
  refine bp_s h (fun r1 e2 h => ?_)
  refine a_callVI dX3_valueBehind_3 mX3_placeOf KX3 rfl kv_X3_placeOf ks_X3_placeOf h_o0 km_RX3_78 rfl (T_X3_placeOf h_o0 g_o0S g_o0P g_o0V g_o0W e2) (fun _ => rfl) rfl (show 1 + 1 ≤ dd + 1 by omega) (show 80 * 1 + 79 ≤ 80 * (dd + 1) by omega) ⟨(Nat.le_of_ble_eq_true rfl), (Nat.le_of_ble_eq_true rfl)⟩ (Nat.le_of_ble_eq_true rfl) ?_
  refine a_istore_n (L' := [(3, vI r1), (0, .ref (gP G o0)), (1, vI a1), (2, vI a2)]) dX3_valueBehind_6 (by decide) rfl ?_
  refine a_iload_n 0 dX3_valueBehind_7 rfl ?_
  refine a_if_ge 13 dX3_valueBehind_8 (by decide) rfl h (fun c3 h => ?_) (fun c3 h => ?_)
  · skip
    refine a_aload_n 1 dX3_valueBehind_13 rfl ?_
    refine a_aload_n 1 dX3_valueBehind_14 rfl ?_
    refine a_getR (j := 7) dX3_valueBehind_15 KX3 h_o0 (by decide) rfl kf_RX3_33 ?_
    refine a_iload_n 0 dX3_valueBehind_18 rfl ?_
    refine a_gd h (fun c4 h => ?_)
    refine a_lald (x' := wi r1) dX3_valueBehind_19 g_o0V rfl c4 rfl ?_
    refine bp_s h (fun r5 e6 h => ?_)
    refine a_callVI dX3_valueBehind_20 mX3_isVoid KX3 rfl kv_X3_isVoid ks_X3_isVoid h_o0 km_RX3_81 rfl (T_X3_isVoid h_o0 g_o0S g_o0P g_o0V g_o0W e6) (fun _ => rfl) rfl (show 0 + 1 ≤ dd + 1 by omega) (show 80 * 0 + 79 ≤ 80 * (dd + 1) by omega) ⟨(Nat.le_of_ble_eq_true rfl), (Nat.le_of_ble_eq_true rfl)⟩ (Nat.le_of_ble_eq_true rfl) ?_
    refine jn_s (fun q7 : sM => aW G cX3_valueBehind RX3 "valueBehind" 4 (some .int) (sR (dd + 1) 0 0) (aQ G (some .int) 0 0 (r_0, (mkSh q_0 x_0, s_0))) aX 0 0 (mkSh q_0 x_0, q7) [(0, .ref (gP G o0)), (3, vI r1)] 43 []) h (fun q7 h => ?_) (fun K8 hK8 h => ?_)
    · skip
      refine a_aload_n 0 dX3_valueBehind_43 rfl ?_
      refine a_getR (j := 7) dX3_valueBehind_44 KX3 h_o0 (by decide) rfl kf_RX3_33 ?_
      refine a_iload_n 1 dX3_valueBehind_47 rfl ?_
      refine a_gd h (fun c9 h => ?_)
      refine a_lald (x' := wi r1) dX3_valueBehind_48 g_o0V rfl c9 rfl ?_
      refine a_l2i dX3_valueBehind_49 ?_
      exact a_iret dX3_valueBehind_50 rfl (p_1 h) (p_S (p_2 h))
    · skip
      refine a_if_eq 43 dX3_valueBehind_23 (by decide) rfl h (fun c10 h => ?_) (fun c10 h => ?_)
      · skip
        have hh := hK8 _ h
        exact a_sub [1, 0] rfl hh
      · skip
        refine a_aload_n 1 dX3_valueBehind_26 rfl ?_
        refine a_getR (j := 7) dX3_valueBehind_27 KX3 h_o0 (by decide) rfl kf_RX3_33 ?_
        refine a_iload_n 0 dX3_valueBehind_30 rfl ?_
        refine a_aload_n 1 dX3_valueBehind_31 rfl ?_
        refine a_aload_n 1 dX3_valueBehind_32 rfl ?_
        refine a_iload_n 2 dX3_valueBehind_33 rfl ?_
        refine a_iload_n 3 dX3_valueBehind_34 rfl ?_
        refine a_iconst dX3_valueBehind_35 ?_
        refine bn_s h (fun r11 σ13 e12 h => ?_)
        refine a_callVI dX3_valueBehind_36 mX3_mean KX3 rfl kv_X3_mean ks_X3_mean h_o0 km_RX3_85 rfl (hR.2.2.2.2.2.2.1 _ _ _ _ _ _ e12) (fun _ => rfl) rfl (show dd + 1 ≤ dd + 1 by omega) (show 80 * dd + 79 ≤ 80 * (dd + 1) by omega) ⟨(Nat.le_of_ble_eq_true rfl), (Nat.le_of_ble_eq_true rfl)⟩ (Nat.le_of_ble_eq_true rfl) ?_
        refine bp_s h (fun r14 e15 h => ?_)
        refine a_callVL dX3_valueBehind_39 mX3_stamped KX3 rfl kv_X3_stamped ks_X3_stamped h_o0 km_RX3_89 rfl (T_X3_stamped h_o0 g_o0S g_o0P g_o0V g_o0W e15) (fun _ => rfl) rfl (show 0 + 1 ≤ dd + 1 by omega) (show 80 * 0 + 79 ≤ 80 * (dd + 1) by omega) ⟨(Nat.le_of_ble_eq_true rfl), (Nat.le_of_ble_eq_true rfl)⟩ (Nat.le_of_ble_eq_true rfl) ?_
        refine a_gd h (fun c16 h => ?_)
        refine a_last (x' := wi r1) dX3_valueBehind_42 g_o0V rfl c16 rfl ?_
        have hh := hK8 _ h
        exact a_sub [1, 0] rfl hh
  · skip
    refine a_iconst dX3_valueBehind_11 ?_
    exact a_iret dX3_valueBehind_12 rfl (p_1 h) (p_S (p_2 h))

def X3_leftBehind (F : Nat) (rec : Nat → sM → Int → Int → Int → Option (Int × sM)) (o0 o0P o0V o0W o0n : Nat) (σ : sM) (a1 a2 : Int) : Option (Int × sM) := bp (X3_placeOf o0 o0P o0V o0W o0n σ a1 a2) (fun r1 => if 0 ≤ wi r1 then if 0 ≤ wi r1 ∧ wi r1 < o0n then bp (X3_isVoid o0 o0P o0V o0W o0n σ (σ o0W (wi r1).toNat)) (fun r5 => jn (fun q7 : sM => if 0 ≤ wi r1 ∧ wi r1 < o0n then some (q7 o0W (wi r1).toNat, q7) else none) (fun K8 => if wi r5 = 0 then K8 σ else bn (rec 6 σ a1 a2 1) (fun r11 σ13 => bp (X3_stamped o0 o0P o0V o0W o0n σ13 r11) (fun r14 => if 0 ≤ wi r1 ∧ wi r1 < o0n then K8 (sU σ13 o0W (wi r1).toNat r14) else none)))) else none else some (0, σ))
set_option maxRecDepth 100000 in
set_option maxHeartbeats 400000 in
theorem T_X3_leftBehind {G : sG} {q_0 : qT} {x_0 : List Nat} {σ s_0 : sM} {r_0 : Int} {a1 a2 : Int} {o0 o0P o0V o0W o0n : Nat} {F dd : Nat} {rec : Nat → sM → Int → Int → Int → Option (Int × sM)} (h_o0 : (mkSh q_0 x_0)[o0]? = some (.inl (3, [.ref 2, .int 0, .int 0, .ref (shC o0), .int 0, .long 0, .ref o0P, .ref o0V, .ref o0W]))) (g_o0S : (mkSh q_0 x_0)[shC o0]? = some (.inr (.int, 48, gN))) (g_o0P : (mkSh q_0 x_0)[o0P]? = some (.inr (.long, o0n, gN))) (g_o0V : (mkSh q_0 x_0)[o0V]? = some (.inr (.long, o0n, gN))) (g_o0W : (mkSh q_0 x_0)[o0W]? = some (.inr (.long, o0n, gN))) (hdd : 20 ≤ dd) (hR : RCX3 G q_0 x_0 o0 o0P o0V o0W o0n dd rec) (h : X3_leftBehind F rec o0 o0P o0V o0W o0n σ a1 a2 = some (r_0, s_0)) : aM G yX3_leftBehind cX3_leftBehind 4 (some .int) (dd + 1) 0 0 [.ref (gP G o0), vI a1, vI a2] (mkSh q_0 x_0, σ) (r_0, (mkSh q_0 x_0, s_0)) := by
  unfold X3_leftBehind at h
  refine aM_of (by decide) (Nat.le_of_ble_eq_true rfl) ?_
  show aW G cX3_leftBehind RX3 "leftBehind" 4 (some .int) _ _ aX 0 0 _ [(0, .ref (gP G o0)), (1, vI a1), (2, vI a2)] 0 []
  refine a_aload_n 0 dX3_leftBehind_0 rfl ?_
  refine a_iload_n 1 dX3_leftBehind_1 rfl ?_
  refine a_iload_n 2 dX3_leftBehind_2 rfl ?_
  refine bp_s h (fun r1 e2 h => ?_)
  refine a_callVI dX3_leftBehind_3 mX3_placeOf KX3 rfl kv_X3_placeOf ks_X3_placeOf h_o0 km_RX3_78 rfl (T_X3_placeOf h_o0 g_o0S g_o0P g_o0V g_o0W e2) (fun _ => rfl) rfl (show 1 + 1 ≤ dd + 1 by omega) (show 80 * 1 + 79 ≤ 80 * (dd + 1) by omega) ⟨(Nat.le_of_ble_eq_true rfl), (Nat.le_of_ble_eq_true rfl)⟩ (Nat.le_of_ble_eq_true rfl) ?_
  refine a_istore_n (L' := [(3, vI r1), (0, .ref (gP G o0)), (1, vI a1), (2, vI a2)]) dX3_leftBehind_6 (by decide) rfl ?_
  refine a_iload_n 0 dX3_leftBehind_7 rfl ?_
  refine a_if_ge 13 dX3_leftBehind_8 (by decide) rfl h (fun c3 h => ?_) (fun c3 h => ?_)
  · skip
    refine a_aload_n 1 dX3_leftBehind_13 rfl ?_
    refine a_aload_n 1 dX3_leftBehind_14 rfl ?_
    refine a_getR (j := 8) dX3_leftBehind_15 KX3 h_o0 (by decide) rfl kf_RX3_36 ?_
    refine a_iload_n 0 dX3_leftBehind_18 rfl ?_
    refine a_gd h (fun c4 h => ?_)
    refine a_lald (x' := wi r1) dX3_leftBehind_19 g_o0W rfl c4 rfl ?_
    refine bp_s h (fun r5 e6 h => ?_)
    refine a_callVI dX3_leftBehind_20 mX3_isVoid KX3 rfl kv_X3_isVoid ks_X3_isVoid h_o0 km_RX3_81 rfl (T_X3_isVoid h_o0 g_o0S g_o0P g_o0V g_o0W e6) (fun _ => rfl) rfl (show 0 + 1 ≤ dd + 1 by omega) (show 80 * 0 + 79 ≤ 80 * (dd + 1) by omega) ⟨(Nat.le_of_ble_eq_true rfl), (Nat.le_of_ble_eq_true rfl)⟩ (Nat.le_of_ble_eq_true rfl) ?_
    refine jn_s (fun q7 : sM => aW G cX3_leftBehind RX3 "leftBehind" 4 (some .int) (sR (dd + 1) 0 0) (aQ G (some .int) 0 0 (r_0, (mkSh q_0 x_0, s_0))) aX 0 0 (mkSh q_0 x_0, q7) [(0, .ref (gP G o0)), (3, vI r1)] 43 []) h (fun q7 h => ?_) (fun K8 hK8 h => ?_)
    · skip
      refine a_aload_n 0 dX3_leftBehind_43 rfl ?_
      refine a_getR (j := 8) dX3_leftBehind_44 KX3 h_o0 (by decide) rfl kf_RX3_36 ?_
      refine a_iload_n 1 dX3_leftBehind_47 rfl ?_
      refine a_gd h (fun c9 h => ?_)
      refine a_lald (x' := wi r1) dX3_leftBehind_48 g_o0W rfl c9 rfl ?_
      refine a_l2i dX3_leftBehind_49 ?_
      exact a_iret dX3_leftBehind_50 rfl (p_1 h) (p_S (p_2 h))
    · skip
      refine a_if_eq 43 dX3_leftBehind_23 (by decide) rfl h (fun c10 h => ?_) (fun c10 h => ?_)
      · skip
        have hh := hK8 _ h
        exact a_sub [1, 0] rfl hh
      · skip
        refine a_aload_n 1 dX3_leftBehind_26 rfl ?_
        refine a_getR (j := 8) dX3_leftBehind_27 KX3 h_o0 (by decide) rfl kf_RX3_36 ?_
        refine a_iload_n 0 dX3_leftBehind_30 rfl ?_
        refine a_aload_n 1 dX3_leftBehind_31 rfl ?_
        refine a_aload_n 1 dX3_leftBehind_32 rfl ?_
        refine a_iload_n 2 dX3_leftBehind_33 rfl ?_
        refine a_iload_n 3 dX3_leftBehind_34 rfl ?_
        refine a_iconst dX3_leftBehind_35 ?_
        refine bn_s h (fun r11 σ13 e12 h => ?_)
        refine a_callVI dX3_leftBehind_36 mX3_mean KX3 rfl kv_X3_mean ks_X3_mean h_o0 km_RX3_85 rfl (hR.2.2.2.2.2.2.1 _ _ _ _ _ _ e12) (fun _ => rfl) rfl (show dd + 1 ≤ dd + 1 by omega) (show 80 * dd + 79 ≤ 80 * (dd + 1) by omega) ⟨(Nat.le_of_ble_eq_true rfl), (Nat.le_of_ble_eq_true rfl)⟩ (Nat.le_of_ble_eq_true rfl) ?_
        refine bp_s h (fun r14 e15 h => ?_)
        refine a_callVL dX3_leftBehind_39 mX3_stamped KX3 rfl kv_X3_stamped ks_X3_stamped h_o0 km_RX3_89 rfl (T_X3_stamped h_o0 g_o0S g_o0P g_o0V g_o0W e15) (fun _ => rfl) rfl (show 0 + 1 ≤ dd + 1 by omega) (show 80 * 0 + 79 ≤ 80 * (dd + 1) by omega) ⟨(Nat.le_of_ble_eq_true rfl), (Nat.le_of_ble_eq_true rfl)⟩ (Nat.le_of_ble_eq_true rfl) ?_
        refine a_gd h (fun c16 h => ?_)
        refine a_last (x' := wi r1) dX3_leftBehind_42 g_o0W rfl c16 rfl ?_
        have hh := hK8 _ h
        exact a_sub [1, 0] rfl hh
  · skip
    refine a_iconst dX3_leftBehind_11 ?_
    exact a_iret dX3_leftBehind_12 rfl (p_1 h) (p_S (p_2 h))

def X3_broughtBy (F : Nat) (rec : Nat → sM → Int → Int → Int → Option (Int × sM)) (o0 o0P o0V o0W o0n : Nat) (σ : sM) (a1 a2 a3 : Int) : Option (Int × sM) := bp (X1_hadBy σ a2 a3 a1) (fun r1 => bp (X1_standAfter σ a2 a3) (fun r3 => bn (rec 5 σ a1 r3 0) (fun r5 σ7 => some ((1000 * r1) + r5, σ7))))
set_option maxRecDepth 100000 in
set_option maxHeartbeats 400000 in
theorem T_X3_broughtBy {G : sG} {q_0 : qT} {x_0 : List Nat} {σ s_0 : sM} {r_0 : Int} {a1 a2 a3 : Int} {o0 o0P o0V o0W o0n : Nat} {F dd : Nat} {rec : Nat → sM → Int → Int → Int → Option (Int × sM)} (h_o0 : (mkSh q_0 x_0)[o0]? = some (.inl (3, [.ref 2, .int 0, .int 0, .ref (shC o0), .int 0, .long 0, .ref o0P, .ref o0V, .ref o0W]))) (g_o0S : (mkSh q_0 x_0)[shC o0]? = some (.inr (.int, 48, gN))) (g_o0P : (mkSh q_0 x_0)[o0P]? = some (.inr (.long, o0n, gN))) (g_o0V : (mkSh q_0 x_0)[o0V]? = some (.inr (.long, o0n, gN))) (g_o0W : (mkSh q_0 x_0)[o0W]? = some (.inr (.long, o0n, gN))) (hdd : 20 ≤ dd) (hR : RCX3 G q_0 x_0 o0 o0P o0V o0W o0n dd rec) (h : X3_broughtBy F rec o0 o0P o0V o0W o0n σ a1 a2 a3 = some (r_0, s_0)) : aM G yX3_broughtBy cX3_broughtBy 5 (some .int) (dd + 1) 0 0 [.ref (gP G o0), vI a1, vI a2, vI a3] (mkSh q_0 x_0, σ) (r_0, (mkSh q_0 x_0, s_0)) := by
  unfold X3_broughtBy at h
  refine aM_of (by decide) (Nat.le_of_ble_eq_true rfl) ?_
  show aW G cX3_broughtBy RX3 "broughtBy" 5 (some .int) _ _ aX 0 0 _ [(0, .ref (gP G o0)), (1, vI a1), (2, vI a2), (3, vI a3)] 0 []
  refine a_aload_n 0 dX3_broughtBy_0 rfl ?_
  refine a_getR (j := 0) dX3_broughtBy_1 KX3 h_o0 (by decide) rfl kf_RX3_39 ?_
  refine a_iload_n 2 dX3_broughtBy_4 rfl ?_
  refine a_iload_n 3 dX3_broughtBy_5 rfl ?_
  refine a_iload_n 1 dX3_broughtBy_6 rfl ?_
  refine bp_s h (fun r1 e2 h => ?_)
  refine a_callVI dX3_broughtBy_7 mX1_hadBy KX1 rfl kv_X1_hadBy ks_X1_hadBy rfl km_RX3_93 rfl (T_X1_hadBy e2) (fun _ => rfl) rfl (show 2 + 1 ≤ dd + 1 by omega) (show 80 * 2 + 79 ≤ 80 * (dd + 1) by omega) ⟨(Nat.le_of_ble_eq_true rfl), (Nat.le_of_ble_eq_true rfl)⟩ (Nat.le_of_ble_eq_true rfl) ?_
  refine a_istore (L' := [(4, vI r1), (0, .ref (gP G o0)), (1, vI a1), (2, vI a2), (3, vI a3)]) dX3_broughtBy_10 (by decide) rfl ?_
  refine a_sipush dX3_broughtBy_12 (by decide) ?_
  refine a_iload 0 dX3_broughtBy_15 rfl ?_
  refine a_imul dX3_broughtBy_17 ?_
  refine a_aload_n 1 dX3_broughtBy_18 rfl ?_
  refine a_iload_n 2 dX3_broughtBy_19 rfl ?_
  refine a_aload_n 1 dX3_broughtBy_20 rfl ?_
  refine a_getR (j := 0) dX3_broughtBy_21 KX3 h_o0 (by decide) rfl kf_RX3_39 ?_
  refine a_iload_n 3 dX3_broughtBy_24 rfl ?_
  refine a_iload_n 4 dX3_broughtBy_25 rfl ?_
  refine bp_s h (fun r3 e4 h => ?_)
  refine a_callVI dX3_broughtBy_26 mX1_standAfter KX1 rfl kv_X1_standAfter ks_X1_standAfter rfl km_RX3_72 rfl (T_X1_standAfter e4) (fun _ => rfl) rfl (show 1 + 1 ≤ dd + 1 by omega) (show 80 * 1 + 79 ≤ 80 * (dd + 1) by omega) ⟨(Nat.le_of_ble_eq_true rfl), (Nat.le_of_ble_eq_true rfl)⟩ (Nat.le_of_ble_eq_true rfl) ?_
  refine bn_s h (fun r5 σ7 e6 h => ?_)
  refine a_callVI dX3_broughtBy_29 mX3_valueBehind KX3 rfl kv_X3_valueBehind ks_X3_valueBehind h_o0 km_RX3_97 rfl (hR.2.2.2.2.2.1 _ _ _ _ _ e6) (fun _ => rfl) rfl (show dd + 1 ≤ dd + 1 by omega) (show 80 * dd + 79 ≤ 80 * (dd + 1) by omega) ⟨(Nat.le_of_ble_eq_true rfl), (Nat.le_of_ble_eq_true rfl)⟩ (Nat.le_of_ble_eq_true rfl) ?_
  refine a_iadd dX3_broughtBy_32 ?_
  exact a_iret dX3_broughtBy_33 rfl (p_1 h) (p_S (p_2 h))

def X3_bestPlan (F : Nat) (rec : Nat → sM → Int → Int → Int → Option (Int × sM)) (o0 o0P o0V o0W o0n : Nat) (σ : sM) (a1 a2 : Int) : Option (Int × sM) := lp (fun K2 (q1 : sM × Int × Int × Int) => if 6 < wi q1.2.2.2 then some (q_or (q_shl q1.2.2.1 3) q1.2.1, q1.1) else bp (X1_mayBe F q1.1 a2 q1.2.2.2) (fun r4 => jn (fun q6 : sM × Int × Int => K2 (q6.1, q6.2.1, q6.2.2, q1.2.2.2 + 1)) (fun K7 => if wi r4 = 0 then K7 (q1.1, q1.2.1, q1.2.2.1) else bn (rec 4 q1.1 a1 a2 q1.2.2.2) (fun r9 σ11 => if wi r9 ≤ wi q1.2.2.1 then K7 (σ11, q1.2.1, q1.2.2.1) else K7 (σ11, q1.2.2.2, r9))))) F (σ, 6, (-1), 0)
set_option maxRecDepth 100000 in
set_option maxHeartbeats 400000 in
theorem T_X3_bestPlan {G : sG} {q_0 : qT} {x_0 : List Nat} {σ s_0 : sM} {r_0 : Int} {a1 a2 : Int} {o0 o0P o0V o0W o0n : Nat} {F dd : Nat} {rec : Nat → sM → Int → Int → Int → Option (Int × sM)} (h_o0 : (mkSh q_0 x_0)[o0]? = some (.inl (3, [.ref 2, .int 0, .int 0, .ref (shC o0), .int 0, .long 0, .ref o0P, .ref o0V, .ref o0W]))) (g_o0S : (mkSh q_0 x_0)[shC o0]? = some (.inr (.int, 48, gN))) (g_o0P : (mkSh q_0 x_0)[o0P]? = some (.inr (.long, o0n, gN))) (g_o0V : (mkSh q_0 x_0)[o0V]? = some (.inr (.long, o0n, gN))) (g_o0W : (mkSh q_0 x_0)[o0W]? = some (.inr (.long, o0n, gN))) (hdd : 20 ≤ dd) (hR : RCX3 G q_0 x_0 o0 o0P o0V o0W o0n dd rec) (h : X3_bestPlan F rec o0 o0P o0V o0W o0n σ a1 a2 = some (r_0, s_0)) : aM G yX3_bestPlan cX3_bestPlan 7 (some .int) (dd + 1) 0 0 [.ref (gP G o0), vI a1, vI a2] (mkSh q_0 x_0, σ) (r_0, (mkSh q_0 x_0, s_0)) := by
  unfold X3_bestPlan at h
  refine aM_of (by decide) (Nat.le_of_ble_eq_true rfl) ?_
  show aW G cX3_bestPlan RX3 "bestPlan" 7 (some .int) _ _ aX 0 0 _ [(0, .ref (gP G o0)), (1, vI a1), (2, vI a2)] 0 []
  refine a_bipush dX3_bestPlan_0 (by decide) ?_
  refine a_istore_n (L' := [(3, vI 6), (0, .ref (gP G o0)), (1, vI a1), (2, vI a2)]) dX3_bestPlan_2 (by decide) rfl ?_
  refine a_iconst dX3_bestPlan_3 ?_
  refine a_istore (L' := [(4, vI (-1)), (3, vI 6), (0, .ref (gP G o0)), (1, vI a1), (2, vI a2)]) dX3_bestPlan_4 (by decide) rfl ?_
  refine a_iconst dX3_bestPlan_6 ?_
  refine a_istore (L' := [(5, vI 0), (4, vI (-1)), (3, vI 6), (0, .ref (gP G o0)), (1, vI a1), (2, vI a2)]) dX3_bestPlan_7 (by decide) rfl ?_
  refine a_sub (L' := [(0, .ref (gP G o0)), (1, vI a1), (2, vI a2), (3, vI 6), (4, vI (-1)), (5, vI 0)]) [3, 4, 5, 2, 1, 0] rfl (lp_s (x := (σ, 6, (-1), 0)) (fun q1 : sM × Int × Int × Int => aW G cX3_bestPlan RX3 "bestPlan" 7 (some .int) (sR (dd + 1) 0 0) (aQ G (some .int) 0 0 (r_0, (mkSh q_0 x_0, s_0))) aX 0 0 (mkSh q_0 x_0, q1.1) [(0, .ref (gP G o0)), (1, vI a1), (2, vI a2), (3, vI q1.2.1), (4, vI q1.2.2.1), (5, vI q1.2.2.2)] 9 []) h (fun K2 hK2 q1 h => ?_))
  refine a_iload 5 dX3_bestPlan_9 rfl ?_
  refine a_bipush dX3_bestPlan_11 (by decide) ?_
  refine a_icmp_gt 59 dX3_bestPlan_13 (by decide) rfl (by decide) h (fun c3 h => ?_) (fun c3 h => ?_)
  · skip
    refine a_iload 4 dX3_bestPlan_59 rfl ?_
    refine a_iconst dX3_bestPlan_61 ?_
    refine a_ishl dX3_bestPlan_62 ?_
    refine a_iload_n 3 dX3_bestPlan_63 rfl ?_
    refine a_ior dX3_bestPlan_64 ?_
    exact a_iret dX3_bestPlan_65 rfl (p_1 h) (p_S (p_2 h))
  · skip
    refine a_aload_n 0 dX3_bestPlan_16 rfl ?_
    refine a_getR (j := 0) dX3_bestPlan_17 KX3 h_o0 (by decide) rfl kf_RX3_39 ?_
    refine a_iload_n 2 dX3_bestPlan_20 rfl ?_
    refine a_iload 5 dX3_bestPlan_21 rfl ?_
    refine bp_s h (fun r4 e5 h => ?_)
    refine a_callVI dX3_bestPlan_23 mX1_mayBe KX1 rfl kv_X1_mayBe ks_X1_mayBe rfl km_RX3_109 rfl (T_X1_mayBe e5) (fun _ => rfl) rfl (show 3 + 1 ≤ dd + 1 by omega) (show 80 * 3 + 79 ≤ 80 * (dd + 1) by omega) ⟨(Nat.le_of_ble_eq_true rfl), (Nat.le_of_ble_eq_true rfl)⟩ (Nat.le_of_ble_eq_true rfl) ?_
    refine jn_s (fun q6 : sM × Int × Int => aW G cX3_bestPlan RX3 "bestPlan" 7 (some .int) (sR (dd + 1) 0 0) (aQ G (some .int) 0 0 (r_0, (mkSh q_0 x_0, s_0))) aX 0 0 (mkSh q_0 x_0, q6.1) [(0, .ref (gP G o0)), (1, vI a1), (2, vI a2), (3, vI q6.2.1), (4, vI q6.2.2), (5, vI q1.2.2.2)] 53 []) h (fun q6 h => ?_) (fun K7 hK7 h => ?_)
    · skip
      refine a_iinc (L' := [(5, vI (q1.2.2.2 + 1)), (0, .ref (gP G o0)), (1, vI a1), (2, vI a2), (3, vI q6.2.1), (4, vI q6.2.2)]) 5 dX3_bestPlan_53 rfl (by decide) rfl ?_
      refine a_goto 9 dX3_bestPlan_56 (by decide) ?_
      have hh := hK2 _ h
      exact a_sub [1, 2, 3, 4, 5, 0] rfl hh
    · skip
      refine a_if_eq 53 dX3_bestPlan_26 (by decide) rfl h (fun c8 h => ?_) (fun c8 h => ?_)
      · skip
        have hh := hK7 _ h
        exact a_sub [0, 1, 2, 3, 4, 5] rfl hh
      · skip
        refine a_aload_n 0 dX3_bestPlan_29 rfl ?_
        refine a_iload_n 1 dX3_bestPlan_30 rfl ?_
        refine a_iload_n 2 dX3_bestPlan_31 rfl ?_
        refine a_iload 5 dX3_bestPlan_32 rfl ?_
        refine bn_s h (fun r9 σ11 e10 h => ?_)
        refine a_callVI dX3_bestPlan_34 mX3_broughtBy KX3 rfl kv_X3_broughtBy ks_X3_broughtBy h_o0 km_RX3_113 rfl (hR.2.2.2.2.1 _ _ _ _ _ _ e10) (fun _ => rfl) rfl (show dd + 1 ≤ dd + 1 by omega) (show 80 * dd + 79 ≤ 80 * (dd + 1) by omega) ⟨(Nat.le_of_ble_eq_true rfl), (Nat.le_of_ble_eq_true rfl)⟩ (Nat.le_of_ble_eq_true rfl) ?_
        refine a_istore (L' := [(6, vI r9), (0, .ref (gP G o0)), (1, vI a1), (2, vI a2), (3, vI q1.2.1), (4, vI q1.2.2.1), (5, vI q1.2.2.2)]) dX3_bestPlan_37 (by decide) rfl ?_
        refine a_iload 0 dX3_bestPlan_39 rfl ?_
        refine a_iload 5 dX3_bestPlan_41 rfl ?_
        refine a_icmp_le 53 dX3_bestPlan_43 (by decide) rfl rfl h (fun c12 h => ?_) (fun c12 h => ?_)
        · skip
          have hh := hK7 _ h
          exact a_sub [1, 2, 3, 4, 5, 6] rfl hh
        · skip
          refine a_iload 0 dX3_bestPlan_46 rfl ?_
          refine a_istore (L' := [(4, vI r9), (6, vI r9), (0, .ref (gP G o0)), (1, vI a1), (2, vI a2), (3, vI q1.2.1), (5, vI q1.2.2.2)]) dX3_bestPlan_48 (by decide) rfl ?_
          refine a_iload 6 dX3_bestPlan_50 rfl ?_
          refine a_istore_n (L' := [(3, vI q1.2.2.2), (4, vI r9), (6, vI r9), (0, .ref (gP G o0)), (1, vI a1), (2, vI a2), (5, vI q1.2.2.2)]) dX3_bestPlan_52 (by decide) rfl ?_
          have hh := hK7 _ h
          exact a_sub [3, 4, 5, 0, 1, 6] rfl hh

