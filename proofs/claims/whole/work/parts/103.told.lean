def X9_begin (F : Nat) (σ : sM) : Option (Int × sM) := lp (fun K2 (q1 : sM × Int) => if 3 ≤ wi q1.2 then some (0, q1.1) else if 0 ≤ wi q1.2 ∧ wi q1.2 < 9 then if 0 ≤ wi q1.2 ∧ wi q1.2 < 6 then if 0 ≤ wi q1.2 ∧ wi q1.2 < 9 then nm (sU (sU q1.1 71 (wi q1.2).toNat 0) 72 (wi q1.2).toNat ((sU q1.1 71 (wi q1.2).toNat 0) 63 (wi q1.2).toNat)) (fun σ7 => if 0 ≤ wi q1.2 ∧ wi q1.2 < 9 then K2 ((sU σ7 73 (wi q1.2).toNat (q_z 0)), q1.2 + 1) else none) else none else none else none) F ((sU (sU (sU (sU σ 66 0 0) 67 0 (q_z 0)) 68 0 0) 69 0 0), 0)
set_option maxRecDepth 100000 in
set_option maxHeartbeats 400000 in
theorem T_X9_begin {G : sG} {q_0 : qT} {x_0 : List Nat} {σ s_0 : sM} {r_0 : Int} {F : Nat}  (h : X9_begin F σ = some (r_0, s_0)) : aM G yX9_begin cX9_begin 2 none 0 0 0 [.ref (gP G 55)] (mkSh q_0 x_0, σ) (r_0, (mkSh q_0 x_0, s_0)) := by
  unfold X9_begin at h
  refine aM_of (by decide) (Nat.le_of_ble_eq_true rfl) ?_
  show aW G cX9_begin RX9 "begin" 2 none _ _ aX 0 0 _ [(0, .ref (gP G 55))] 0 []
  refine a_aload_n 0 dX9_begin_0 rfl ?_
  refine a_getR (j := 17) dX9_begin_1 KX9 rfl (by decide) rfl kf_RX9_41 ?_
  refine a_iconst dX9_begin_4 ?_
  refine a_iconst dX9_begin_5 ?_
  refine a_iast (x' := 0) dX9_begin_6 rfl (by decide) (by decide) rfl ?_
  refine a_aload_n 0 dX9_begin_7 rfl ?_
  refine a_getR (j := 18) dX9_begin_8 KX9 rfl (by decide) rfl kf_RX9_44 ?_
  refine a_iconst dX9_begin_11 ?_
  refine a_iconst dX9_begin_12 ?_
  refine a_zast (x' := 0) dX9_begin_13 rfl (by decide) (by decide) rfl ?_
  refine a_aload_n 0 dX9_begin_14 rfl ?_
  refine a_getR (j := 19) dX9_begin_15 KX9 rfl (by decide) rfl kf_RX9_48 ?_
  refine a_iconst dX9_begin_18 ?_
  refine a_iconst dX9_begin_19 ?_
  refine a_iast (x' := 0) dX9_begin_20 rfl (by decide) (by decide) rfl ?_
  refine a_aload_n 0 dX9_begin_21 rfl ?_
  refine a_getR (j := 20) dX9_begin_22 KX9 rfl (by decide) rfl kf_RX9_51 ?_
  refine a_iconst dX9_begin_25 ?_
  refine a_iconst dX9_begin_26 ?_
  refine a_iast (x' := 0) dX9_begin_27 rfl (by decide) (by decide) rfl ?_
  refine a_iconst dX9_begin_28 ?_
  refine a_istore_n (L' := [(1, vI 0), (0, .ref (gP G 55))]) dX9_begin_29 (by decide) rfl ?_
  refine a_sub (L' := [(0, .ref (gP G 55)), (1, vI 0)]) [1, 0] rfl (lp_s (x := ((sU (sU (sU (sU σ 66 0 0) 67 0 (q_z 0)) 68 0 0) 69 0 0), 0)) (fun q1 : sM × Int => aW G cX9_begin RX9 "begin" 2 none (sR 0 0 0) (aQ G none 0 0 (r_0, (mkSh q_0 x_0, s_0))) aX 0 0 (mkSh q_0 x_0, q1.1) [(0, .ref (gP G 55)), (1, vI q1.2)] 30 []) h (fun K2 hK2 q1 h => ?_))
  refine a_iload_n 1 dX9_begin_30 rfl ?_
  refine a_iconst dX9_begin_31 ?_
  refine a_icmp_ge 67 dX9_begin_32 (by decide) rfl (by decide) h (fun c3 h => ?_) (fun c3 h => ?_)
  · skip
    exact a_vret dX9_begin_67 rfl (p_S (p_2 h))
  · skip
    refine a_aload_n 0 dX9_begin_35 rfl ?_
    refine a_getR (j := 22) dX9_begin_36 KX9 rfl (by decide) rfl kf_RX9_57 ?_
    refine a_iload_n 1 dX9_begin_39 rfl ?_
    refine a_iconst dX9_begin_40 ?_
    refine a_gd h (fun c4 h => ?_)
    refine a_iast (x' := wi q1.2) dX9_begin_41 rfl rfl c4 rfl ?_
    refine a_aload_n 0 dX9_begin_42 rfl ?_
    refine a_getR (j := 23) dX9_begin_43 KX9 rfl (by decide) rfl kf_RX9_60 ?_
    refine a_iload_n 1 dX9_begin_46 rfl ?_
    refine a_aload_n 0 dX9_begin_47 rfl ?_
    refine a_getR (j := 9) dX9_begin_48 KX9 rfl (by decide) rfl kf_RX9_32 ?_
    refine a_iload_n 1 dX9_begin_51 rfl ?_
    refine a_gd h (fun c5 h => ?_)
    refine a_iald (x' := wi q1.2) dX9_begin_52 rfl rfl c5 rfl ?_
    refine a_gd h (fun c6 h => ?_)
    refine a_iast (x' := wi q1.2) dX9_begin_53 rfl rfl c6 rfl ?_
    refine a_nmS h (fun σ7 w8 h => ?_)
    refine a_aload_n 0 dX9_begin_54 rfl ?_
    refine a_getR (j := 24) dX9_begin_55 KX9 rfl (by decide) rfl kf_RX9_63 ?_
    refine a_iload_n 1 dX9_begin_58 rfl ?_
    refine a_iconst dX9_begin_59 ?_
    refine a_gd h (fun c9 h => ?_)
    refine a_zast (x' := wi q1.2) dX9_begin_60 rfl rfl c9 rfl ?_
    refine a_iinc (L' := [(1, vI (q1.2 + 1)), (0, .ref (gP G 55))]) 1 dX9_begin_61 rfl (by decide) rfl ?_
    refine a_goto 30 dX9_begin_64 (by decide) ?_
    have hh := hK2 _ h
    exact a_sub [1, 0] rfl hh

def X9_isWheel (σ : sM) (a1 : Int) : Option Int := bp (X9_in σ a1 0 ((σ 58 0) - 1)) (fun r1 => if wi r1 = 0 ∨ wi r1 = 1 then some r1 else none)
set_option maxRecDepth 100000 in
set_option maxHeartbeats 400000 in
theorem T_X9_isWheel {G : sG} {q_0 : qT} {x_0 : List Nat} {σ : sM} {r_0 : Int} {a1 : Int}  (h : X9_isWheel σ a1 = some r_0) : aM G yX9_isWheel cX9_isWheel 2 (some .boolean) 1 0 0 [.ref (gP G 55), vI a1] (mkSh q_0 x_0, σ) (r_0, (mkSh q_0 x_0, σ)) := by
  unfold X9_isWheel at h
  refine aM_of (by decide) (Nat.le_of_ble_eq_true rfl) ?_
  show aW G cX9_isWheel RX9 "isWheel" 2 (some .boolean) _ _ aX 0 0 _ [(0, .ref (gP G 55)), (1, vI a1)] 0 []
  refine a_iload_n 1 dX9_isWheel_0 rfl ?_
  refine a_iconst dX9_isWheel_1 ?_
  refine a_aload_n 0 dX9_isWheel_2 rfl ?_
  refine a_getR (j := 4) dX9_isWheel_3 KX9 rfl (by decide) rfl kf_RX9_17 ?_
  refine a_iconst dX9_isWheel_6 ?_
  refine a_iald (x' := 0) dX9_isWheel_7 rfl (by decide) (by decide) rfl ?_
  refine a_iconst dX9_isWheel_8 ?_
  refine a_isub dX9_isWheel_9 ?_
  refine bp_s h (fun r1 e2 h => ?_)
  refine a_callSI dX9_isWheel_10 mX9_in kv_X9_in km_RX9_103 rfl (T_X9_in e2) (fun _ => rfl) rfl (Nat.le_of_ble_eq_true rfl) (Nat.le_of_ble_eq_true rfl) ⟨(Nat.le_of_ble_eq_true rfl), (Nat.le_of_ble_eq_true rfl)⟩ (Nat.le_of_ble_eq_true rfl) ?_
  refine a_gd h (fun c3 h => ?_)
  exact a_zret dX9_isWheel_13 rfl (nb_01 c3) (s_inj h) rfl

def X9_isOver (σ : sM) : Option Int := if ¬ wi (σ 66 0) = wi (σ 59 0) then some 0 else some 1
set_option maxRecDepth 100000 in
set_option maxHeartbeats 400000 in
theorem T_X9_isOver {G : sG} {q_0 : qT} {x_0 : List Nat} {σ : sM} {r_0 : Int}  (h : X9_isOver σ = some r_0) : aM G yX9_isOver cX9_isOver 1 (some .boolean) 0 0 0 [.ref (gP G 55)] (mkSh q_0 x_0, σ) (r_0, (mkSh q_0 x_0, σ)) := by
  unfold X9_isOver at h
  refine aM_of (by decide) (Nat.le_of_ble_eq_true rfl) ?_
  show aW G cX9_isOver RX9 "isOver" 1 (some .boolean) _ _ aX 0 0 _ [(0, .ref (gP G 55))] 0 []
  refine a_aload_n 0 dX9_isOver_0 rfl ?_
  refine a_getR (j := 17) dX9_isOver_1 KX9 rfl (by decide) rfl kf_RX9_41 ?_
  refine a_iconst dX9_isOver_4 ?_
  refine a_iald (x' := 0) dX9_isOver_5 rfl (by decide) (by decide) rfl ?_
  refine a_aload_n 0 dX9_isOver_6 rfl ?_
  refine a_getR (j := 5) dX9_isOver_7 KX9 rfl (by decide) rfl kf_RX9_20 ?_
  refine a_iconst dX9_isOver_10 ?_
  refine a_iald (x' := 0) dX9_isOver_11 rfl (by decide) (by decide) rfl ?_
  refine a_icmp_ne 19 dX9_isOver_12 (by decide) rfl rfl h (fun c1 h => ?_) (fun c1 h => ?_)
  · skip
    refine a_iconst dX9_isOver_19 ?_
    exact a_zret dX9_isOver_20 rfl (by decide) (s_inj h) rfl
  · skip
    refine a_iconst dX9_isOver_15 ?_
    refine a_goto 20 dX9_isOver_16 (by decide) ?_
    exact a_zret dX9_isOver_20 rfl (by decide) (s_inj h) rfl

def X9_goodOf (σ : sM) (a1 a2 : Int) : Option Int := if 0 ≤ wi a1 ∧ wi a1 < 6 then if 0 ≤ wi ((14 * (σ 62 (wi a1).toNat)) + a2) ∧ wi ((14 * (σ 62 (wi a1).toNat)) + a2) < 112 then some (σ 61 (wi ((14 * (σ 62 (wi a1).toNat)) + a2)).toNat) else none else none
set_option maxRecDepth 100000 in
set_option maxHeartbeats 400000 in
theorem T_X9_goodOf {G : sG} {q_0 : qT} {x_0 : List Nat} {σ : sM} {r_0 : Int} {a1 a2 : Int}  (h : X9_goodOf σ a1 a2 = some r_0) : aM G yX9_goodOf cX9_goodOf 3 (some .int) 0 0 0 [.ref (gP G 55), vI a1, vI a2] (mkSh q_0 x_0, σ) (r_0, (mkSh q_0 x_0, σ)) := by
  unfold X9_goodOf at h
  refine aM_of (by decide) (Nat.le_of_ble_eq_true rfl) ?_
  show aW G cX9_goodOf RX9 "goodOf" 3 (some .int) _ _ aX 0 0 _ [(0, .ref (gP G 55)), (1, vI a1), (2, vI a2)] 0 []
  refine a_aload_n 0 dX9_goodOf_0 rfl ?_
  refine a_getR (j := 7) dX9_goodOf_1 KX9 rfl (by decide) rfl kf_RX9_26 ?_
  refine a_bipush dX9_goodOf_4 (by decide) ?_
  refine a_aload_n 0 dX9_goodOf_6 rfl ?_
  refine a_getR (j := 8) dX9_goodOf_7 KX9 rfl (by decide) rfl kf_RX9_29 ?_
  refine a_iload_n 1 dX9_goodOf_10 rfl ?_
  refine a_gd h (fun c1 h => ?_)
  refine a_iald (x' := wi a1) dX9_goodOf_11 rfl rfl c1 rfl ?_
  refine a_imul dX9_goodOf_12 ?_
  refine a_iload_n 2 dX9_goodOf_13 rfl ?_
  refine a_iadd dX9_goodOf_14 ?_
  refine a_gd h (fun c2 h => ?_)
  refine a_iald (x' := wi ((14 * (σ 62 (wi a1).toNat)) + a2)) dX9_goodOf_15 rfl rfl c2 rfl ?_
  exact a_iret dX9_goodOf_16 rfl (s_inj h) rfl

def X9_warmth (σ : sM) (a1 : Int) : Option Int := if 8 ≤ wi a1 then some 0 else if 0 ≤ wi a1 ∧ wi a1 < 16 then some (σ 64 (wi a1).toNat) else none
set_option maxRecDepth 100000 in
set_option maxHeartbeats 400000 in
theorem T_X9_warmth {G : sG} {q_0 : qT} {x_0 : List Nat} {σ : sM} {r_0 : Int} {a1 : Int}  (h : X9_warmth σ a1 = some r_0) : aM G yX9_warmth cX9_warmth 2 (some .int) 0 0 0 [.ref (gP G 55), vI a1] (mkSh q_0 x_0, σ) (r_0, (mkSh q_0 x_0, σ)) := by
  unfold X9_warmth at h
  refine aM_of (by decide) (Nat.le_of_ble_eq_true rfl) ?_
  show aW G cX9_warmth RX9 "warmth" 2 (some .int) _ _ aX 0 0 _ [(0, .ref (gP G 55)), (1, vI a1)] 0 []
  refine a_iload_n 1 dX9_warmth_0 rfl ?_
  refine a_bipush dX9_warmth_1 (by decide) ?_
  refine a_icmp_ge 15 dX9_warmth_3 (by decide) rfl (by decide) h (fun c1 h => ?_) (fun c1 h => ?_)
  · skip
    refine a_iconst dX9_warmth_15 ?_
    exact a_iret dX9_warmth_16 rfl (s_inj h) rfl
  · skip
    refine a_aload_n 0 dX9_warmth_6 rfl ?_
    refine a_getR (j := 10) dX9_warmth_7 KX9 rfl (by decide) rfl kf_RX9_35 ?_
    refine a_iload_n 1 dX9_warmth_10 rfl ?_
    refine a_gd h (fun c2 h => ?_)
    refine a_iald (x' := wi a1) dX9_warmth_11 rfl rfl c2 rfl ?_
    refine a_goto 16 dX9_warmth_12 (by decide) ?_
    exact a_iret dX9_warmth_16 rfl (s_inj h) rfl

def X9_goes (σ : sM) (a1 a2 a3 a4 : Int) : Option Int := if wi a3 = 0 then some 0 else if wi a2 = 3 then some 0 else if 0 ≤ wi a1 ∧ wi a1 < 9 then if wi (σ 73 (wi a1).toNat) = 0 then if 0 ≤ wi a1 ∧ wi a1 < 6 then if 0 ≤ wi a1 ∧ wi a1 < 6 then jn (fun q7 : Int => if 0 ≤ wi (((14 * (σ 62 (wi a1).toNat)) + q7) + a2) ∧ wi (((14 * (σ 62 (wi a1).toNat)) + q7) + a2) < 112 then nm (σ 61 (wi (((14 * (σ 62 (wi a1).toNat)) + q7) + a2)).toNat) (fun y10 => bp (X9_warmth σ a4) (fun r12 => if ¬ wi y10 = 0 then if wi (y10 + r12) ≤ 10 then some (y10 + r12) else some 10 else some 0)) else none) (fun K8 => if ¬ wi a3 = wi (σ 63 (wi a1).toNat) then K8 7 else K8 4) else none else none else some 0 else none
set_option maxRecDepth 100000 in
set_option maxHeartbeats 400000 in
theorem T_X9_goes {G : sG} {q_0 : qT} {x_0 : List Nat} {σ : sM} {r_0 : Int} {a1 a2 a3 a4 : Int}  (h : X9_goes σ a1 a2 a3 a4 = some r_0) : aM G yX9_goes cX9_goes 7 (some .int) 1 0 0 [.ref (gP G 55), vI a1, vI a2, vI a3, vI a4] (mkSh q_0 x_0, σ) (r_0, (mkSh q_0 x_0, σ)) := by
  unfold X9_goes at h
  refine aM_of (by decide) (Nat.le_of_ble_eq_true rfl) ?_
  show aW G cX9_goes RX9 "goes" 7 (some .int) _ _ aX 0 0 _ [(0, .ref (gP G 55)), (1, vI a1), (2, vI a2), (3, vI a3), (4, vI a4)] 0 []
  refine a_iload_n 3 dX9_goes_0 rfl ?_
  refine a_if_eq 18 dX9_goes_1 (by decide) rfl h (fun c1 h => ?_) (fun c1 h => ?_)
  · skip
    refine a_iconst dX9_goes_18 ?_
    exact a_iret dX9_goes_19 rfl (s_inj h) rfl
  · skip
    refine a_iload_n 2 dX9_goes_4 rfl ?_
    refine a_iconst dX9_goes_5 ?_
    refine a_icmp_eq 18 dX9_goes_6 (by decide) rfl (by decide) h (fun c2 h => ?_) (fun c2 h => ?_)
    · skip
      refine a_iconst dX9_goes_18 ?_
      exact a_iret dX9_goes_19 rfl (s_inj h) rfl
    · skip
      refine a_aload_n 0 dX9_goes_9 rfl ?_
      refine a_getR (j := 24) dX9_goes_10 KX9 rfl (by decide) rfl kf_RX9_63 ?_
      refine a_iload_n 1 dX9_goes_13 rfl ?_
      refine a_gd h (fun c3 h => ?_)
      refine a_zald (x' := wi a1) dX9_goes_14 rfl rfl c3 rfl ?_
      refine a_if_eq 20 dX9_goes_15 (by decide) rfl h (fun c4 h => ?_) (fun c4 h => ?_)
      · skip
        refine a_aload_n 0 dX9_goes_20 rfl ?_
        refine a_getR (j := 7) dX9_goes_21 KX9 rfl (by decide) rfl kf_RX9_26 ?_
        refine a_bipush dX9_goes_24 (by decide) ?_
        refine a_aload_n 0 dX9_goes_26 rfl ?_
        refine a_getR (j := 8) dX9_goes_27 KX9 rfl (by decide) rfl kf_RX9_29 ?_
        refine a_iload_n 1 dX9_goes_30 rfl ?_
        refine a_gd h (fun c5 h => ?_)
        refine a_iald (x' := wi a1) dX9_goes_31 rfl rfl c5 rfl ?_
        refine a_imul dX9_goes_32 ?_
        refine a_iload_n 3 dX9_goes_33 rfl ?_
        refine a_aload_n 0 dX9_goes_34 rfl ?_
        refine a_getR (j := 9) dX9_goes_35 KX9 rfl (by decide) rfl kf_RX9_32 ?_
        refine a_iload_n 1 dX9_goes_38 rfl ?_
        refine a_gd h (fun c6 h => ?_)
        refine a_iald (x' := wi a1) dX9_goes_39 rfl rfl c6 rfl ?_
        refine jn_s (fun q7 : Int => aW G cX9_goes RX9 "goes" 7 (some .int) (sR 1 0 0) (aQ G (some .int) 0 0 (r_0, (mkSh q_0 x_0, σ))) aX 0 0 (mkSh q_0 x_0, σ) [(0, .ref (gP G 55)), (2, vI a2), (4, vI a4)] 49 [vI q7, vI (14 * (σ 62 (wi a1).toNat)), .ref (gP G 61)]) h (fun q7 h => ?_) (fun K8 hK8 h => ?_)
        · skip
          refine a_iadd dX9_goes_49 ?_
          refine a_iload_n 1 dX9_goes_50 rfl ?_
          refine a_iadd dX9_goes_51 ?_
          refine a_gd h (fun c9 h => ?_)
          refine a_iald (x' := wi (((14 * (σ 62 (wi a1).toNat)) + q7) + a2)) dX9_goes_52 rfl rfl c9 rfl ?_
          refine a_nmI h (fun y10 w11 h => ?_)
          refine a_istore (L' := [(5, vI y10), (0, .ref (gP G 55)), (2, vI a2), (4, vI a4)]) dX9_goes_53 (by decide) rfl ?_
          refine a_iload 0 dX9_goes_55 rfl ?_
          refine a_aload_n 1 dX9_goes_57 rfl ?_
          refine a_iload 3 dX9_goes_58 rfl ?_
          refine bp_s h (fun r12 e13 h => ?_)
          refine a_callVI dX9_goes_60 mX9_warmth KX9 rfl kv_X9_warmth ks_X9_warmth rfl km_RX9_161 rfl (T_X9_warmth e13) (fun _ => rfl) rfl (Nat.le_of_ble_eq_true rfl) (Nat.le_of_ble_eq_true rfl) ⟨(Nat.le_of_ble_eq_true rfl), (Nat.le_of_ble_eq_true rfl)⟩ (Nat.le_of_ble_eq_true rfl) ?_
          refine a_iadd dX9_goes_63 ?_
          refine a_istore (L' := [(6, vI (y10 + r12)), (5, vI y10), (0, .ref (gP G 55)), (2, vI a2), (4, vI a4)]) dX9_goes_64 (by decide) rfl ?_
          refine a_iload 1 dX9_goes_66 rfl ?_
          refine a_if_ne 75 dX9_goes_68 (by decide) rfl h (fun c14 h => ?_) (fun c14 h => ?_)
          · skip
            refine a_iload 0 dX9_goes_75 rfl ?_
            refine a_bipush dX9_goes_77 (by decide) ?_
            refine a_icmp_le 87 dX9_goes_79 (by decide) rfl (by decide) h (fun c15 h => ?_) (fun c15 h => ?_)
            · skip
              refine a_iload 0 dX9_goes_87 rfl ?_
              exact a_iret dX9_goes_89 rfl (s_inj h) rfl
            · skip
              refine a_bipush dX9_goes_82 (by decide) ?_
              refine a_goto 89 dX9_goes_84 (by decide) ?_
              exact a_iret dX9_goes_89 rfl (s_inj h) rfl
          · skip
            refine a_iconst dX9_goes_71 ?_
            refine a_goto 89 dX9_goes_72 (by decide) ?_
            exact a_iret dX9_goes_89 rfl (s_inj h) rfl
        · skip
          refine a_icmp_ne 47 dX9_goes_40 (by decide) rfl rfl h (fun c16 h => ?_) (fun c16 h => ?_)
          · skip
            refine a_bipush dX9_goes_47 (by decide) ?_
            have hh := hK8 _ h
            exact a_sub [0, 2, 4] rfl hh
          · skip
            refine a_iconst dX9_goes_43 ?_
            refine a_goto 49 dX9_goes_44 (by decide) ?_
            have hh := hK8 _ h
            exact a_sub [0, 2, 4] rfl hh
      · skip
        refine a_iconst dX9_goes_18 ?_
        exact a_iret dX9_goes_19 rfl (s_inj h) rfl

def X9_sort (σ : sM) (a1 a2 : Int) : Option Int := bp (X9_in σ a1 0 ((σ 57 0) - 1)) (fun r1 => if wi r1 = 0 then some (-1) else bp (X9_in σ a2 0 13) (fun r4 => if wi r4 = 0 then some (-1) else if 0 ≤ wi ((14 * a1) + a2) ∧ wi ((14 * a1) + a2) < 112 then some (σ 61 (wi ((14 * a1) + a2)).toNat) else none))
set_option maxRecDepth 100000 in
set_option maxHeartbeats 400000 in
theorem T_X9_sort {G : sG} {q_0 : qT} {x_0 : List Nat} {σ : sM} {r_0 : Int} {a1 a2 : Int}  (h : X9_sort σ a1 a2 = some r_0) : aM G yX9_sort cX9_sort 3 (some .int) 1 0 0 [.ref (gP G 55), vI a1, vI a2] (mkSh q_0 x_0, σ) (r_0, (mkSh q_0 x_0, σ)) := by
  unfold X9_sort at h
  refine aM_of (by decide) (Nat.le_of_ble_eq_true rfl) ?_
  show aW G cX9_sort RX9 "sort" 3 (some .int) _ _ aX 0 0 _ [(0, .ref (gP G 55)), (1, vI a1), (2, vI a2)] 0 []
  refine a_iload_n 1 dX9_sort_0 rfl ?_
  refine a_iconst dX9_sort_1 ?_
  refine a_aload_n 0 dX9_sort_2 rfl ?_
  refine a_getR (j := 3) dX9_sort_3 KX9 rfl (by decide) rfl kf_RX9_13 ?_
  refine a_iconst dX9_sort_6 ?_
  refine a_iald (x' := 0) dX9_sort_7 rfl (by decide) (by decide) rfl ?_
  refine a_iconst dX9_sort_8 ?_
  refine a_isub dX9_sort_9 ?_
  refine bp_s h (fun r1 e2 h => ?_)
  refine a_callSI dX9_sort_10 mX9_in kv_X9_in km_RX9_103 rfl (T_X9_in e2) (fun _ => rfl) rfl (Nat.le_of_ble_eq_true rfl) (Nat.le_of_ble_eq_true rfl) ⟨(Nat.le_of_ble_eq_true rfl), (Nat.le_of_ble_eq_true rfl)⟩ (Nat.le_of_ble_eq_true rfl) ?_
  refine a_if_eq 40 dX9_sort_13 (by decide) rfl h (fun c3 h => ?_) (fun c3 h => ?_)
  · skip
    refine a_iconst dX9_sort_40 ?_
    exact a_iret dX9_sort_41 rfl (s_inj h) rfl
  · skip
    refine a_iload_n 2 dX9_sort_16 rfl ?_
    refine a_iconst dX9_sort_17 ?_
    refine a_bipush dX9_sort_18 (by decide) ?_
    refine bp_s h (fun r4 e5 h => ?_)
    refine a_callSI dX9_sort_20 mX9_in kv_X9_in km_RX9_103 rfl (T_X9_in e5) (fun _ => rfl) rfl (Nat.le_of_ble_eq_true rfl) (Nat.le_of_ble_eq_true rfl) ⟨(Nat.le_of_ble_eq_true rfl), (Nat.le_of_ble_eq_true rfl)⟩ (Nat.le_of_ble_eq_true rfl) ?_
    refine a_if_eq 40 dX9_sort_23 (by decide) rfl h (fun c6 h => ?_) (fun c6 h => ?_)
    · skip
      refine a_iconst dX9_sort_40 ?_
      exact a_iret dX9_sort_41 rfl (s_inj h) rfl
    · skip
      refine a_aload_n 0 dX9_sort_26 rfl ?_
      refine a_getR (j := 7) dX9_sort_27 KX9 rfl (by decide) rfl kf_RX9_26 ?_
      refine a_bipush dX9_sort_30 (by decide) ?_
      refine a_iload_n 1 dX9_sort_32 rfl ?_
      refine a_imul dX9_sort_33 ?_
      refine a_iload_n 2 dX9_sort_34 rfl ?_
      refine a_iadd dX9_sort_35 ?_
      refine a_gd h (fun c7 h => ?_)
      refine a_iald (x' := wi ((14 * a1) + a2)) dX9_sort_36 rfl rfl c7 rfl ?_
      refine a_goto 41 dX9_sort_37 (by decide) ?_
      exact a_iret dX9_sort_41 rfl (s_inj h) rfl

def X9_wheel (σ : sM) (a1 a2 : Int) : Option Int := bp (X9_isWheel σ a1) (fun r1 => if ¬ wi r1 = 0 then if wi a2 = 0 then if 0 ≤ wi a1 ∧ wi a1 < 6 then some (σ 62 (wi a1).toNat) else none else if wi a2 = 1 then if 0 ≤ wi a1 ∧ wi a1 < 6 then some (σ 63 (wi a1).toNat) else none else if wi a2 = 2 then if 0 ≤ wi a1 ∧ wi a1 < 9 then some (σ 71 (wi a1).toNat) else none else if wi a2 = 3 then if 0 ≤ wi a1 ∧ wi a1 < 9 then some (σ 72 (wi a1).toNat) else none else if wi a2 = 4 then if 0 ≤ wi a1 ∧ wi a1 < 9 then if wi (σ 72 (wi a1).toNat) ≤ 0 then some 0 else if 0 ≤ wi a1 ∧ wi a1 < 9 then if 0 ≤ wi a1 ∧ wi a1 < 6 then if wi (σ 63 (wi a1).toNat) ≤ wi (σ 72 (wi a1).toNat) then some 0 else some 1 else none else none else none else if wi a2 = 5 then if 0 ≤ wi a1 ∧ wi a1 < 9 then if wi (σ 73 (wi a1).toNat) = 0 then some 0 else some 1 else none else if wi a2 = 6 then if 0 ≤ wi a1 ∧ wi a1 < 9 then bp (X9_goodOf σ a1 (σ 71 (wi a1).toNat)) (fun r23 => some r23) else none else if wi a2 = 7 then if 0 ≤ wi a1 ∧ wi a1 < 9 then if 0 ≤ wi a1 ∧ wi a1 < 9 then bp (X9_goes σ a1 (σ 71 (wi a1).toNat) (σ 72 (wi a1).toNat) (σ 66 0)) (fun r28 => some r28) else none else none else some (-1) else some (-1))
set_option maxRecDepth 100000 in
set_option maxHeartbeats 400000 in
theorem T_X9_wheel {G : sG} {q_0 : qT} {x_0 : List Nat} {σ : sM} {r_0 : Int} {a1 a2 : Int}  (h : X9_wheel σ a1 a2 = some r_0) : aM G yX9_wheel cX9_wheel 3 (some .int) 2 0 0 [.ref (gP G 55), vI a1, vI a2] (mkSh q_0 x_0, σ) (r_0, (mkSh q_0 x_0, σ)) := by
  unfold X9_wheel at h
  refine aM_of (by decide) (Nat.le_of_ble_eq_true rfl) ?_
  show aW G cX9_wheel RX9 "wheel" 3 (some .int) _ _ aX 0 0 _ [(0, .ref (gP G 55)), (1, vI a1), (2, vI a2)] 0 []
  refine a_aload_n 0 dX9_wheel_0 rfl ?_
  refine a_iload_n 1 dX9_wheel_1 rfl ?_
  refine bp_s h (fun r1 e2 h => ?_)
  refine a_callVI dX9_wheel_2 mX9_isWheel KX9 rfl kv_X9_isWheel ks_X9_isWheel rfl km_RX9_164 rfl (T_X9_isWheel e2) (fun _ => rfl) rfl (Nat.le_of_ble_eq_true rfl) (Nat.le_of_ble_eq_true rfl) ⟨(Nat.le_of_ble_eq_true rfl), (Nat.le_of_ble_eq_true rfl)⟩ (Nat.le_of_ble_eq_true rfl) ?_
  refine a_if_ne 10 dX9_wheel_5 (by decide) rfl h (fun c3 h => ?_) (fun c3 h => ?_)
  · skip
    refine a_iload_n 2 dX9_wheel_10 rfl ?_
    refine a_if h (fun c4 h => ?_) (fun c4 h => ?_)
    · skip
      refine a_tsIn (off := 45) 56 dX9_wheel_11 c4 (by decide) (by decide) (by decide) ?_
      refine a_aload_n 0 dX9_wheel_56 rfl ?_
      refine a_getR (j := 8) dX9_wheel_57 KX9 rfl (by decide) rfl kf_RX9_29 ?_
      refine a_iload_n 1 dX9_wheel_60 rfl ?_
      refine a_gd h (fun c5 h => ?_)
      refine a_iald (x' := wi a1) dX9_wheel_61 rfl rfl c5 rfl ?_
      exact a_iret dX9_wheel_62 rfl (s_inj h) rfl
    · skip
      refine a_if h (fun c6 h => ?_) (fun c6 h => ?_)
      · skip
        refine a_tsIn (off := 52) 63 dX9_wheel_11 c6 (by decide) (by decide) (by decide) ?_
        refine a_aload_n 0 dX9_wheel_63 rfl ?_
        refine a_getR (j := 9) dX9_wheel_64 KX9 rfl (by decide) rfl kf_RX9_32 ?_
        refine a_iload_n 1 dX9_wheel_67 rfl ?_
        refine a_gd h (fun c7 h => ?_)
        refine a_iald (x' := wi a1) dX9_wheel_68 rfl rfl c7 rfl ?_
        exact a_iret dX9_wheel_69 rfl (s_inj h) rfl
      · skip
        refine a_if h (fun c8 h => ?_) (fun c8 h => ?_)
        · skip
          refine a_tsIn (off := 59) 70 dX9_wheel_11 c8 (by decide) (by decide) (by decide) ?_
          refine a_aload_n 0 dX9_wheel_70 rfl ?_
          refine a_getR (j := 22) dX9_wheel_71 KX9 rfl (by decide) rfl kf_RX9_57 ?_
          refine a_iload_n 1 dX9_wheel_74 rfl ?_
          refine a_gd h (fun c9 h => ?_)
          refine a_iald (x' := wi a1) dX9_wheel_75 rfl rfl c9 rfl ?_
          exact a_iret dX9_wheel_76 rfl (s_inj h) rfl
        · skip
          refine a_if h (fun c10 h => ?_) (fun c10 h => ?_)
          · skip
            refine a_tsIn (off := 66) 77 dX9_wheel_11 c10 (by decide) (by decide) (by decide) ?_
            refine a_aload_n 0 dX9_wheel_77 rfl ?_
            refine a_getR (j := 23) dX9_wheel_78 KX9 rfl (by decide) rfl kf_RX9_60 ?_
            refine a_iload_n 1 dX9_wheel_81 rfl ?_
            refine a_gd h (fun c11 h => ?_)
            refine a_iald (x' := wi a1) dX9_wheel_82 rfl rfl c11 rfl ?_
            exact a_iret dX9_wheel_83 rfl (s_inj h) rfl
          · skip
            refine a_if h (fun c12 h => ?_) (fun c12 h => ?_)
            · skip
              refine a_tsIn (off := 73) 84 dX9_wheel_11 c12 (by decide) (by decide) (by decide) ?_
              refine a_aload_n 0 dX9_wheel_84 rfl ?_
              refine a_getR (j := 23) dX9_wheel_85 KX9 rfl (by decide) rfl kf_RX9_60 ?_
              refine a_iload_n 1 dX9_wheel_88 rfl ?_
              refine a_gd h (fun c13 h => ?_)
              refine a_iald (x' := wi a1) dX9_wheel_89 rfl rfl c13 rfl ?_
              refine a_if_le 112 dX9_wheel_90 (by decide) rfl h (fun c14 h => ?_) (fun c14 h => ?_)
              · skip
                refine a_iconst dX9_wheel_112 ?_
                exact a_iret dX9_wheel_113 rfl (s_inj h) rfl
              · skip
                refine a_aload_n 0 dX9_wheel_93 rfl ?_
                refine a_getR (j := 23) dX9_wheel_94 KX9 rfl (by decide) rfl kf_RX9_60 ?_
                refine a_iload_n 1 dX9_wheel_97 rfl ?_
                refine a_gd h (fun c15 h => ?_)
                refine a_iald (x' := wi a1) dX9_wheel_98 rfl rfl c15 rfl ?_
                refine a_aload_n 0 dX9_wheel_99 rfl ?_
                refine a_getR (j := 9) dX9_wheel_100 KX9 rfl (by decide) rfl kf_RX9_32 ?_
                refine a_iload_n 1 dX9_wheel_103 rfl ?_
                refine a_gd h (fun c16 h => ?_)
                refine a_iald (x' := wi a1) dX9_wheel_104 rfl rfl c16 rfl ?_
                refine a_icmp_ge 112 dX9_wheel_105 (by decide) rfl rfl h (fun c17 h => ?_) (fun c17 h => ?_)
                · skip
                  refine a_iconst dX9_wheel_112 ?_
                  exact a_iret dX9_wheel_113 rfl (s_inj h) rfl
                · skip
                  refine a_iconst dX9_wheel_108 ?_
                  refine a_goto 113 dX9_wheel_109 (by decide) ?_
                  exact a_iret dX9_wheel_113 rfl (s_inj h) rfl
            · skip
              refine a_if h (fun c18 h => ?_) (fun c18 h => ?_)
              · skip
                refine a_tsIn (off := 103) 114 dX9_wheel_11 c18 (by decide) (by decide) (by decide) ?_
                refine a_aload_n 0 dX9_wheel_114 rfl ?_
                refine a_getR (j := 24) dX9_wheel_115 KX9 rfl (by decide) rfl kf_RX9_63 ?_
                refine a_iload_n 1 dX9_wheel_118 rfl ?_
                refine a_gd h (fun c19 h => ?_)
                refine a_zald (x' := wi a1) dX9_wheel_119 rfl rfl c19 rfl ?_
                refine a_if_eq 127 dX9_wheel_120 (by decide) rfl h (fun c20 h => ?_) (fun c20 h => ?_)
                · skip
                  refine a_iconst dX9_wheel_127 ?_
                  exact a_iret dX9_wheel_128 rfl (s_inj h) rfl
                · skip
                  refine a_iconst dX9_wheel_123 ?_
                  refine a_goto 128 dX9_wheel_124 (by decide) ?_
                  exact a_iret dX9_wheel_128 rfl (s_inj h) rfl
              · skip
                refine a_if h (fun c21 h => ?_) (fun c21 h => ?_)
                · skip
                  refine a_tsIn (off := 118) 129 dX9_wheel_11 c21 (by decide) (by decide) (by decide) ?_
                  refine a_aload_n 0 dX9_wheel_129 rfl ?_
                  refine a_iload_n 1 dX9_wheel_130 rfl ?_
                  refine a_aload_n 0 dX9_wheel_131 rfl ?_
                  refine a_getR (j := 22) dX9_wheel_132 KX9 rfl (by decide) rfl kf_RX9_57 ?_
                  refine a_iload_n 1 dX9_wheel_135 rfl ?_
                  refine a_gd h (fun c22 h => ?_)
                  refine a_iald (x' := wi a1) dX9_wheel_136 rfl rfl c22 rfl ?_
                  refine bp_s h (fun r23 e24 h => ?_)
                  refine a_callVI dX9_wheel_137 mX9_goodOf KX9 rfl kv_X9_goodOf ks_X9_goodOf rfl km_RX9_168 rfl (T_X9_goodOf e24) (fun _ => rfl) rfl (Nat.le_of_ble_eq_true rfl) (Nat.le_of_ble_eq_true rfl) ⟨(Nat.le_of_ble_eq_true rfl), (Nat.le_of_ble_eq_true rfl)⟩ (Nat.le_of_ble_eq_true rfl) ?_
                  exact a_iret dX9_wheel_140 rfl (s_inj h) rfl
                · skip
                  refine a_if h (fun c25 h => ?_) (fun c25 h => ?_)
                  · skip
                    refine a_tsIn (off := 130) 141 dX9_wheel_11 c25 (by decide) (by decide) (by decide) ?_
                    refine a_aload_n 0 dX9_wheel_141 rfl ?_
                    refine a_iload_n 1 dX9_wheel_142 rfl ?_
                    refine a_aload_n 0 dX9_wheel_143 rfl ?_
                    refine a_getR (j := 22) dX9_wheel_144 KX9 rfl (by decide) rfl kf_RX9_57 ?_
                    refine a_iload_n 1 dX9_wheel_147 rfl ?_
                    refine a_gd h (fun c26 h => ?_)
                    refine a_iald (x' := wi a1) dX9_wheel_148 rfl rfl c26 rfl ?_
                    refine a_aload_n 0 dX9_wheel_149 rfl ?_
                    refine a_getR (j := 23) dX9_wheel_150 KX9 rfl (by decide) rfl kf_RX9_60 ?_
                    refine a_iload_n 1 dX9_wheel_153 rfl ?_
                    refine a_gd h (fun c27 h => ?_)
                    refine a_iald (x' := wi a1) dX9_wheel_154 rfl rfl c27 rfl ?_
                    refine a_aload_n 0 dX9_wheel_155 rfl ?_
                    refine a_getR (j := 17) dX9_wheel_156 KX9 rfl (by decide) rfl kf_RX9_41 ?_
                    refine a_iconst dX9_wheel_159 ?_
                    refine a_iald (x' := 0) dX9_wheel_160 rfl (by decide) (by decide) rfl ?_
                    refine bp_s h (fun r28 e29 h => ?_)
                    refine a_callVI dX9_wheel_161 mX9_goes KX9 rfl kv_X9_goes ks_X9_goes rfl km_RX9_171 rfl (T_X9_goes e29) (fun _ => rfl) rfl (Nat.le_of_ble_eq_true rfl) (Nat.le_of_ble_eq_true rfl) ⟨(Nat.le_of_ble_eq_true rfl), (Nat.le_of_ble_eq_true rfl)⟩ (Nat.le_of_ble_eq_true rfl) ?_
                    exact a_iret dX9_wheel_164 rfl (s_inj h) rfl
                  · skip
                    refine a_tsOut (v := wi a2) 165 dX9_wheel_11 rfl (by omega) (by decide) ?_
                    refine a_iconst dX9_wheel_165 ?_
                    exact a_iret dX9_wheel_166 rfl (s_inj h) rfl
  · skip
    refine a_iconst dX9_wheel_8 ?_
    exact a_iret dX9_wheel_9 rfl (s_inj h) rfl

def X9_week (σ : sM) (a1 a2 : Int) : Option Int := bp (X9_in σ a1 0 7) (fun r1 => if wi r1 = 0 then some (-1) else bp (X9_in σ a2 0 1) (fun r4 => if wi r4 = 0 then some (-1) else if ¬ wi a2 = 0 then if 0 ≤ wi a1 ∧ wi a1 < 16 then some (σ 65 (wi a1).toNat) else none else if 0 ≤ wi a1 ∧ wi a1 < 16 then some (σ 64 (wi a1).toNat) else none))
set_option maxRecDepth 100000 in
set_option maxHeartbeats 400000 in
theorem T_X9_week {G : sG} {q_0 : qT} {x_0 : List Nat} {σ : sM} {r_0 : Int} {a1 a2 : Int}  (h : X9_week σ a1 a2 = some r_0) : aM G yX9_week cX9_week 3 (some .int) 1 0 0 [.ref (gP G 55), vI a1, vI a2] (mkSh q_0 x_0, σ) (r_0, (mkSh q_0 x_0, σ)) := by
  unfold X9_week at h
  refine aM_of (by decide) (Nat.le_of_ble_eq_true rfl) ?_
  show aW G cX9_week RX9 "week" 3 (some .int) _ _ aX 0 0 _ [(0, .ref (gP G 55)), (1, vI a1), (2, vI a2)] 0 []
  refine a_iload_n 1 dX9_week_0 rfl ?_
  refine a_iconst dX9_week_1 ?_
  refine a_bipush dX9_week_2 (by decide) ?_
  refine bp_s h (fun r1 e2 h => ?_)
  refine a_callSI dX9_week_4 mX9_in kv_X9_in km_RX9_103 rfl (T_X9_in e2) (fun _ => rfl) rfl (Nat.le_of_ble_eq_true rfl) (Nat.le_of_ble_eq_true rfl) ⟨(Nat.le_of_ble_eq_true rfl), (Nat.le_of_ble_eq_true rfl)⟩ (Nat.le_of_ble_eq_true rfl) ?_
  refine a_if_eq 41 dX9_week_7 (by decide) rfl h (fun c3 h => ?_) (fun c3 h => ?_)
  · skip
    refine a_iconst dX9_week_41 ?_
    exact a_iret dX9_week_42 rfl (s_inj h) rfl
  · skip
    refine a_iload_n 2 dX9_week_10 rfl ?_
    refine a_iconst dX9_week_11 ?_
    refine a_iconst dX9_week_12 ?_
    refine bp_s h (fun r4 e5 h => ?_)
    refine a_callSI dX9_week_13 mX9_in kv_X9_in km_RX9_103 rfl (T_X9_in e5) (fun _ => rfl) rfl (Nat.le_of_ble_eq_true rfl) (Nat.le_of_ble_eq_true rfl) ⟨(Nat.le_of_ble_eq_true rfl), (Nat.le_of_ble_eq_true rfl)⟩ (Nat.le_of_ble_eq_true rfl) ?_
    refine a_if_eq 41 dX9_week_16 (by decide) rfl h (fun c6 h => ?_) (fun c6 h => ?_)
    · skip
      refine a_iconst dX9_week_41 ?_
      exact a_iret dX9_week_42 rfl (s_inj h) rfl
    · skip
      refine a_iload_n 2 dX9_week_19 rfl ?_
      refine a_if_ne 32 dX9_week_20 (by decide) rfl h (fun c7 h => ?_) (fun c7 h => ?_)
      · skip
        refine a_aload_n 0 dX9_week_32 rfl ?_
        refine a_getR (j := 11) dX9_week_33 KX9 rfl (by decide) rfl kf_RX9_38 ?_
        refine a_iload_n 1 dX9_week_36 rfl ?_
        refine a_gd h (fun c8 h => ?_)
        refine a_iald (x' := wi a1) dX9_week_37 rfl rfl c8 rfl ?_
        refine a_goto 42 dX9_week_38 (by decide) ?_
        exact a_iret dX9_week_42 rfl (s_inj h) rfl
      · skip
        refine a_aload_n 0 dX9_week_23 rfl ?_
        refine a_getR (j := 10) dX9_week_24 KX9 rfl (by decide) rfl kf_RX9_35 ?_
        refine a_iload_n 1 dX9_week_27 rfl ?_
        refine a_gd h (fun c9 h => ?_)
        refine a_iald (x' := wi a1) dX9_week_28 rfl rfl c9 rfl ?_
        refine a_goto 42 dX9_week_29 (by decide) ?_
        exact a_iret dX9_week_42 rfl (s_inj h) rfl

def X9_place (σ : sM) (a1 a2 a3 : Int) : Option (Int × sM) := bp (X9_isWheel σ a1) (fun r1 => if wi r1 = 0 then some ((-1), σ) else bp (X9_in σ a2 0 3) (fun r4 => if wi r4 = 0 then some ((-1), σ) else if 0 ≤ wi a1 ∧ wi a1 < 6 then bp (X9_in σ a3 0 (σ 63 (wi a1).toNat)) (fun r8 => if ¬ wi r8 = 0 then if 0 ≤ wi a1 ∧ wi a1 < 9 then if 0 ≤ wi a1 ∧ wi a1 < 9 then nm ((10 * (σ 71 (wi a1).toNat)) + (σ 72 (wi a1).toNat)) (fun y13 => if 0 ≤ wi a1 ∧ wi a1 < 9 then if 0 ≤ wi a1 ∧ wi a1 < 9 then some (y13, (sU (sU σ 71 (wi a1).toNat a2) 72 (wi a1).toNat a3)) else none else none) else none else none else some ((-1), σ)) else none))
set_option maxRecDepth 100000 in
set_option maxHeartbeats 400000 in
theorem T_X9_place {G : sG} {q_0 : qT} {x_0 : List Nat} {σ s_0 : sM} {r_0 : Int} {a1 a2 a3 : Int}  (h : X9_place σ a1 a2 a3 = some (r_0, s_0)) : aM G yX9_place cX9_place 5 (some .int) 2 0 0 [.ref (gP G 55), vI a1, vI a2, vI a3] (mkSh q_0 x_0, σ) (r_0, (mkSh q_0 x_0, s_0)) := by
  unfold X9_place at h
  refine aM_of (by decide) (Nat.le_of_ble_eq_true rfl) ?_
  show aW G cX9_place RX9 "place" 5 (some .int) _ _ aX 0 0 _ [(0, .ref (gP G 55)), (1, vI a1), (2, vI a2), (3, vI a3)] 0 []
  refine a_aload_n 0 dX9_place_0 rfl ?_
  refine a_iload_n 1 dX9_place_1 rfl ?_
  refine bp_s h (fun r1 e2 h => ?_)
  refine a_callVI dX9_place_2 mX9_isWheel KX9 rfl kv_X9_isWheel ks_X9_isWheel rfl km_RX9_164 rfl (T_X9_isWheel e2) (fun _ => rfl) rfl (Nat.le_of_ble_eq_true rfl) (Nat.le_of_ble_eq_true rfl) ⟨(Nat.le_of_ble_eq_true rfl), (Nat.le_of_ble_eq_true rfl)⟩ (Nat.le_of_ble_eq_true rfl) ?_
  refine a_if_eq 31 dX9_place_5 (by decide) rfl h (fun c3 h => ?_) (fun c3 h => ?_)
  · skip
    refine a_iconst dX9_place_31 ?_
    exact a_iret dX9_place_32 rfl (p_1 h) (p_S (p_2 h))
  · skip
    refine a_iload_n 2 dX9_place_8 rfl ?_
    refine a_iconst dX9_place_9 ?_
    refine a_iconst dX9_place_10 ?_
    refine bp_s h (fun r4 e5 h => ?_)
    refine a_callSI dX9_place_11 mX9_in kv_X9_in km_RX9_103 rfl (T_X9_in e5) (fun _ => rfl) rfl (Nat.le_of_ble_eq_true rfl) (Nat.le_of_ble_eq_true rfl) ⟨(Nat.le_of_ble_eq_true rfl), (Nat.le_of_ble_eq_true rfl)⟩ (Nat.le_of_ble_eq_true rfl) ?_
    refine a_if_eq 31 dX9_place_14 (by decide) rfl h (fun c6 h => ?_) (fun c6 h => ?_)
    · skip
      refine a_iconst dX9_place_31 ?_
      exact a_iret dX9_place_32 rfl (p_1 h) (p_S (p_2 h))
    · skip
      refine a_iload_n 3 dX9_place_17 rfl ?_
      refine a_iconst dX9_place_18 ?_
      refine a_aload_n 0 dX9_place_19 rfl ?_
      refine a_getR (j := 9) dX9_place_20 KX9 rfl (by decide) rfl kf_RX9_32 ?_
      refine a_iload_n 1 dX9_place_23 rfl ?_
      refine a_gd h (fun c7 h => ?_)
      refine a_iald (x' := wi a1) dX9_place_24 rfl rfl c7 rfl ?_
      refine bp_s h (fun r8 e9 h => ?_)
      refine a_callSI dX9_place_25 mX9_in kv_X9_in km_RX9_103 rfl (T_X9_in e9) (fun _ => rfl) rfl (Nat.le_of_ble_eq_true rfl) (Nat.le_of_ble_eq_true rfl) ⟨(Nat.le_of_ble_eq_true rfl), (Nat.le_of_ble_eq_true rfl)⟩ (Nat.le_of_ble_eq_true rfl) ?_
      refine a_if_ne 33 dX9_place_28 (by decide) rfl h (fun c10 h => ?_) (fun c10 h => ?_)
      · skip
        refine a_bipush dX9_place_33 (by decide) ?_
        refine a_aload_n 0 dX9_place_35 rfl ?_
        refine a_getR (j := 22) dX9_place_36 KX9 rfl (by decide) rfl kf_RX9_57 ?_
        refine a_iload_n 1 dX9_place_39 rfl ?_
        refine a_gd h (fun c11 h => ?_)
        refine a_iald (x' := wi a1) dX9_place_40 rfl rfl c11 rfl ?_
        refine a_imul dX9_place_41 ?_
        refine a_aload_n 0 dX9_place_42 rfl ?_
        refine a_getR (j := 23) dX9_place_43 KX9 rfl (by decide) rfl kf_RX9_60 ?_
        refine a_iload_n 1 dX9_place_46 rfl ?_
        refine a_gd h (fun c12 h => ?_)
        refine a_iald (x' := wi a1) dX9_place_47 rfl rfl c12 rfl ?_
        refine a_iadd dX9_place_48 ?_
        refine a_nmI h (fun y13 w14 h => ?_)
        refine a_istore (L' := [(4, vI y13), (0, .ref (gP G 55)), (1, vI a1), (2, vI a2), (3, vI a3)]) dX9_place_49 (by decide) rfl ?_
        refine a_aload_n 1 dX9_place_51 rfl ?_
        refine a_getR (j := 22) dX9_place_52 KX9 rfl (by decide) rfl kf_RX9_57 ?_
        refine a_iload_n 2 dX9_place_55 rfl ?_
        refine a_iload_n 3 dX9_place_56 rfl ?_
        refine a_gd h (fun c15 h => ?_)
        refine a_iast (x' := wi a1) dX9_place_57 rfl rfl c15 rfl ?_
        refine a_aload_n 1 dX9_place_58 rfl ?_
        refine a_getR (j := 23) dX9_place_59 KX9 rfl (by decide) rfl kf_RX9_60 ?_
        refine a_iload_n 2 dX9_place_62 rfl ?_
        refine a_iload_n 4 dX9_place_63 rfl ?_
        refine a_gd h (fun c16 h => ?_)
        refine a_iast (x' := wi a1) dX9_place_64 rfl rfl c16 rfl ?_
        refine a_iload 0 dX9_place_65 rfl ?_
        exact a_iret dX9_place_67 rfl (p_1 h) (p_S (p_2 h))
      · skip
        refine a_iconst dX9_place_31 ?_
        exact a_iret dX9_place_32 rfl (p_1 h) (p_S (p_2 h))

def X9_stateNow (F : Nat) (σ : sM) : Option Int := lp (fun K2 (q1 : Int × Int) => if wi q1.2 < 0 then some q1.1 else if 0 ≤ wi q1.2 ∧ wi q1.2 < 9 then if 0 ≤ wi q1.2 ∧ wi q1.2 < 9 then nm (((16 * q1.1) + (4 * (σ 71 (wi q1.2).toNat))) + (σ 72 (wi q1.2).toNat)) (fun y6 => K2 (y6, q1.2 + (-1))) else none else none) F (0, (σ 58 0) - 1)
set_option maxRecDepth 100000 in
set_option maxHeartbeats 400000 in
theorem T_X9_stateNow {G : sG} {q_0 : qT} {x_0 : List Nat} {σ : sM} {r_0 : Int} {F : Nat}  (h : X9_stateNow F σ = some r_0) : aM G yX9_stateNow cX9_stateNow 3 (some .int) 0 0 0 [.ref (gP G 55)] (mkSh q_0 x_0, σ) (r_0, (mkSh q_0 x_0, σ)) := by
  unfold X9_stateNow at h
  refine aM_of (by decide) (Nat.le_of_ble_eq_true rfl) ?_
  show aW G cX9_stateNow RX9 "stateNow" 3 (some .int) _ _ aX 0 0 _ [(0, .ref (gP G 55))] 0 []
  refine a_iconst dX9_stateNow_0 ?_
  refine a_istore_n (L' := [(1, vI 0), (0, .ref (gP G 55))]) dX9_stateNow_1 (by decide) rfl ?_
  refine a_aload_n 1 dX9_stateNow_2 rfl ?_
  refine a_getR (j := 4) dX9_stateNow_3 KX9 rfl (by decide) rfl kf_RX9_17 ?_
  refine a_iconst dX9_stateNow_6 ?_
  refine a_iald (x' := 0) dX9_stateNow_7 rfl (by decide) (by decide) rfl ?_
  refine a_iconst dX9_stateNow_8 ?_
  refine a_isub dX9_stateNow_9 ?_
  refine a_istore_n (L' := [(2, vI ((σ 58 0) - 1)), (1, vI 0), (0, .ref (gP G 55))]) dX9_stateNow_10 (by decide) rfl ?_
  refine a_sub (L' := [(0, .ref (gP G 55)), (1, vI 0), (2, vI ((σ 58 0) - 1))]) [2, 1, 0] rfl (lp_s (x := (0, (σ 58 0) - 1)) (fun q1 : Int × Int => aW G cX9_stateNow RX9 "stateNow" 3 (some .int) (sR 0 0 0) (aQ G (some .int) 0 0 (r_0, (mkSh q_0 x_0, σ))) aX 0 0 (mkSh q_0 x_0, σ) [(0, .ref (gP G 55)), (1, vI q1.1), (2, vI q1.2)] 11 []) h (fun K2 hK2 q1 h => ?_))
  refine a_iload_n 2 dX9_stateNow_11 rfl ?_
  refine a_if_lt 42 dX9_stateNow_12 (by decide) rfl h (fun c3 h => ?_) (fun c3 h => ?_)
  · skip
    refine a_iload_n 1 dX9_stateNow_42 rfl ?_
    exact a_iret dX9_stateNow_43 rfl (s_inj h) rfl
  · skip
    refine a_bipush dX9_stateNow_15 (by decide) ?_
    refine a_iload_n 1 dX9_stateNow_17 rfl ?_
    refine a_imul dX9_stateNow_18 ?_
    refine a_iconst dX9_stateNow_19 ?_
    refine a_aload_n 0 dX9_stateNow_20 rfl ?_
    refine a_getR (j := 22) dX9_stateNow_21 KX9 rfl (by decide) rfl kf_RX9_57 ?_
    refine a_iload_n 2 dX9_stateNow_24 rfl ?_
    refine a_gd h (fun c4 h => ?_)
    refine a_iald (x' := wi q1.2) dX9_stateNow_25 rfl rfl c4 rfl ?_
    refine a_imul dX9_stateNow_26 ?_
    refine a_iadd dX9_stateNow_27 ?_
    refine a_aload_n 0 dX9_stateNow_28 rfl ?_
    refine a_getR (j := 23) dX9_stateNow_29 KX9 rfl (by decide) rfl kf_RX9_60 ?_
    refine a_iload_n 2 dX9_stateNow_32 rfl ?_
    refine a_gd h (fun c5 h => ?_)
    refine a_iald (x' := wi q1.2) dX9_stateNow_33 rfl rfl c5 rfl ?_
    refine a_iadd dX9_stateNow_34 ?_
    refine a_nmI h (fun y6 w7 h => ?_)
    refine a_istore_n (L' := [(1, vI y6), (0, .ref (gP G 55)), (2, vI q1.2)]) dX9_stateNow_35 (by decide) rfl ?_
    refine a_iinc (L' := [(2, vI (q1.2 + (-1))), (1, vI y6), (0, .ref (gP G 55))]) 2 dX9_stateNow_36 rfl (by decide) rfl ?_
    refine a_goto 11 dX9_stateNow_39 (by decide) ?_
    have hh := hK2 _ h
    exact a_sub [2, 1, 0] rfl hh

def X9_codeOf (σ : sM) (a0 a1 : Int) : Option Int := some (q_and (q_shr a0 (4 * a1)) 15)
set_option maxRecDepth 100000 in
set_option maxHeartbeats 400000 in
theorem T_X9_codeOf {G : sG} {q_0 : qT} {x_0 : List Nat} {σ : sM} {r_0 : Int} {a0 a1 : Int}  (h : X9_codeOf σ a0 a1 = some r_0) : aM G yX9_codeOf cX9_codeOf 2 (some .int) 0 0 0 [vI a0, vI a1] (mkSh q_0 x_0, σ) (r_0, (mkSh q_0 x_0, σ)) := by
  unfold X9_codeOf at h
  refine aM_of (by decide) (Nat.le_of_ble_eq_true rfl) ?_
  show aW G cX9_codeOf RX9 "codeOf" 2 (some .int) _ _ aX 0 0 _ [(0, vI a0), (1, vI a1)] 0 []
  refine a_iload_n 0 dX9_codeOf_0 rfl ?_
  refine a_iconst dX9_codeOf_1 ?_
  refine a_iload_n 1 dX9_codeOf_2 rfl ?_
  refine a_imul dX9_codeOf_3 ?_
  refine a_ishr dX9_codeOf_4 ?_
  refine a_bipush dX9_codeOf_5 (by decide) ?_
  refine a_iand dX9_codeOf_7 ?_
  exact a_iret dX9_codeOf_8 rfl (s_inj h) rfl

def X9_isOpenIn (σ : sM) (a1 a2 : Int) : Option Int := bp (X9_codeOf σ a1 a2) (fun r1 => if wi (q_and r1 3) ≤ 0 then some 0 else if 0 ≤ wi a2 ∧ wi a2 < 6 then if wi (σ 63 (wi a2).toNat) ≤ wi (q_and r1 3) then some 0 else some 1 else none)
set_option maxRecDepth 100000 in
set_option maxHeartbeats 400000 in
theorem T_X9_isOpenIn {G : sG} {q_0 : qT} {x_0 : List Nat} {σ : sM} {r_0 : Int} {a1 a2 : Int}  (h : X9_isOpenIn σ a1 a2 = some r_0) : aM G yX9_isOpenIn cX9_isOpenIn 4 (some .boolean) 1 0 0 [.ref (gP G 55), vI a1, vI a2] (mkSh q_0 x_0, σ) (r_0, (mkSh q_0 x_0, σ)) := by
  unfold X9_isOpenIn at h
  refine aM_of (by decide) (Nat.le_of_ble_eq_true rfl) ?_
  show aW G cX9_isOpenIn RX9 "isOpenIn" 4 (some .boolean) _ _ aX 0 0 _ [(0, .ref (gP G 55)), (1, vI a1), (2, vI a2)] 0 []
  refine a_iload_n 1 dX9_isOpenIn_0 rfl ?_
  refine a_iload_n 2 dX9_isOpenIn_1 rfl ?_
  refine bp_s h (fun r1 e2 h => ?_)
  refine a_callSI dX9_isOpenIn_2 mX9_codeOf kv_X9_codeOf km_RX9_175 rfl (T_X9_codeOf e2) (fun _ => rfl) rfl (Nat.le_of_ble_eq_true rfl) (Nat.le_of_ble_eq_true rfl) ⟨(Nat.le_of_ble_eq_true rfl), (Nat.le_of_ble_eq_true rfl)⟩ (Nat.le_of_ble_eq_true rfl) ?_
  refine a_iconst dX9_isOpenIn_5 ?_
  refine a_iand dX9_isOpenIn_6 ?_
  refine a_istore_n (L' := [(3, vI (q_and r1 3)), (0, .ref (gP G 55)), (1, vI a1), (2, vI a2)]) dX9_isOpenIn_7 (by decide) rfl ?_
  refine a_iload_n 0 dX9_isOpenIn_8 rfl ?_
  refine a_if_le 26 dX9_isOpenIn_9 (by decide) rfl h (fun c3 h => ?_) (fun c3 h => ?_)
  · skip
    refine a_iconst dX9_isOpenIn_26 ?_
    exact a_zret dX9_isOpenIn_27 rfl (by decide) (s_inj h) rfl
  · skip
    refine a_iload_n 0 dX9_isOpenIn_12 rfl ?_
    refine a_aload_n 1 dX9_isOpenIn_13 rfl ?_
    refine a_getR (j := 9) dX9_isOpenIn_14 KX9 rfl (by decide) rfl kf_RX9_32 ?_
    refine a_iload_n 3 dX9_isOpenIn_17 rfl ?_
    refine a_gd h (fun c4 h => ?_)
    refine a_iald (x' := wi a2) dX9_isOpenIn_18 rfl rfl c4 rfl ?_
    refine a_icmp_ge 26 dX9_isOpenIn_19 (by decide) rfl rfl h (fun c5 h => ?_) (fun c5 h => ?_)
    · skip
      refine a_iconst dX9_isOpenIn_26 ?_
      exact a_zret dX9_isOpenIn_27 rfl (by decide) (s_inj h) rfl
    · skip
      refine a_iconst dX9_isOpenIn_22 ?_
      refine a_goto 27 dX9_isOpenIn_23 (by decide) ?_
      exact a_zret dX9_isOpenIn_27 rfl (by decide) (s_inj h) rfl

def X9_mayEat (F : Nat) (σ : sM) (a1 a2 : Int) : Option Int := bp (X9_isWheel σ a2) (fun r1 => if ¬ wi r1 = 0 then bp (X9_codeOf σ a1 a2) (fun r4 => lp (fun K7 (q6 : Int × Int) => if wi (σ 58 0) ≤ wi q6.2 then if wi (q_and r4 3) ≤ 0 then some 0 else if 0 ≤ wi a2 ∧ wi a2 < 6 then if wi (q_and r4 3) < wi (σ 63 (wi a2).toNat) then some 1 else if wi (σ 60 0) ≤ wi q6.1 then some 0 else some 1 else none else jn (fun q13 : Int => K7 (q6.1 + q13, q6.2 + 1)) (fun K14 => jn (fun q15 : Unit => K14 0) (fun K16 => if wi q6.2 = wi a2 then K16 () else bp (X9_isOpenIn σ a1 q6.2) (fun r18 => if wi r18 = 0 then K16 () else K14 1)))) F (0, 0)) else some 0)
set_option maxRecDepth 100000 in
set_option maxHeartbeats 400000 in
theorem T_X9_mayEat {G : sG} {q_0 : qT} {x_0 : List Nat} {σ : sM} {r_0 : Int} {a1 a2 : Int} {F : Nat}  (h : X9_mayEat F σ a1 a2 = some r_0) : aM G yX9_mayEat cX9_mayEat 6 (some .boolean) 2 0 0 [.ref (gP G 55), vI a1, vI a2] (mkSh q_0 x_0, σ) (r_0, (mkSh q_0 x_0, σ)) := by
  unfold X9_mayEat at h
  refine aM_of (by decide) (Nat.le_of_ble_eq_true rfl) ?_
  show aW G cX9_mayEat RX9 "mayEat" 6 (some .boolean) _ _ aX 0 0 _ [(0, .ref (gP G 55)), (1, vI a1), (2, vI a2)] 0 []
  refine a_aload_n 0 dX9_mayEat_0 rfl ?_
  refine a_iload_n 2 dX9_mayEat_1 rfl ?_
  refine bp_s h (fun r1 e2 h => ?_)
  refine a_callVI dX9_mayEat_2 mX9_isWheel KX9 rfl kv_X9_isWheel ks_X9_isWheel rfl km_RX9_164 rfl (T_X9_isWheel e2) (fun _ => rfl) rfl (Nat.le_of_ble_eq_true rfl) (Nat.le_of_ble_eq_true rfl) ⟨(Nat.le_of_ble_eq_true rfl), (Nat.le_of_ble_eq_true rfl)⟩ (Nat.le_of_ble_eq_true rfl) ?_
  refine a_if_ne 10 dX9_mayEat_5 (by decide) rfl h (fun c3 h => ?_) (fun c3 h => ?_)
  · skip
    refine a_iload_n 1 dX9_mayEat_10 rfl ?_
    refine a_iload_n 2 dX9_mayEat_11 rfl ?_
    refine bp_s h (fun r4 e5 h => ?_)
    refine a_callSI dX9_mayEat_12 mX9_codeOf kv_X9_codeOf km_RX9_175 rfl (T_X9_codeOf e5) (fun _ => rfl) rfl (Nat.le_of_ble_eq_true rfl) (Nat.le_of_ble_eq_true rfl) ⟨(Nat.le_of_ble_eq_true rfl), (Nat.le_of_ble_eq_true rfl)⟩ (Nat.le_of_ble_eq_true rfl) ?_
    refine a_iconst dX9_mayEat_15 ?_
    refine a_iand dX9_mayEat_16 ?_
    refine a_istore_n (L' := [(3, vI (q_and r4 3)), (0, .ref (gP G 55)), (1, vI a1), (2, vI a2)]) dX9_mayEat_17 (by decide) rfl ?_
    refine a_iconst dX9_mayEat_18 ?_
    refine a_istore (L' := [(4, vI 0), (3, vI (q_and r4 3)), (0, .ref (gP G 55)), (1, vI a1), (2, vI a2)]) dX9_mayEat_19 (by decide) rfl ?_
    refine a_iconst dX9_mayEat_21 ?_
    refine a_istore (L' := [(5, vI 0), (4, vI 0), (3, vI (q_and r4 3)), (0, .ref (gP G 55)), (1, vI a1), (2, vI a2)]) dX9_mayEat_22 (by decide) rfl ?_
    refine a_sub (L' := [(0, .ref (gP G 55)), (1, vI a1), (2, vI a2), (3, vI (q_and r4 3)), (4, vI 0), (5, vI 0)]) [3, 4, 5, 2, 1, 0] rfl (lp_s (x := (0, 0)) (fun q6 : Int × Int => aW G cX9_mayEat RX9 "mayEat" 6 (some .boolean) (sR 2 0 0) (aQ G (some .boolean) 0 0 (r_0, (mkSh q_0 x_0, σ))) aX 0 0 (mkSh q_0 x_0, σ) [(0, .ref (gP G 55)), (1, vI a1), (2, vI a2), (3, vI (q_and r4 3)), (4, vI q6.1), (5, vI q6.2)] 24 []) h (fun K7 hK7 q6 h => ?_))
    refine a_iload 5 dX9_mayEat_24 rfl ?_
    refine a_aload_n 0 dX9_mayEat_26 rfl ?_
    refine a_getR (j := 4) dX9_mayEat_27 KX9 rfl (by decide) rfl kf_RX9_17 ?_
    refine a_iconst dX9_mayEat_30 ?_
    refine a_iald (x' := 0) dX9_mayEat_31 rfl (by decide) (by decide) rfl ?_
    refine a_icmp_ge 67 dX9_mayEat_32 (by decide) rfl rfl h (fun c8 h => ?_) (fun c8 h => ?_)
    · skip
      refine a_iload_n 3 dX9_mayEat_67 rfl ?_
      refine a_if_le 96 dX9_mayEat_68 (by decide) rfl h (fun c9 h => ?_) (fun c9 h => ?_)
      · skip
        refine a_iconst dX9_mayEat_96 ?_
        exact a_zret dX9_mayEat_97 rfl (by decide) (s_inj h) rfl
      · skip
        refine a_iload_n 3 dX9_mayEat_71 rfl ?_
        refine a_aload_n 0 dX9_mayEat_72 rfl ?_
        refine a_getR (j := 9) dX9_mayEat_73 KX9 rfl (by decide) rfl kf_RX9_32 ?_
        refine a_iload_n 2 dX9_mayEat_76 rfl ?_
        refine a_gd h (fun c10 h => ?_)
        refine a_iald (x' := wi a2) dX9_mayEat_77 rfl rfl c10 rfl ?_
        refine a_icmp_lt 92 dX9_mayEat_78 (by decide) rfl rfl h (fun c11 h => ?_) (fun c11 h => ?_)
        · skip
          refine a_iconst dX9_mayEat_92 ?_
          refine a_goto 97 dX9_mayEat_93 (by decide) ?_
          exact a_zret dX9_mayEat_97 rfl (by decide) (s_inj h) rfl
        · skip
          refine a_iload 4 dX9_mayEat_81 rfl ?_
          refine a_aload_n 0 dX9_mayEat_83 rfl ?_
          refine a_getR (j := 6) dX9_mayEat_84 KX9 rfl (by decide) rfl kf_RX9_23 ?_
          refine a_iconst dX9_mayEat_87 ?_
          refine a_iald (x' := 0) dX9_mayEat_88 rfl (by decide) (by decide) rfl ?_
          refine a_icmp_ge 96 dX9_mayEat_89 (by decide) rfl rfl h (fun c12 h => ?_) (fun c12 h => ?_)
          · skip
            refine a_iconst dX9_mayEat_96 ?_
            exact a_zret dX9_mayEat_97 rfl (by decide) (s_inj h) rfl
          · skip
            refine a_iconst dX9_mayEat_92 ?_
            refine a_goto 97 dX9_mayEat_93 (by decide) ?_
            exact a_zret dX9_mayEat_97 rfl (by decide) (s_inj h) rfl
    · skip
      refine a_iload 4 dX9_mayEat_35 rfl ?_
      refine a_iload 5 dX9_mayEat_37 rfl ?_
      refine a_iload_n 2 dX9_mayEat_39 rfl ?_
      refine jn_s (fun q13 : Int => aW G cX9_mayEat RX9 "mayEat" 6 (some .boolean) (sR 2 0 0) (aQ G (some .boolean) 0 0 (r_0, (mkSh q_0 x_0, σ))) aX 0 0 (mkSh q_0 x_0, σ) [(0, .ref (gP G 55)), (1, vI a1), (2, vI a2), (3, vI (q_and r4 3)), (5, vI q6.2)] 58 [vI q13, vI q6.1]) h (fun q13 h => ?_) (fun K14 hK14 h => ?_)
      · skip
        refine a_iadd dX9_mayEat_58 ?_
        refine a_istore (L' := [(4, vI (q6.1 + q13)), (0, .ref (gP G 55)), (1, vI a1), (2, vI a2), (3, vI (q_and r4 3)), (5, vI q6.2)]) dX9_mayEat_59 (by decide) rfl ?_
        refine a_iinc (L' := [(5, vI (q6.2 + 1)), (4, vI (q6.1 + q13)), (0, .ref (gP G 55)), (1, vI a1), (2, vI a2), (3, vI (q_and r4 3))]) 5 dX9_mayEat_61 rfl (by decide) rfl ?_
        refine a_goto 24 dX9_mayEat_64 (by decide) ?_
        have hh := hK7 _ h
        exact a_sub [2, 3, 4, 5, 1, 0] rfl hh
      · skip
        refine jn_s (fun q15 : Unit => aW G cX9_mayEat RX9 "mayEat" 6 (some .boolean) (sR 2 0 0) (aQ G (some .boolean) 0 0 (r_0, (mkSh q_0 x_0, σ))) aX 0 0 (mkSh q_0 x_0, σ) [(0, .ref (gP G 55)), (1, vI a1), (2, vI a2), (3, vI (q_and r4 3)), (5, vI q6.2)] 57 [vI q6.1]) h (fun q15 h => ?_) (fun K16 hK16 h => ?_)
        · skip
          refine a_iconst dX9_mayEat_57 ?_
          have hh := hK14 _ h
          exact a_sub [0, 1, 2, 3, 4] rfl hh
        · skip
          refine a_icmp_eq 57 dX9_mayEat_40 (by decide) rfl rfl h (fun c17 h => ?_) (fun c17 h => ?_)
          · skip
            have hh := hK16 _ h
            exact a_sub [0, 1, 2, 3, 5] rfl hh
          · skip
            refine a_aload_n 0 dX9_mayEat_43 rfl ?_
            refine a_iload_n 1 dX9_mayEat_44 rfl ?_
            refine a_iload 5 dX9_mayEat_45 rfl ?_
            refine bp_s h (fun r18 e19 h => ?_)
            refine a_callVI dX9_mayEat_47 mX9_isOpenIn KX9 rfl kv_X9_isOpenIn ks_X9_isOpenIn rfl km_RX9_178 rfl (T_X9_isOpenIn e19) (fun _ => rfl) rfl (Nat.le_of_ble_eq_true rfl) (Nat.le_of_ble_eq_true rfl) ⟨(Nat.le_of_ble_eq_true rfl), (Nat.le_of_ble_eq_true rfl)⟩ (Nat.le_of_ble_eq_true rfl) ?_
            refine a_if_eq 57 dX9_mayEat_50 (by decide) rfl h (fun c20 h => ?_) (fun c20 h => ?_)
            · skip
              have hh := hK16 _ h
              exact a_sub [0, 1, 2, 3, 5] rfl hh
            · skip
              refine a_iconst dX9_mayEat_53 ?_
              refine a_goto 58 dX9_mayEat_54 (by decide) ?_
              have hh := hK14 _ h
              exact a_sub [0, 1, 2, 3, 5] rfl hh
  · skip
    refine a_iconst dX9_mayEat_8 ?_
    exact a_zret dX9_mayEat_9 rfl (by decide) (s_inj h) rfl

def X9_maySell (σ : sM) (a1 a2 : Int) : Option Int := bp (X9_isWheel σ a2) (fun r1 => jn (fun q3 : Int => bp (X9_isWheel σ a2) (fun r5 => if wi r5 = 0 then some 0 else if 0 ≤ wi a2 ∧ wi a2 < 6 then if ¬ wi (q_and q3 3) = wi (σ 63 (wi a2).toNat) then some 0 else if 2 ≤ wi (q_shr q3 2) then some 0 else some 1 else none)) (fun K4 => if wi r1 = 0 then K4 0 else bp (X9_codeOf σ a1 a2) (fun r12 => K4 r12)))
set_option maxRecDepth 100000 in
set_option maxHeartbeats 400000 in
theorem T_X9_maySell {G : sG} {q_0 : qT} {x_0 : List Nat} {σ : sM} {r_0 : Int} {a1 a2 : Int}  (h : X9_maySell σ a1 a2 = some r_0) : aM G yX9_maySell cX9_maySell 4 (some .boolean) 2 0 0 [.ref (gP G 55), vI a1, vI a2] (mkSh q_0 x_0, σ) (r_0, (mkSh q_0 x_0, σ)) := by
  unfold X9_maySell at h
  refine aM_of (by decide) (Nat.le_of_ble_eq_true rfl) ?_
  show aW G cX9_maySell RX9 "maySell" 4 (some .boolean) _ _ aX 0 0 _ [(0, .ref (gP G 55)), (1, vI a1), (2, vI a2)] 0 []
  refine a_aload_n 0 dX9_maySell_0 rfl ?_
  refine a_iload_n 2 dX9_maySell_1 rfl ?_
  refine bp_s h (fun r1 e2 h => ?_)
  refine a_callVI dX9_maySell_2 mX9_isWheel KX9 rfl kv_X9_isWheel ks_X9_isWheel rfl km_RX9_164 rfl (T_X9_isWheel e2) (fun _ => rfl) rfl (Nat.le_of_ble_eq_true rfl) (Nat.le_of_ble_eq_true rfl) ⟨(Nat.le_of_ble_eq_true rfl), (Nat.le_of_ble_eq_true rfl)⟩ (Nat.le_of_ble_eq_true rfl) ?_
  refine jn_s (fun q3 : Int => aW G cX9_maySell RX9 "maySell" 4 (some .boolean) (sR 2 0 0) (aQ G (some .boolean) 0 0 (r_0, (mkSh q_0 x_0, σ))) aX 0 0 (mkSh q_0 x_0, σ) [(0, .ref (gP G 55)), (2, vI a2)] 17 [vI q3]) h (fun q3 h => ?_) (fun K4 hK4 h => ?_)
  · skip
    refine a_istore_n (L' := [(3, vI q3), (0, .ref (gP G 55)), (2, vI a2)]) dX9_maySell_17 (by decide) rfl ?_
    refine a_aload_n 1 dX9_maySell_18 rfl ?_
    refine a_iload_n 2 dX9_maySell_19 rfl ?_
    refine bp_s h (fun r5 e6 h => ?_)
    refine a_callVI dX9_maySell_20 mX9_isWheel KX9 rfl kv_X9_isWheel ks_X9_isWheel rfl km_RX9_164 rfl (T_X9_isWheel e6) (fun _ => rfl) rfl (Nat.le_of_ble_eq_true rfl) (Nat.le_of_ble_eq_true rfl) ⟨(Nat.le_of_ble_eq_true rfl), (Nat.le_of_ble_eq_true rfl)⟩ (Nat.le_of_ble_eq_true rfl) ?_
    refine a_if_eq 49 dX9_maySell_23 (by decide) rfl h (fun c7 h => ?_) (fun c7 h => ?_)
    · skip
      refine a_iconst dX9_maySell_49 ?_
      exact a_zret dX9_maySell_50 rfl (by decide) (s_inj h) rfl
    · skip
      refine a_iload_n 0 dX9_maySell_26 rfl ?_
      refine a_iconst dX9_maySell_27 ?_
      refine a_iand dX9_maySell_28 ?_
      refine a_aload_n 1 dX9_maySell_29 rfl ?_
      refine a_getR (j := 9) dX9_maySell_30 KX9 rfl (by decide) rfl kf_RX9_32 ?_
      refine a_iload_n 2 dX9_maySell_33 rfl ?_
      refine a_gd h (fun c8 h => ?_)
      refine a_iald (x' := wi a2) dX9_maySell_34 rfl rfl c8 rfl ?_
      refine a_icmp_ne 49 dX9_maySell_35 (by decide) rfl rfl h (fun c9 h => ?_) (fun c9 h => ?_)
      · skip
        refine a_iconst dX9_maySell_49 ?_
        exact a_zret dX9_maySell_50 rfl (by decide) (s_inj h) rfl
      · skip
        refine a_iload_n 0 dX9_maySell_38 rfl ?_
        refine a_iconst dX9_maySell_39 ?_
        refine a_ishr dX9_maySell_40 ?_
        refine a_iconst dX9_maySell_41 ?_
        refine a_icmp_ge 49 dX9_maySell_42 (by decide) rfl (by decide) h (fun c10 h => ?_) (fun c10 h => ?_)
        · skip
          refine a_iconst dX9_maySell_49 ?_
          exact a_zret dX9_maySell_50 rfl (by decide) (s_inj h) rfl
        · skip
          refine a_iconst dX9_maySell_45 ?_
          refine a_goto 50 dX9_maySell_46 (by decide) ?_
          exact a_zret dX9_maySell_50 rfl (by decide) (s_inj h) rfl
  · skip
    refine a_if_eq 16 dX9_maySell_5 (by decide) rfl h (fun c11 h => ?_) (fun c11 h => ?_)
    · skip
      refine a_iconst dX9_maySell_16 ?_
      have hh := hK4 _ h
      exact a_sub [0, 2] rfl hh
    · skip
      refine a_iload_n 1 dX9_maySell_8 rfl ?_
      refine a_iload_n 2 dX9_maySell_9 rfl ?_
      refine bp_s h (fun r12 e13 h => ?_)
      refine a_callSI dX9_maySell_10 mX9_codeOf kv_X9_codeOf km_RX9_175 rfl (T_X9_codeOf e13) (fun _ => rfl) rfl (Nat.le_of_ble_eq_true rfl) (Nat.le_of_ble_eq_true rfl) ⟨(Nat.le_of_ble_eq_true rfl), (Nat.le_of_ble_eq_true rfl)⟩ (Nat.le_of_ble_eq_true rfl) ?_
      refine a_goto 17 dX9_maySell_13 (by decide) ?_
      have hh := hK4 _ h
      exact a_sub [0, 2] rfl hh

def X9_mayDo (F : Nat) (σ : sM) (a1 a2 : Int) : Option Int := if wi a2 = 6 then some 1 else if 3 ≤ wi a2 then bp (X9_maySell σ a1 (a2 - 3)) (fun r3 => if wi r3 = 0 then some 0 else some 1) else bp (X9_mayEat F σ a1 a2) (fun r6 => if wi r6 = 0 then some 0 else some 1)
set_option maxRecDepth 100000 in
set_option maxHeartbeats 400000 in
theorem T_X9_mayDo {G : sG} {q_0 : qT} {x_0 : List Nat} {σ : sM} {r_0 : Int} {a1 a2 : Int} {F : Nat}  (h : X9_mayDo F σ a1 a2 = some r_0) : aM G yX9_mayDo cX9_mayDo 3 (some .boolean) 3 0 0 [.ref (gP G 55), vI a1, vI a2] (mkSh q_0 x_0, σ) (r_0, (mkSh q_0 x_0, σ)) := by
  unfold X9_mayDo at h
  refine aM_of (by decide) (Nat.le_of_ble_eq_true rfl) ?_
  show aW G cX9_mayDo RX9 "mayDo" 3 (some .boolean) _ _ aX 0 0 _ [(0, .ref (gP G 55)), (1, vI a1), (2, vI a2)] 0 []
  refine a_iload_n 2 dX9_mayDo_0 rfl ?_
  refine a_bipush dX9_mayDo_1 (by decide) ?_
  refine a_icmp_eq 34 dX9_mayDo_3 (by decide) rfl (by decide) h (fun c1 h => ?_) (fun c1 h => ?_)
  · skip
    refine a_iconst dX9_mayDo_34 ?_
    refine a_goto 39 dX9_mayDo_35 (by decide) ?_
    exact a_zret dX9_mayDo_39 rfl (by decide) (s_inj h) rfl
  · skip
    refine a_iload_n 2 dX9_mayDo_6 rfl ?_
    refine a_iconst dX9_mayDo_7 ?_
    refine a_icmp_ge 23 dX9_mayDo_8 (by decide) rfl (by decide) h (fun c2 h => ?_) (fun c2 h => ?_)
    · skip
      refine a_aload_n 0 dX9_mayDo_23 rfl ?_
      refine a_iload_n 1 dX9_mayDo_24 rfl ?_
      refine a_iload_n 2 dX9_mayDo_25 rfl ?_
      refine a_iconst dX9_mayDo_26 ?_
      refine a_isub dX9_mayDo_27 ?_
      refine bp_s h (fun r3 e4 h => ?_)
      refine a_callVI dX9_mayDo_28 mX9_maySell KX9 rfl kv_X9_maySell ks_X9_maySell rfl km_RX9_185 rfl (T_X9_maySell e4) (fun _ => rfl) rfl (Nat.le_of_ble_eq_true rfl) (Nat.le_of_ble_eq_true rfl) ⟨(Nat.le_of_ble_eq_true rfl), (Nat.le_of_ble_eq_true rfl)⟩ (Nat.le_of_ble_eq_true rfl) ?_
      refine a_if_eq 38 dX9_mayDo_31 (by decide) rfl h (fun c5 h => ?_) (fun c5 h => ?_)
      · skip
        refine a_iconst dX9_mayDo_38 ?_
        exact a_zret dX9_mayDo_39 rfl (by decide) (s_inj h) rfl
      · skip
        refine a_iconst dX9_mayDo_34 ?_
        refine a_goto 39 dX9_mayDo_35 (by decide) ?_
        exact a_zret dX9_mayDo_39 rfl (by decide) (s_inj h) rfl
    · skip
      refine a_aload_n 0 dX9_mayDo_11 rfl ?_
      refine a_iload_n 1 dX9_mayDo_12 rfl ?_
      refine a_iload_n 2 dX9_mayDo_13 rfl ?_
      refine bp_s h (fun r6 e7 h => ?_)
      refine a_callVI dX9_mayDo_14 mX9_mayEat KX9 rfl kv_X9_mayEat ks_X9_mayEat rfl km_RX9_182 rfl (T_X9_mayEat e7) (fun _ => rfl) rfl (Nat.le_of_ble_eq_true rfl) (Nat.le_of_ble_eq_true rfl) ⟨(Nat.le_of_ble_eq_true rfl), (Nat.le_of_ble_eq_true rfl)⟩ (Nat.le_of_ble_eq_true rfl) ?_
      refine a_if_eq 38 dX9_mayDo_17 (by decide) rfl h (fun c8 h => ?_) (fun c8 h => ?_)
      · skip
        refine a_iconst dX9_mayDo_38 ?_
        exact a_zret dX9_mayDo_39 rfl (by decide) (s_inj h) rfl
      · skip
        refine a_goto 34 dX9_mayDo_20 (by decide) ?_
        refine a_iconst dX9_mayDo_34 ?_
        refine a_goto 39 dX9_mayDo_35 (by decide) ?_
        exact a_zret dX9_mayDo_39 rfl (by decide) (s_inj h) rfl

def X9_hadBy (σ : sM) (a1 a2 a3 : Int) : Option Int := if ¬ wi a2 = 6 then if 3 ≤ wi a2 then if 0 ≤ wi (q_rem a2 3) ∧ wi (q_rem a2 3) < 6 then if 0 ≤ wi a3 ∧ wi a3 < 16 then some ((σ 63 (wi (q_rem a2 3)).toNat) * (σ 65 (wi a3).toNat)) else none else none else bp (X9_codeOf σ a1 (q_rem a2 3)) (fun r5 => bp (X9_goodOf σ (q_rem a2 3) (q_shr r5 2)) (fun r7 => some r7)) else some 0
set_option maxRecDepth 100000 in
set_option maxHeartbeats 400000 in
theorem T_X9_hadBy {G : sG} {q_0 : qT} {x_0 : List Nat} {σ : sM} {r_0 : Int} {a1 a2 a3 : Int}  (h : X9_hadBy σ a1 a2 a3 = some r_0) : aM G yX9_hadBy cX9_hadBy 5 (some .int) 1 0 0 [.ref (gP G 55), vI a1, vI a2, vI a3] (mkSh q_0 x_0, σ) (r_0, (mkSh q_0 x_0, σ)) := by
  unfold X9_hadBy at h
  refine aM_of (by decide) (Nat.le_of_ble_eq_true rfl) ?_
  show aW G cX9_hadBy RX9 "hadBy" 5 (some .int) _ _ aX 0 0 _ [(0, .ref (gP G 55)), (1, vI a1), (2, vI a2), (3, vI a3)] 0 []
  refine a_iload_n 2 dX9_hadBy_0 rfl ?_
  refine a_iconst dX9_hadBy_1 ?_
  refine a_irem dX9_hadBy_2 (by decide) ?_
  refine a_istore (L' := [(4, vI (q_rem a2 3)), (0, .ref (gP G 55)), (1, vI a1), (2, vI a2), (3, vI a3)]) dX9_hadBy_3 (by decide) rfl ?_
  refine a_iload_n 3 dX9_hadBy_5 rfl ?_
  refine a_bipush dX9_hadBy_6 (by decide) ?_
  refine a_icmp_ne 15 dX9_hadBy_8 (by decide) rfl (by decide) h (fun c1 h => ?_) (fun c1 h => ?_)
  · skip
    refine a_iload_n 3 dX9_hadBy_15 rfl ?_
    refine a_iconst dX9_hadBy_16 ?_
    refine a_icmp_ge 37 dX9_hadBy_17 (by decide) rfl (by decide) h (fun c2 h => ?_) (fun c2 h => ?_)
    · skip
      refine a_aload_n 1 dX9_hadBy_37 rfl ?_
      refine a_getR (j := 9) dX9_hadBy_38 KX9 rfl (by decide) rfl kf_RX9_32 ?_
      refine a_iload 0 dX9_hadBy_41 rfl ?_
      refine a_gd h (fun c3 h => ?_)
      refine a_iald (x' := wi (q_rem a2 3)) dX9_hadBy_43 rfl rfl c3 rfl ?_
      refine a_aload_n 1 dX9_hadBy_44 rfl ?_
      refine a_getR (j := 11) dX9_hadBy_45 KX9 rfl (by decide) rfl kf_RX9_38 ?_
      refine a_iload_n 4 dX9_hadBy_48 rfl ?_
      refine a_gd h (fun c4 h => ?_)
      refine a_iald (x' := wi a3) dX9_hadBy_49 rfl rfl c4 rfl ?_
      refine a_imul dX9_hadBy_50 ?_
      exact a_iret dX9_hadBy_51 rfl (s_inj h) rfl
    · skip
      refine a_aload_n 1 dX9_hadBy_20 rfl ?_
      refine a_iload 0 dX9_hadBy_21 rfl ?_
      refine a_iload_n 2 dX9_hadBy_23 rfl ?_
      refine a_iload 0 dX9_hadBy_24 rfl ?_
      refine bp_s h (fun r5 e6 h => ?_)
      refine a_callSI dX9_hadBy_26 mX9_codeOf kv_X9_codeOf km_RX9_175 rfl (T_X9_codeOf e6) (fun _ => rfl) rfl (Nat.le_of_ble_eq_true rfl) (Nat.le_of_ble_eq_true rfl) ⟨(Nat.le_of_ble_eq_true rfl), (Nat.le_of_ble_eq_true rfl)⟩ (Nat.le_of_ble_eq_true rfl) ?_
      refine a_iconst dX9_hadBy_29 ?_
      refine a_ishr dX9_hadBy_30 ?_
      refine bp_s h (fun r7 e8 h => ?_)
      refine a_callVI dX9_hadBy_31 mX9_goodOf KX9 rfl kv_X9_goodOf ks_X9_goodOf rfl km_RX9_168 rfl (T_X9_goodOf e8) (fun _ => rfl) rfl (Nat.le_of_ble_eq_true rfl) (Nat.le_of_ble_eq_true rfl) ⟨(Nat.le_of_ble_eq_true rfl), (Nat.le_of_ble_eq_true rfl)⟩ (Nat.le_of_ble_eq_true rfl) ?_
      refine a_goto 51 dX9_hadBy_34 (by decide) ?_
      exact a_iret dX9_hadBy_51 rfl (s_inj h) rfl
  · skip
    refine a_iconst dX9_hadBy_11 ?_
    refine a_goto 51 dX9_hadBy_12 (by decide) ?_
    exact a_iret dX9_hadBy_51 rfl (s_inj h) rfl

def X9_behind (σ : sM) (a1 a2 : Int) : Option Int := if ¬ wi a2 = 6 then jn (fun q2 : Int => some (a1 - (q_shl q2 (4 * (q_rem a2 3))))) (fun K3 => if 3 ≤ wi a2 then if 0 ≤ wi (q_rem a2 3) ∧ wi (q_rem a2 3) < 6 then K3 (σ 63 (wi (q_rem a2 3)).toNat) else none else K3 1) else some a1
set_option maxRecDepth 100000 in
set_option maxHeartbeats 400000 in
theorem T_X9_behind {G : sG} {q_0 : qT} {x_0 : List Nat} {σ : sM} {r_0 : Int} {a1 a2 : Int}  (h : X9_behind σ a1 a2 = some r_0) : aM G yX9_behind cX9_behind 4 (some .int) 0 0 0 [.ref (gP G 55), vI a1, vI a2] (mkSh q_0 x_0, σ) (r_0, (mkSh q_0 x_0, σ)) := by
  unfold X9_behind at h
  refine aM_of (by decide) (Nat.le_of_ble_eq_true rfl) ?_
  show aW G cX9_behind RX9 "behind" 4 (some .int) _ _ aX 0 0 _ [(0, .ref (gP G 55)), (1, vI a1), (2, vI a2)] 0 []
  refine a_iload_n 2 dX9_behind_0 rfl ?_
  refine a_iconst dX9_behind_1 ?_
  refine a_irem dX9_behind_2 (by decide) ?_
  refine a_istore_n (L' := [(3, vI (q_rem a2 3)), (0, .ref (gP G 55)), (1, vI a1), (2, vI a2)]) dX9_behind_3 (by decide) rfl ?_
  refine a_iload_n 3 dX9_behind_4 rfl ?_
  refine a_bipush dX9_behind_5 (by decide) ?_
  refine a_icmp_ne 14 dX9_behind_7 (by decide) rfl (by decide) h (fun c1 h => ?_) (fun c1 h => ?_)
  · skip
    refine a_iload_n 2 dX9_behind_14 rfl ?_
    refine a_iload_n 3 dX9_behind_15 rfl ?_
    refine a_iconst dX9_behind_16 ?_
    refine jn_s (fun q2 : Int => aW G cX9_behind RX9 "behind" 4 (some .int) (sR 0 0 0) (aQ G (some .int) 0 0 (r_0, (mkSh q_0 x_0, σ))) aX 0 0 (mkSh q_0 x_0, σ) [(3, vI (q_rem a2 3))] 30 [vI q2, vI a1]) h (fun q2 h => ?_) (fun K3 hK3 h => ?_)
    · skip
      refine a_iconst dX9_behind_30 ?_
      refine a_iload_n 0 dX9_behind_31 rfl ?_
      refine a_imul dX9_behind_32 ?_
      refine a_ishl dX9_behind_33 ?_
      refine a_isub dX9_behind_34 ?_
      exact a_iret dX9_behind_35 rfl (s_inj h) rfl
    · skip
      refine a_icmp_ge 24 dX9_behind_17 (by decide) rfl (by decide) h (fun c4 h => ?_) (fun c4 h => ?_)
      · skip
        refine a_aload_n 1 dX9_behind_24 rfl ?_
        refine a_getR (j := 9) dX9_behind_25 KX9 rfl (by decide) rfl kf_RX9_32 ?_
        refine a_iload_n 0 dX9_behind_28 rfl ?_
        refine a_gd h (fun c5 h => ?_)
        refine a_iald (x' := wi (q_rem a2 3)) dX9_behind_29 rfl rfl c5 rfl ?_
        have hh := hK3 _ h
        exact a_sub [0] rfl hh
      · skip
        refine a_iconst dX9_behind_20 ?_
        refine a_goto 30 dX9_behind_21 (by decide) ?_
        have hh := hK3 _ h
        exact a_sub [0] rfl hh
  · skip
    refine a_iload_n 2 dX9_behind_10 rfl ?_
    refine a_goto 35 dX9_behind_11 (by decide) ?_
    exact a_iret dX9_behind_35 rfl (s_inj h) rfl

def X9_eat (F : Nat) (σ : sM) (a1 : Int) : Option (Int × sM) := bp (X9_isWheel σ a1) (fun r1 => if ¬ wi r1 = 0 then bp (X9_isOver σ) (fun r4 => if ¬ wi r4 = 0 then some ((-2), σ) else if ¬ wi (σ 67 0) = 0 then some ((-2), σ) else bp (X9_stateNow F σ) (fun r8 => bp (X9_mayEat F σ r8 a1) (fun r10 => if ¬ wi r10 = 0 then if 0 ≤ wi a1 ∧ wi a1 < 9 then if 0 ≤ wi a1 ∧ wi a1 < 9 then if 0 ≤ wi a1 ∧ wi a1 < 9 then bp (X9_goodOf (sU (sU σ 67 0 (q_z 1)) 72 (wi a1).toNat (((sU σ 67 0 (q_z 1)) 72 (wi a1).toNat) - 1)) a1 ((sU (sU σ 67 0 (q_z 1)) 72 (wi a1).toNat (((sU σ 67 0 (q_z 1)) 72 (wi a1).toNat) - 1)) 71 (wi a1).toNat)) (fun r16 => nm (sU (sU (sU σ 67 0 (q_z 1)) 72 (wi a1).toNat (((sU σ 67 0 (q_z 1)) 72 (wi a1).toNat) - 1)) 68 0 (((sU (sU σ 67 0 (q_z 1)) 72 (wi a1).toNat (((sU σ 67 0 (q_z 1)) 72 (wi a1).toNat) - 1)) 68 0) + r16)) (fun σ18 => if 0 ≤ wi a1 ∧ wi a1 < 9 then bp (X9_goodOf σ18 a1 (σ18 71 (wi a1).toNat)) (fun r21 => some (r21, σ18)) else none)) else none else none else none else some ((-2), σ)))) else some ((-1), σ))
set_option maxRecDepth 100000 in
set_option maxHeartbeats 400000 in
theorem T_X9_eat {G : sG} {q_0 : qT} {x_0 : List Nat} {σ s_0 : sM} {r_0 : Int} {a1 : Int} {F : Nat}  (h : X9_eat F σ a1 = some (r_0, s_0)) : aM G yX9_eat cX9_eat 2 (some .int) 3 0 0 [.ref (gP G 55), vI a1] (mkSh q_0 x_0, σ) (r_0, (mkSh q_0 x_0, s_0)) := by
  unfold X9_eat at h
  refine aM_of (by decide) (Nat.le_of_ble_eq_true rfl) ?_
  show aW G cX9_eat RX9 "eat" 2 (some .int) _ _ aX 0 0 _ [(0, .ref (gP G 55)), (1, vI a1)] 0 []
  refine a_aload_n 0 dX9_eat_0 rfl ?_
  refine a_iload_n 1 dX9_eat_1 rfl ?_
  refine bp_s h (fun r1 e2 h => ?_)
  refine a_callVI dX9_eat_2 mX9_isWheel KX9 rfl kv_X9_isWheel ks_X9_isWheel rfl km_RX9_164 rfl (T_X9_isWheel e2) (fun _ => rfl) rfl (Nat.le_of_ble_eq_true rfl) (Nat.le_of_ble_eq_true rfl) ⟨(Nat.le_of_ble_eq_true rfl), (Nat.le_of_ble_eq_true rfl)⟩ (Nat.le_of_ble_eq_true rfl) ?_
  refine a_if_ne 10 dX9_eat_5 (by decide) rfl h (fun c3 h => ?_) (fun c3 h => ?_)
  · skip
    refine a_aload_n 0 dX9_eat_10 rfl ?_
    refine bp_s h (fun r4 e5 h => ?_)
    refine a_callVI dX9_eat_11 mX9_isOver KX9 rfl kv_X9_isOver ks_X9_isOver rfl km_RX9_188 rfl (T_X9_isOver e5) (fun _ => rfl) rfl (Nat.le_of_ble_eq_true rfl) (Nat.le_of_ble_eq_true rfl) ⟨(Nat.le_of_ble_eq_true rfl), (Nat.le_of_ble_eq_true rfl)⟩ (Nat.le_of_ble_eq_true rfl) ?_
    refine a_if_ne 38 dX9_eat_14 (by decide) rfl h (fun c6 h => ?_) (fun c6 h => ?_)
    · skip
      refine a_bipush dX9_eat_38 (by decide) ?_
      exact a_iret dX9_eat_40 rfl (p_1 h) (p_S (p_2 h))
    · skip
      refine a_aload_n 0 dX9_eat_17 rfl ?_
      refine a_getR (j := 18) dX9_eat_18 KX9 rfl (by decide) rfl kf_RX9_44 ?_
      refine a_iconst dX9_eat_21 ?_
      refine a_zald (x' := 0) dX9_eat_22 rfl (by decide) (by decide) rfl ?_
      refine a_if_ne 38 dX9_eat_23 (by decide) rfl h (fun c7 h => ?_) (fun c7 h => ?_)
      · skip
        refine a_bipush dX9_eat_38 (by decide) ?_
        exact a_iret dX9_eat_40 rfl (p_1 h) (p_S (p_2 h))
      · skip
        refine a_aload_n 0 dX9_eat_26 rfl ?_
        refine a_aload_n 0 dX9_eat_27 rfl ?_
        refine bp_s h (fun r8 e9 h => ?_)
        refine a_callVI dX9_eat_28 mX9_stateNow KX9 rfl kv_X9_stateNow ks_X9_stateNow rfl km_RX9_192 rfl (T_X9_stateNow e9) (fun _ => rfl) rfl (Nat.le_of_ble_eq_true rfl) (Nat.le_of_ble_eq_true rfl) ⟨(Nat.le_of_ble_eq_true rfl), (Nat.le_of_ble_eq_true rfl)⟩ (Nat.le_of_ble_eq_true rfl) ?_
        refine a_iload_n 1 dX9_eat_31 rfl ?_
        refine bp_s h (fun r10 e11 h => ?_)
        refine a_callVI dX9_eat_32 mX9_mayEat KX9 rfl kv_X9_mayEat ks_X9_mayEat rfl km_RX9_182 rfl (T_X9_mayEat e11) (fun _ => rfl) rfl (Nat.le_of_ble_eq_true rfl) (Nat.le_of_ble_eq_true rfl) ⟨(Nat.le_of_ble_eq_true rfl), (Nat.le_of_ble_eq_true rfl)⟩ (Nat.le_of_ble_eq_true rfl) ?_
        refine a_if_ne 41 dX9_eat_35 (by decide) rfl h (fun c12 h => ?_) (fun c12 h => ?_)
        · skip
          refine a_aload_n 0 dX9_eat_41 rfl ?_
          refine a_getR (j := 18) dX9_eat_42 KX9 rfl (by decide) rfl kf_RX9_44 ?_
          refine a_iconst dX9_eat_45 ?_
          refine a_iconst dX9_eat_46 ?_
          refine a_zast (x' := 0) dX9_eat_47 rfl (by decide) (by decide) rfl ?_
          refine a_aload_n 0 dX9_eat_48 rfl ?_
          refine a_getR (j := 23) dX9_eat_49 KX9 rfl (by decide) rfl kf_RX9_60 ?_
          refine a_iload_n 1 dX9_eat_52 rfl ?_
          refine a_dup2 dX9_eat_53 ?_
          refine a_gd h (fun c13 h => ?_)
          refine a_iald (x' := wi a1) dX9_eat_54 rfl rfl c13 rfl ?_
          refine a_iconst dX9_eat_55 ?_
          refine a_isub dX9_eat_56 ?_
          refine a_gd h (fun c14 h => ?_)
          refine a_iast (x' := wi a1) dX9_eat_57 rfl rfl c14 rfl ?_
          refine a_aload_n 0 dX9_eat_58 rfl ?_
          refine a_getR (j := 19) dX9_eat_59 KX9 rfl (by decide) rfl kf_RX9_48 ?_
          refine a_iconst dX9_eat_62 ?_
          refine a_dup2 dX9_eat_63 ?_
          refine a_iald (x' := 0) dX9_eat_64 rfl (by decide) (by decide) rfl ?_
          refine a_aload_n 0 dX9_eat_65 rfl ?_
          refine a_iload_n 1 dX9_eat_66 rfl ?_
          refine a_aload_n 0 dX9_eat_67 rfl ?_
          refine a_getR (j := 22) dX9_eat_68 KX9 rfl (by decide) rfl kf_RX9_57 ?_
          refine a_iload_n 1 dX9_eat_71 rfl ?_
          refine a_gd h (fun c15 h => ?_)
          refine a_iald (x' := wi a1) dX9_eat_72 rfl rfl c15 rfl ?_
          refine bp_s h (fun r16 e17 h => ?_)
          refine a_callVI dX9_eat_73 mX9_goodOf KX9 rfl kv_X9_goodOf ks_X9_goodOf rfl km_RX9_168 rfl (T_X9_goodOf e17) (fun _ => rfl) rfl (Nat.le_of_ble_eq_true rfl) (Nat.le_of_ble_eq_true rfl) ⟨(Nat.le_of_ble_eq_true rfl), (Nat.le_of_ble_eq_true rfl)⟩ (Nat.le_of_ble_eq_true rfl) ?_
          refine a_iadd dX9_eat_76 ?_
          refine a_iast (x' := 0) dX9_eat_77 rfl (by decide) (by decide) rfl ?_
          refine a_nmS h (fun σ18 w19 h => ?_)
          refine a_aload_n 0 dX9_eat_78 rfl ?_
          refine a_iload_n 1 dX9_eat_79 rfl ?_
          refine a_aload_n 0 dX9_eat_80 rfl ?_
          refine a_getR (j := 22) dX9_eat_81 KX9 rfl (by decide) rfl kf_RX9_57 ?_
          refine a_iload_n 1 dX9_eat_84 rfl ?_
          refine a_gd h (fun c20 h => ?_)
          refine a_iald (x' := wi a1) dX9_eat_85 rfl rfl c20 rfl ?_
          refine bp_s h (fun r21 e22 h => ?_)
          refine a_callVI dX9_eat_86 mX9_goodOf KX9 rfl kv_X9_goodOf ks_X9_goodOf rfl km_RX9_168 rfl (T_X9_goodOf e22) (fun _ => rfl) rfl (Nat.le_of_ble_eq_true rfl) (Nat.le_of_ble_eq_true rfl) ⟨(Nat.le_of_ble_eq_true rfl), (Nat.le_of_ble_eq_true rfl)⟩ (Nat.le_of_ble_eq_true rfl) ?_
          exact a_iret dX9_eat_89 rfl (p_1 h) (p_S (p_2 h))
        · skip
          refine a_bipush dX9_eat_38 (by decide) ?_
          exact a_iret dX9_eat_40 rfl (p_1 h) (p_S (p_2 h))
  · skip
    refine a_iconst dX9_eat_8 ?_
    exact a_iret dX9_eat_9 rfl (p_1 h) (p_S (p_2 h))

def X9_sell (F : Nat) (σ : sM) (a1 : Int) : Option (Int × sM) := bp (X9_isWheel σ a1) (fun r1 => if ¬ wi r1 = 0 then bp (X9_isOver σ) (fun r4 => if ¬ wi r4 = 0 then some ((-2), σ) else if ¬ wi (σ 67 0) = 0 then some ((-2), σ) else bp (X9_stateNow F σ) (fun r8 => bp (X9_maySell σ r8 a1) (fun r10 => if ¬ wi r10 = 0 then if 0 ≤ wi a1 ∧ wi a1 < 9 then if 0 ≤ wi ((sU σ 67 0 (q_z 1)) 66 0) ∧ wi ((sU σ 67 0 (q_z 1)) 66 0) < 16 then nm (((sU σ 67 0 (q_z 1)) 72 (wi a1).toNat) * ((sU σ 67 0 (q_z 1)) 65 (wi ((sU σ 67 0 (q_z 1)) 66 0)).toNat)) (fun y15 => if 0 ≤ wi a1 ∧ wi a1 < 9 then nm (sU (sU (sU σ 67 0 (q_z 1)) 72 (wi a1).toNat 0) 69 0 (((sU (sU σ 67 0 (q_z 1)) 72 (wi a1).toNat 0) 69 0) + y15)) (fun σ18 => some (y15, σ18)) else none) else none else none else some ((-2), σ)))) else some ((-1), σ))
set_option maxRecDepth 100000 in
set_option maxHeartbeats 400000 in
theorem T_X9_sell {G : sG} {q_0 : qT} {x_0 : List Nat} {σ s_0 : sM} {r_0 : Int} {a1 : Int} {F : Nat}  (h : X9_sell F σ a1 = some (r_0, s_0)) : aM G yX9_sell cX9_sell 3 (some .int) 3 0 0 [.ref (gP G 55), vI a1] (mkSh q_0 x_0, σ) (r_0, (mkSh q_0 x_0, s_0)) := by
  unfold X9_sell at h
  refine aM_of (by decide) (Nat.le_of_ble_eq_true rfl) ?_
  show aW G cX9_sell RX9 "sell" 3 (some .int) _ _ aX 0 0 _ [(0, .ref (gP G 55)), (1, vI a1)] 0 []
  refine a_aload_n 0 dX9_sell_0 rfl ?_
  refine a_iload_n 1 dX9_sell_1 rfl ?_
  refine bp_s h (fun r1 e2 h => ?_)
  refine a_callVI dX9_sell_2 mX9_isWheel KX9 rfl kv_X9_isWheel ks_X9_isWheel rfl km_RX9_164 rfl (T_X9_isWheel e2) (fun _ => rfl) rfl (Nat.le_of_ble_eq_true rfl) (Nat.le_of_ble_eq_true rfl) ⟨(Nat.le_of_ble_eq_true rfl), (Nat.le_of_ble_eq_true rfl)⟩ (Nat.le_of_ble_eq_true rfl) ?_
  refine a_if_ne 10 dX9_sell_5 (by decide) rfl h (fun c3 h => ?_) (fun c3 h => ?_)
  · skip
    refine a_aload_n 0 dX9_sell_10 rfl ?_
    refine bp_s h (fun r4 e5 h => ?_)
    refine a_callVI dX9_sell_11 mX9_isOver KX9 rfl kv_X9_isOver ks_X9_isOver rfl km_RX9_188 rfl (T_X9_isOver e5) (fun _ => rfl) rfl (Nat.le_of_ble_eq_true rfl) (Nat.le_of_ble_eq_true rfl) ⟨(Nat.le_of_ble_eq_true rfl), (Nat.le_of_ble_eq_true rfl)⟩ (Nat.le_of_ble_eq_true rfl) ?_
    refine a_if_ne 38 dX9_sell_14 (by decide) rfl h (fun c6 h => ?_) (fun c6 h => ?_)
    · skip
      refine a_bipush dX9_sell_38 (by decide) ?_
      exact a_iret dX9_sell_40 rfl (p_1 h) (p_S (p_2 h))
    · skip
      refine a_aload_n 0 dX9_sell_17 rfl ?_
      refine a_getR (j := 18) dX9_sell_18 KX9 rfl (by decide) rfl kf_RX9_44 ?_
      refine a_iconst dX9_sell_21 ?_
      refine a_zald (x' := 0) dX9_sell_22 rfl (by decide) (by decide) rfl ?_
      refine a_if_ne 38 dX9_sell_23 (by decide) rfl h (fun c7 h => ?_) (fun c7 h => ?_)
      · skip
        refine a_bipush dX9_sell_38 (by decide) ?_
        exact a_iret dX9_sell_40 rfl (p_1 h) (p_S (p_2 h))
      · skip
        refine a_aload_n 0 dX9_sell_26 rfl ?_
        refine a_aload_n 0 dX9_sell_27 rfl ?_
        refine bp_s h (fun r8 e9 h => ?_)
        refine a_callVI dX9_sell_28 mX9_stateNow KX9 rfl kv_X9_stateNow ks_X9_stateNow rfl km_RX9_192 rfl (T_X9_stateNow e9) (fun _ => rfl) rfl (Nat.le_of_ble_eq_true rfl) (Nat.le_of_ble_eq_true rfl) ⟨(Nat.le_of_ble_eq_true rfl), (Nat.le_of_ble_eq_true rfl)⟩ (Nat.le_of_ble_eq_true rfl) ?_
        refine a_iload_n 1 dX9_sell_31 rfl ?_
        refine bp_s h (fun r10 e11 h => ?_)
        refine a_callVI dX9_sell_32 mX9_maySell KX9 rfl kv_X9_maySell ks_X9_maySell rfl km_RX9_185 rfl (T_X9_maySell e11) (fun _ => rfl) rfl (Nat.le_of_ble_eq_true rfl) (Nat.le_of_ble_eq_true rfl) ⟨(Nat.le_of_ble_eq_true rfl), (Nat.le_of_ble_eq_true rfl)⟩ (Nat.le_of_ble_eq_true rfl) ?_
        refine a_if_ne 41 dX9_sell_35 (by decide) rfl h (fun c12 h => ?_) (fun c12 h => ?_)
        · skip
          refine a_aload_n 0 dX9_sell_41 rfl ?_
          refine a_getR (j := 18) dX9_sell_42 KX9 rfl (by decide) rfl kf_RX9_44 ?_
          refine a_iconst dX9_sell_45 ?_
          refine a_iconst dX9_sell_46 ?_
          refine a_zast (x' := 0) dX9_sell_47 rfl (by decide) (by decide) rfl ?_
          refine a_aload_n 0 dX9_sell_48 rfl ?_
          refine a_getR (j := 23) dX9_sell_49 KX9 rfl (by decide) rfl kf_RX9_60 ?_
          refine a_iload_n 1 dX9_sell_52 rfl ?_
          refine a_gd h (fun c13 h => ?_)
          refine a_iald (x' := wi a1) dX9_sell_53 rfl rfl c13 rfl ?_
          refine a_aload_n 0 dX9_sell_54 rfl ?_
          refine a_getR (j := 11) dX9_sell_55 KX9 rfl (by decide) rfl kf_RX9_38 ?_
          refine a_aload_n 0 dX9_sell_58 rfl ?_
          refine a_getR (j := 17) dX9_sell_59 KX9 rfl (by decide) rfl kf_RX9_41 ?_
          refine a_iconst dX9_sell_62 ?_
          refine a_iald (x' := 0) dX9_sell_63 rfl (by decide) (by decide) rfl ?_
          refine a_gd h (fun c14 h => ?_)
          refine a_iald (x' := wi ((sU σ 67 0 (q_z 1)) 66 0)) dX9_sell_64 rfl rfl c14 rfl ?_
          refine a_imul dX9_sell_65 ?_
          refine a_nmI h (fun y15 w16 h => ?_)
          refine a_istore_n (L' := [(2, vI y15), (0, .ref (gP G 55)), (1, vI a1)]) dX9_sell_66 (by decide) rfl ?_
          refine a_aload_n 1 dX9_sell_67 rfl ?_
          refine a_getR (j := 23) dX9_sell_68 KX9 rfl (by decide) rfl kf_RX9_60 ?_
          refine a_iload_n 2 dX9_sell_71 rfl ?_
          refine a_iconst dX9_sell_72 ?_
          refine a_gd h (fun c17 h => ?_)
          refine a_iast (x' := wi a1) dX9_sell_73 rfl rfl c17 rfl ?_
          refine a_aload_n 1 dX9_sell_74 rfl ?_
          refine a_getR (j := 20) dX9_sell_75 KX9 rfl (by decide) rfl kf_RX9_51 ?_
          refine a_iconst dX9_sell_78 ?_
          refine a_dup2 dX9_sell_79 ?_
          refine a_iald (x' := 0) dX9_sell_80 rfl (by decide) (by decide) rfl ?_
          refine a_iload_n 0 dX9_sell_81 rfl ?_
          refine a_iadd dX9_sell_82 ?_
          refine a_iast (x' := 0) dX9_sell_83 rfl (by decide) (by decide) rfl ?_
          refine a_nmS h (fun σ18 w19 h => ?_)
          refine a_iload_n 0 dX9_sell_84 rfl ?_
          exact a_iret dX9_sell_85 rfl (p_1 h) (p_S (p_2 h))
        · skip
          refine a_bipush dX9_sell_38 (by decide) ?_
          exact a_iret dX9_sell_40 rfl (p_1 h) (p_S (p_2 h))
  · skip
    refine a_iconst dX9_sell_8 ?_
    exact a_iret dX9_sell_9 rfl (p_1 h) (p_S (p_2 h))

def X9_stop (σ : sM) (a1 : Int) : Option (Int × sM) := bp (X9_isWheel σ a1) (fun r1 => if ¬ wi r1 = 0 then if 0 ≤ wi a1 ∧ wi a1 < 9 then jn (fun q5 : Int => if 0 ≤ wi a1 ∧ wi a1 < 9 then some (q5, (sU σ 73 (wi a1).toNat (q_z 1))) else none) (fun K6 => if wi (σ 73 (wi a1).toNat) = 0 then K6 1 else K6 0) else none else some ((-1), σ))
set_option maxRecDepth 100000 in
set_option maxHeartbeats 400000 in
theorem T_X9_stop {G : sG} {q_0 : qT} {x_0 : List Nat} {σ s_0 : sM} {r_0 : Int} {a1 : Int}  (h : X9_stop σ a1 = some (r_0, s_0)) : aM G yX9_stop cX9_stop 3 (some .int) 2 0 0 [.ref (gP G 55), vI a1] (mkSh q_0 x_0, σ) (r_0, (mkSh q_0 x_0, s_0)) := by
  unfold X9_stop at h
  refine aM_of (by decide) (Nat.le_of_ble_eq_true rfl) ?_
  show aW G cX9_stop RX9 "stop" 3 (some .int) _ _ aX 0 0 _ [(0, .ref (gP G 55)), (1, vI a1)] 0 []
  refine a_aload_n 0 dX9_stop_0 rfl ?_
  refine a_iload_n 1 dX9_stop_1 rfl ?_
  refine bp_s h (fun r1 e2 h => ?_)
  refine a_callVI dX9_stop_2 mX9_isWheel KX9 rfl kv_X9_isWheel ks_X9_isWheel rfl km_RX9_164 rfl (T_X9_isWheel e2) (fun _ => rfl) rfl (Nat.le_of_ble_eq_true rfl) (Nat.le_of_ble_eq_true rfl) ⟨(Nat.le_of_ble_eq_true rfl), (Nat.le_of_ble_eq_true rfl)⟩ (Nat.le_of_ble_eq_true rfl) ?_
  refine a_if_ne 10 dX9_stop_5 (by decide) rfl h (fun c3 h => ?_) (fun c3 h => ?_)
  · skip
    refine a_aload_n 0 dX9_stop_10 rfl ?_
    refine a_getR (j := 24) dX9_stop_11 KX9 rfl (by decide) rfl kf_RX9_63 ?_
    refine a_iload_n 1 dX9_stop_14 rfl ?_
    refine a_gd h (fun c4 h => ?_)
    refine a_zald (x' := wi a1) dX9_stop_15 rfl rfl c4 rfl ?_
    refine jn_s (fun q5 : Int => aW G cX9_stop RX9 "stop" 3 (some .int) (sR 2 0 0) (aQ G (some .int) 0 0 (r_0, (mkSh q_0 x_0, s_0))) aX 0 0 (mkSh q_0 x_0, σ) [(0, .ref (gP G 55)), (1, vI a1)] 24 [vI q5]) h (fun q5 h => ?_) (fun K6 hK6 h => ?_)
    · skip
      refine a_istore_n (L' := [(2, vI q5), (0, .ref (gP G 55)), (1, vI a1)]) dX9_stop_24 (by decide) rfl ?_
      refine a_aload_n 1 dX9_stop_25 rfl ?_
      refine a_getR (j := 24) dX9_stop_26 KX9 rfl (by decide) rfl kf_RX9_63 ?_
      refine a_iload_n 2 dX9_stop_29 rfl ?_
      refine a_iconst dX9_stop_30 ?_
      refine a_gd h (fun c7 h => ?_)
      refine a_zast (x' := wi a1) dX9_stop_31 rfl rfl c7 rfl ?_
      refine a_iload_n 0 dX9_stop_32 rfl ?_
      exact a_iret dX9_stop_33 rfl (p_1 h) (p_S (p_2 h))
    · skip
      refine a_if_eq 23 dX9_stop_16 (by decide) rfl h (fun c8 h => ?_) (fun c8 h => ?_)
      · skip
        refine a_iconst dX9_stop_23 ?_
        have hh := hK6 _ h
        exact a_sub [0, 1] rfl hh
      · skip
        refine a_iconst dX9_stop_19 ?_
        refine a_goto 24 dX9_stop_20 (by decide) ?_
        have hh := hK6 _ h
        exact a_sub [0, 1] rfl hh
  · skip
    refine a_iconst dX9_stop_8 ?_
    exact a_iret dX9_stop_9 rfl (p_1 h) (p_S (p_2 h))

def X9_goNext (F : Nat) (σ : sM) : Option (Int × sM) := lp (fun K2 (q1 : sM × Int × Int) => if wi (q1.1 58 0) ≤ wi q1.2.2 then some (q1.2.1, (sU (sU q1.1 66 0 ((q1.1 66 0) + 1)) 67 0 (q_z 0))) else if 0 ≤ wi q1.2.2 ∧ wi q1.2.2 < 9 then jn (fun q5 : sM × Int => K2 (q5.1, q5.2, q1.2.2 + 1)) (fun K6 => if wi (q1.1 72 (wi q1.2.2).toNat) ≤ 0 then K6 (q1.1, q1.2.1) else if 0 ≤ wi q1.2.2 ∧ wi q1.2.2 < 9 then if ¬ wi (q1.1 73 (wi q1.2.2).toNat) = 0 then K6 (q1.1, q1.2.1) else if 0 ≤ wi q1.2.2 ∧ wi q1.2.2 < 9 then if 3 ≤ wi (q1.1 71 (wi q1.2.2).toNat) then K6 (q1.1, q1.2.1) else if 0 ≤ wi q1.2.2 ∧ wi q1.2.2 < 9 then if 0 ≤ wi q1.2.2 ∧ wi q1.2.2 < 9 then bp (X9_goes (sU q1.1 70 0 (((q1.1 70 0) * 1103515245) + 12345)) q1.2.2 ((sU q1.1 70 0 (((q1.1 70 0) * 1103515245) + 12345)) 71 (wi q1.2.2).toNat) ((sU q1.1 70 0 (((q1.1 70 0) * 1103515245) + 12345)) 72 (wi q1.2.2).toNat) ((sU q1.1 70 0 (((q1.1 70 0) * 1103515245) + 12345)) 66 0)) (fun r14 => if wi r14 ≤ wi (q_rem (q_ushr ((sU q1.1 70 0 (((q1.1 70 0) * 1103515245) + 12345)) 70 0) 16) 10) then K6 ((sU q1.1 70 0 (((q1.1 70 0) * 1103515245) + 12345)), q1.2.1) else if 0 ≤ wi q1.2.2 ∧ wi q1.2.2 < 9 then if 0 ≤ wi q1.2.2 ∧ wi q1.2.2 < 9 then nm (sU (sU q1.1 70 0 (((q1.1 70 0) * 1103515245) + 12345)) 71 (wi q1.2.2).toNat (((sU q1.1 70 0 (((q1.1 70 0) * 1103515245) + 12345)) 71 (wi q1.2.2).toNat) + 1)) (fun σ19 => K6 (σ19, q1.2.1 + 1)) else none else none) else none else none else none else none) else none) F (σ, 0, 0)
set_option maxRecDepth 100000 in
set_option maxHeartbeats 400000 in
theorem T_X9_goNext {G : sG} {q_0 : qT} {x_0 : List Nat} {σ s_0 : sM} {r_0 : Int} {F : Nat}  (h : X9_goNext F σ = some (r_0, s_0)) : aM G yX9_goNext cX9_goNext 3 (some .int) 2 0 0 [.ref (gP G 55)] (mkSh q_0 x_0, σ) (r_0, (mkSh q_0 x_0, s_0)) := by
  unfold X9_goNext at h
  refine aM_of (by decide) (Nat.le_of_ble_eq_true rfl) ?_
  show aW G cX9_goNext RX9 "goNext" 3 (some .int) _ _ aX 0 0 _ [(0, .ref (gP G 55))] 0 []
  refine a_iconst dX9_goNext_0 ?_
  refine a_istore_n (L' := [(1, vI 0), (0, .ref (gP G 55))]) dX9_goNext_1 (by decide) rfl ?_
  refine a_iconst dX9_goNext_2 ?_
  refine a_istore_n (L' := [(2, vI 0), (1, vI 0), (0, .ref (gP G 55))]) dX9_goNext_3 (by decide) rfl ?_
  refine a_sub (L' := [(0, .ref (gP G 55)), (1, vI 0), (2, vI 0)]) [2, 1, 0] rfl (lp_s (x := (σ, 0, 0)) (fun q1 : sM × Int × Int => aW G cX9_goNext RX9 "goNext" 3 (some .int) (sR 2 0 0) (aQ G (some .int) 0 0 (r_0, (mkSh q_0 x_0, s_0))) aX 0 0 (mkSh q_0 x_0, q1.1) [(0, .ref (gP G 55)), (1, vI q1.2.1), (2, vI q1.2.2)] 4 []) h (fun K2 hK2 q1 h => ?_))
  refine a_iload_n 2 dX9_goNext_4 rfl ?_
  refine a_aload_n 0 dX9_goNext_5 rfl ?_
  refine a_getR (j := 4) dX9_goNext_6 KX9 rfl (by decide) rfl kf_RX9_17 ?_
  refine a_iconst dX9_goNext_9 ?_
  refine a_iald (x' := 0) dX9_goNext_10 rfl (by decide) (by decide) rfl ?_
  refine a_icmp_ge 118 dX9_goNext_11 (by decide) rfl rfl h (fun c3 h => ?_) (fun c3 h => ?_)
  · skip
    refine a_aload_n 0 dX9_goNext_118 rfl ?_
    refine a_getR (j := 17) dX9_goNext_119 KX9 rfl (by decide) rfl kf_RX9_41 ?_
    refine a_iconst dX9_goNext_122 ?_
    refine a_dup2 dX9_goNext_123 ?_
    refine a_iald (x' := 0) dX9_goNext_124 rfl (by decide) (by decide) rfl ?_
    refine a_iconst dX9_goNext_125 ?_
    refine a_iadd dX9_goNext_126 ?_
    refine a_iast (x' := 0) dX9_goNext_127 rfl (by decide) (by decide) rfl ?_
    refine a_aload_n 0 dX9_goNext_128 rfl ?_
    refine a_getR (j := 18) dX9_goNext_129 KX9 rfl (by decide) rfl kf_RX9_44 ?_
    refine a_iconst dX9_goNext_132 ?_
    refine a_iconst dX9_goNext_133 ?_
    refine a_zast (x' := 0) dX9_goNext_134 rfl (by decide) (by decide) rfl ?_
    refine a_iload_n 1 dX9_goNext_135 rfl ?_
    exact a_iret dX9_goNext_136 rfl (p_1 h) (p_S (p_2 h))
  · skip
    refine a_aload_n 0 dX9_goNext_14 rfl ?_
    refine a_getR (j := 23) dX9_goNext_15 KX9 rfl (by decide) rfl kf_RX9_60 ?_
    refine a_iload_n 2 dX9_goNext_18 rfl ?_
    refine a_gd h (fun c4 h => ?_)
    refine a_iald (x' := wi q1.2.2) dX9_goNext_19 rfl rfl c4 rfl ?_
    refine jn_s (fun q5 : sM × Int => aW G cX9_goNext RX9 "goNext" 3 (some .int) (sR 2 0 0) (aQ G (some .int) 0 0 (r_0, (mkSh q_0 x_0, s_0))) aX 0 0 (mkSh q_0 x_0, q5.1) [(0, .ref (gP G 55)), (1, vI q5.2), (2, vI q1.2.2)] 112 []) h (fun q5 h => ?_) (fun K6 hK6 h => ?_)
    · skip
      refine a_iinc (L' := [(2, vI (q1.2.2 + 1)), (0, .ref (gP G 55)), (1, vI q5.2)]) 2 dX9_goNext_112 rfl (by decide) rfl ?_
      refine a_goto 4 dX9_goNext_115 (by decide) ?_
      have hh := hK2 _ h
      exact a_sub [1, 2, 0] rfl hh
    · skip
      refine a_if_le 112 dX9_goNext_20 (by decide) rfl h (fun c7 h => ?_) (fun c7 h => ?_)
      · skip
        have hh := hK6 _ h
        exact a_sub [0, 1, 2] rfl hh
      · skip
        refine a_aload_n 0 dX9_goNext_23 rfl ?_
        refine a_getR (j := 24) dX9_goNext_24 KX9 rfl (by decide) rfl kf_RX9_63 ?_
        refine a_iload_n 2 dX9_goNext_27 rfl ?_
        refine a_gd h (fun c8 h => ?_)
        refine a_zald (x' := wi q1.2.2) dX9_goNext_28 rfl rfl c8 rfl ?_
        refine a_if_ne 112 dX9_goNext_29 (by decide) rfl h (fun c9 h => ?_) (fun c9 h => ?_)
        · skip
          have hh := hK6 _ h
          exact a_sub [0, 1, 2] rfl hh
        · skip
          refine a_aload_n 0 dX9_goNext_32 rfl ?_
          refine a_getR (j := 22) dX9_goNext_33 KX9 rfl (by decide) rfl kf_RX9_57 ?_
          refine a_iload_n 2 dX9_goNext_36 rfl ?_
          refine a_gd h (fun c10 h => ?_)
          refine a_iald (x' := wi q1.2.2) dX9_goNext_37 rfl rfl c10 rfl ?_
          refine a_iconst dX9_goNext_38 ?_
          refine a_icmp_ge 112 dX9_goNext_39 (by decide) rfl (by decide) h (fun c11 h => ?_) (fun c11 h => ?_)
          · skip
            have hh := hK6 _ h
            exact a_sub [0, 1, 2] rfl hh
          · skip
            refine a_aload_n 0 dX9_goNext_42 rfl ?_
            refine a_getR (j := 21) dX9_goNext_43 KX9 rfl (by decide) rfl kf_RX9_54 ?_
            refine a_iconst dX9_goNext_46 ?_
            refine a_aload_n 0 dX9_goNext_47 rfl ?_
            refine a_getR (j := 21) dX9_goNext_48 KX9 rfl (by decide) rfl kf_RX9_54 ?_
            refine a_iconst dX9_goNext_51 ?_
            refine a_iald (x' := 0) dX9_goNext_52 rfl (by decide) (by decide) rfl ?_
            refine a_ldc (z := 1103515245) dX9_goNext_53 kc_RX9_195 (by decide) ?_
            refine a_imul dX9_goNext_55 ?_
            refine a_sipush dX9_goNext_56 (by decide) ?_
            refine a_iadd dX9_goNext_59 ?_
            refine a_iast (x' := 0) dX9_goNext_60 rfl (by decide) (by decide) rfl ?_
            refine a_aload_n 0 dX9_goNext_61 rfl ?_
            refine a_getR (j := 21) dX9_goNext_62 KX9 rfl (by decide) rfl kf_RX9_54 ?_
            refine a_iconst dX9_goNext_65 ?_
            refine a_iald (x' := 0) dX9_goNext_66 rfl (by decide) (by decide) rfl ?_
            refine a_bipush dX9_goNext_67 (by decide) ?_
            refine a_iushr dX9_goNext_69 ?_
            refine a_bipush dX9_goNext_70 (by decide) ?_
            refine a_irem dX9_goNext_72 (by decide) ?_
            refine a_aload_n 0 dX9_goNext_73 rfl ?_
            refine a_iload_n 2 dX9_goNext_74 rfl ?_
            refine a_aload_n 0 dX9_goNext_75 rfl ?_
            refine a_getR (j := 22) dX9_goNext_76 KX9 rfl (by decide) rfl kf_RX9_57 ?_
            refine a_iload_n 2 dX9_goNext_79 rfl ?_
            refine a_gd h (fun c12 h => ?_)
            refine a_iald (x' := wi q1.2.2) dX9_goNext_80 rfl rfl c12 rfl ?_
            refine a_aload_n 0 dX9_goNext_81 rfl ?_
            refine a_getR (j := 23) dX9_goNext_82 KX9 rfl (by decide) rfl kf_RX9_60 ?_
            refine a_iload_n 2 dX9_goNext_85 rfl ?_
            refine a_gd h (fun c13 h => ?_)
            refine a_iald (x' := wi q1.2.2) dX9_goNext_86 rfl rfl c13 rfl ?_
            refine a_aload_n 0 dX9_goNext_87 rfl ?_
            refine a_getR (j := 17) dX9_goNext_88 KX9 rfl (by decide) rfl kf_RX9_41 ?_
            refine a_iconst dX9_goNext_91 ?_
            refine a_iald (x' := 0) dX9_goNext_92 rfl (by decide) (by decide) rfl ?_
            refine bp_s h (fun r14 e15 h => ?_)
            refine a_callVI dX9_goNext_93 mX9_goes KX9 rfl kv_X9_goes ks_X9_goes rfl km_RX9_171 rfl (T_X9_goes e15) (fun _ => rfl) rfl (Nat.le_of_ble_eq_true rfl) (Nat.le_of_ble_eq_true rfl) ⟨(Nat.le_of_ble_eq_true rfl), (Nat.le_of_ble_eq_true rfl)⟩ (Nat.le_of_ble_eq_true rfl) ?_
            refine a_icmp_ge 112 dX9_goNext_96 (by decide) rfl rfl h (fun c16 h => ?_) (fun c16 h => ?_)
            · skip
              have hh := hK6 _ h
              exact a_sub [0, 1, 2] rfl hh
            · skip
              refine a_aload_n 0 dX9_goNext_99 rfl ?_
              refine a_getR (j := 22) dX9_goNext_100 KX9 rfl (by decide) rfl kf_RX9_57 ?_
              refine a_iload_n 2 dX9_goNext_103 rfl ?_
              refine a_dup2 dX9_goNext_104 ?_
              refine a_gd h (fun c17 h => ?_)
              refine a_iald (x' := wi q1.2.2) dX9_goNext_105 rfl rfl c17 rfl ?_
              refine a_iconst dX9_goNext_106 ?_
              refine a_iadd dX9_goNext_107 ?_
              refine a_gd h (fun c18 h => ?_)
              refine a_iast (x' := wi q1.2.2) dX9_goNext_108 rfl rfl c18 rfl ?_
              refine a_nmS h (fun σ19 w20 h => ?_)
              refine a_iinc (L' := [(1, vI (q1.2.1 + 1)), (0, .ref (gP G 55)), (2, vI q1.2.2)]) 1 dX9_goNext_109 rfl (by decide) rfl ?_
              have hh := hK6 _ h
              exact a_sub [1, 0, 2] rfl hh

