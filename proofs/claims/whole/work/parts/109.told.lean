def X9_blindNow (F : Nat) (σ : sM) : Option (Int × sM) := bp (X9_isOver σ) (fun r1 => if ¬ wi r1 = 0 then some (0, σ) else bp (X9_firstWeek σ) (fun r4 => if ¬ wi (σ 59 0) = wi r4 then bn (X9_findRow F σ) (fun r7 σ9 => some (r7, σ9)) else some (0, σ)))
set_option maxRecDepth 100000 in
set_option maxHeartbeats 400000 in
theorem T_X9_blindNow {G : sG} {q_0 : qT} {x_0 : List Nat} {σ s_0 : sM} {r_0 : Int} {F : Nat}  (h : X9_blindNow F σ = some (r_0, s_0)) : aM G yX9_blindNow cX9_blindNow 1 (some .int) 5 0 0 [.ref (gB G + 55)] (mkSh q_0 x_0, σ) (r_0, (mkSh q_0 x_0, s_0)) := by
  unfold X9_blindNow at h
  refine aM_of (by decide) (Nat.le_of_ble_eq_true rfl) ?_
  show aW G cX9_blindNow RX9 "blindNow" 1 (some .int) _ _ aX 0 0 _ [(0, .ref (gB G + 55))] 0 []
  refine a_aload_n 0 dX9_blindNow_0 rfl ?_
  refine bp_s h (fun r1 e2 h => ?_)
  refine a_callVI dX9_blindNow_1 mX9_isOver KX9 rfl kv_X9_isOver ks_X9_isOver rfl km_RX9_188 rfl (T_X9_isOver e2) (fun _ => rfl) rfl (Nat.le_of_ble_eq_true rfl) (Nat.le_of_ble_eq_true rfl) ⟨(Nat.le_of_ble_eq_true rfl), (Nat.le_of_ble_eq_true rfl)⟩ (Nat.le_of_ble_eq_true rfl) ?_
  refine a_if_ne 20 dX9_blindNow_4 (by decide) rfl h (fun c3 h => ?_) (fun c3 h => ?_)
  · skip
    refine a_iconst dX9_blindNow_20 ?_
    refine a_goto 28 dX9_blindNow_21 (by decide) ?_
    exact a_iret dX9_blindNow_28 rfl (p_1 h) (p_S (p_2 h))
  · skip
    refine a_aload_n 0 dX9_blindNow_7 rfl ?_
    refine a_getR (j := 5) dX9_blindNow_8 KX9 rfl (by decide) rfl kf_RX9_20 ?_
    refine a_iconst dX9_blindNow_11 ?_
    refine a_iald (x' := 0) dX9_blindNow_12 rfl (by decide) (by decide) rfl ?_
    refine a_aload_n 0 dX9_blindNow_13 rfl ?_
    refine bp_s h (fun r4 e5 h => ?_)
    refine a_callVI dX9_blindNow_14 mX9_firstWeek KX9 rfl kv_X9_firstWeek ks_X9_firstWeek rfl km_RX9_255 rfl (T_X9_firstWeek e5) (fun _ => rfl) rfl (Nat.le_of_ble_eq_true rfl) (Nat.le_of_ble_eq_true rfl) ⟨(Nat.le_of_ble_eq_true rfl), (Nat.le_of_ble_eq_true rfl)⟩ (Nat.le_of_ble_eq_true rfl) ?_
    refine a_icmp_ne 24 dX9_blindNow_17 (by decide) rfl rfl h (fun c6 h => ?_) (fun c6 h => ?_)
    · skip
      refine a_aload_n 0 dX9_blindNow_24 rfl ?_
      refine bn_s h (fun r7 σ9 e8 h => ?_)
      refine a_callVI dX9_blindNow_25 mX9_findRow KX9 rfl kv_X9_findRow ks_X9_findRow rfl km_RX9_273 rfl (T_X9_findRow e8) (fun _ => rfl) rfl (Nat.le_of_ble_eq_true rfl) (Nat.le_of_ble_eq_true rfl) ⟨(Nat.le_of_ble_eq_true rfl), (Nat.le_of_ble_eq_true rfl)⟩ (Nat.le_of_ble_eq_true rfl) ?_
      exact a_iret dX9_blindNow_28 rfl (p_1 h) (p_S (p_2 h))
    · skip
      refine a_iconst dX9_blindNow_20 ?_
      refine a_goto 28 dX9_blindNow_21 (by decide) ?_
      exact a_iret dX9_blindNow_28 rfl (p_1 h) (p_S (p_2 h))

def X9_spare (F : Nat) (σ : sM) (a1 : Int) : Option (Int × sM) := bp (X9_isWheel σ a1) (fun r1 => if ¬ wi r1 = 0 then bn (X9_valueNow F σ 4) (fun r4 σ6 => if 0 ≤ wi a1 ∧ wi a1 < 9 then if 0 ≤ wi a1 ∧ wi a1 < 9 then bn (X9_valueNow F (sU σ6 73 (wi a1).toNat (q_z 1)) 4) (fun r9 σ11 => if 0 ≤ wi a1 ∧ wi a1 < 9 then some (r9 - r4, (sU σ11 73 (wi a1).toNat (q_z (σ6 73 (wi a1).toNat)))) else none) else none else none) else some ((-1000000), σ))
set_option maxRecDepth 100000 in
set_option maxHeartbeats 400000 in
theorem T_X9_spare {G : sG} {q_0 : qT} {x_0 : List Nat} {σ s_0 : sM} {r_0 : Int} {a1 : Int} {F : Nat}  (h : X9_spare F σ a1 = some (r_0, s_0)) : aM G yX9_spare cX9_spare 5 (some .int) 9 0 0 [.ref (gB G + 55), vI a1] (mkSh q_0 x_0, σ) (r_0, (mkSh q_0 x_0, s_0)) := by
  unfold X9_spare at h
  refine aM_of (by decide) (Nat.le_of_ble_eq_true rfl) ?_
  show aW G cX9_spare RX9 "spare" 5 (some .int) _ _ aX 0 0 _ [(0, .ref (gB G + 55)), (1, vI a1)] 0 []
  refine a_aload_n 0 dX9_spare_0 rfl ?_
  refine a_iload_n 1 dX9_spare_1 rfl ?_
  refine bp_s h (fun r1 e2 h => ?_)
  refine a_callVI dX9_spare_2 mX9_isWheel KX9 rfl kv_X9_isWheel ks_X9_isWheel rfl km_RX9_164 rfl (T_X9_isWheel e2) (fun _ => rfl) rfl (Nat.le_of_ble_eq_true rfl) (Nat.le_of_ble_eq_true rfl) ⟨(Nat.le_of_ble_eq_true rfl), (Nat.le_of_ble_eq_true rfl)⟩ (Nat.le_of_ble_eq_true rfl) ?_
  refine a_if_ne 11 dX9_spare_5 (by decide) rfl h (fun c3 h => ?_) (fun c3 h => ?_)
  · skip
    refine a_aload_n 0 dX9_spare_11 rfl ?_
    refine a_iconst dX9_spare_12 ?_
    refine bn_s h (fun r4 σ6 e5 h => ?_)
    refine a_callVI dX9_spare_13 mX9_valueNow KX9 rfl kv_X9_valueNow ks_X9_valueNow rfl km_RX9_236 rfl (T_X9_valueNow e5) (fun _ => rfl) rfl (Nat.le_of_ble_eq_true rfl) (Nat.le_of_ble_eq_true rfl) ⟨(Nat.le_of_ble_eq_true rfl), (Nat.le_of_ble_eq_true rfl)⟩ (Nat.le_of_ble_eq_true rfl) ?_
    refine a_istore_n (L' := [(2, vI r4), (0, .ref (gB G + 55)), (1, vI a1)]) dX9_spare_16 (by decide) rfl ?_
    refine a_aload_n 1 dX9_spare_17 rfl ?_
    refine a_getR (j := 24) dX9_spare_18 KX9 rfl (by decide) rfl kf_RX9_63 ?_
    refine a_iload_n 2 dX9_spare_21 rfl ?_
    refine a_gd h (fun c7 h => ?_)
    refine a_zald (x' := wi a1) dX9_spare_22 rfl rfl c7 rfl ?_
    refine a_istore_n (L' := [(3, vI (σ6 73 (wi a1).toNat)), (2, vI r4), (0, .ref (gB G + 55)), (1, vI a1)]) dX9_spare_23 (by decide) rfl ?_
    refine a_aload_n 2 dX9_spare_24 rfl ?_
    refine a_getR (j := 24) dX9_spare_25 KX9 rfl (by decide) rfl kf_RX9_63 ?_
    refine a_iload_n 3 dX9_spare_28 rfl ?_
    refine a_iconst dX9_spare_29 ?_
    refine a_gd h (fun c8 h => ?_)
    refine a_zast (x' := wi a1) dX9_spare_30 rfl rfl c8 rfl ?_
    refine a_aload_n 2 dX9_spare_31 rfl ?_
    refine a_iconst dX9_spare_32 ?_
    refine bn_s h (fun r9 σ11 e10 h => ?_)
    refine a_callVI dX9_spare_33 mX9_valueNow KX9 rfl kv_X9_valueNow ks_X9_valueNow rfl km_RX9_236 rfl (T_X9_valueNow e10) (fun _ => rfl) rfl (Nat.le_of_ble_eq_true rfl) (Nat.le_of_ble_eq_true rfl) ⟨(Nat.le_of_ble_eq_true rfl), (Nat.le_of_ble_eq_true rfl)⟩ (Nat.le_of_ble_eq_true rfl) ?_
    refine a_istore (L' := [(4, vI r9), (3, vI (σ6 73 (wi a1).toNat)), (2, vI r4), (0, .ref (gB G + 55)), (1, vI a1)]) dX9_spare_36 (by decide) rfl ?_
    refine a_aload_n 3 dX9_spare_38 rfl ?_
    refine a_getR (j := 24) dX9_spare_39 KX9 rfl (by decide) rfl kf_RX9_63 ?_
    refine a_iload_n 4 dX9_spare_42 rfl ?_
    refine a_iload_n 1 dX9_spare_43 rfl ?_
    refine a_gd h (fun c12 h => ?_)
    refine a_zast (x' := wi a1) dX9_spare_44 rfl rfl c12 rfl ?_
    refine a_iload 0 dX9_spare_45 rfl ?_
    refine a_iload_n 2 dX9_spare_47 rfl ?_
    refine a_isub dX9_spare_48 ?_
    exact a_iret dX9_spare_49 rfl (p_1 h) (p_S (p_2 h))
  · skip
    refine a_ldc (z := -1000000) dX9_spare_8 kc_RX9_242 (by decide) ?_
    exact a_iret dX9_spare_10 rfl (p_1 h) (p_S (p_2 h))

def X0_tellMeans (F : Nat) (σ : sM) (a1 : Int) : Option (Int × sM) := if wi a1 < 0 then some (0, σ) else if 3 ≤ wi a1 then some (0, σ) else bp (X8_portionsOf σ (σ 37 14) a1) (fun r3 => if ¬ wi r3 = 0 then bp (X1_mayGoOn σ (σ 37 14) (σ 37 15) a1) (fun r6 => bp (X8_stepOf σ (σ 37 14) a1) (fun r8 => bn (X5_startAt F 38 σ r8) (fun r10 σ12 => bp (X1_isWhole σ12 (σ12 37 14) a1) (fun r13 => if ¬ wi r13 = 0 then if 0 ≤ wi a1 ∧ wi a1 < 3 then lp (fun K18 (q17 : sM × Int) => if wi (q17.1 2 7) ≤ wi q17.2 then some (0, q17.1) else bn (X0_tellMeansOfCut F q17.1 a1 q17.2 r6) (fun r20 σ22 => jn (fun q23 : sM => K18 (q23, q17.2 + 1)) (fun K24 => if wi r6 = 0 then K24 σ22 else bp (X1_sortOf σ22 a1) (fun r26 => bn (X5_weekGoesBy F 38 σ22 r26 0 q17.2) (fun r28 σ30 => K24 σ30))))) F ((sU σ12 44 (wi a1).toNat (-1)), (sU σ12 44 (wi a1).toNat (-1)) 37 12) else none else if 0 ≤ wi a1 ∧ wi a1 < 3 then bn (X0_tellMeansOfCut F (sU σ12 44 (wi a1).toNat (σ12 37 12)) a1 ((sU σ12 44 (wi a1).toNat (σ12 37 12)) 37 12) r6) (fun r32 σ34 => some (0, σ34)) else none)))) else some (0, σ))
set_option maxRecDepth 100000 in
set_option maxHeartbeats 400000 in
theorem T_X0_tellMeans {G : sG} {q_0 : qT} {x_0 : List Nat} {σ s_0 : sM} {r_0 : Int} {a1 : Int} {F : Nat}  (h : X0_tellMeans F σ a1 = some (r_0, s_0)) : aM G yX0_tellMeans cX0_tellMeans 4 none 4 0 0 [.ref (gB G + 37), vI a1] (mkSh q_0 x_0, σ) (r_0, (mkSh q_0 x_0, s_0)) := by
  unfold X0_tellMeans at h
  refine aM_of (by decide) (Nat.le_of_ble_eq_true rfl) ?_
  show aW G cX0_tellMeans RX0 "tellMeans" 4 none _ _ aX 0 0 _ [(0, .ref (gB G + 37)), (1, vI a1)] 0 []
  refine a_iload_n 1 dX0_tellMeans_0 rfl ?_
  refine a_if_lt 20 dX0_tellMeans_1 (by decide) rfl h (fun c1 h => ?_) (fun c1 h => ?_)
  · skip
    exact a_vret dX0_tellMeans_20 rfl (p_S (p_2 h))
  · skip
    refine a_iload_n 1 dX0_tellMeans_4 rfl ?_
    refine a_iconst dX0_tellMeans_5 ?_
    refine a_icmp_ge 20 dX0_tellMeans_6 (by decide) rfl (by decide) h (fun c2 h => ?_) (fun c2 h => ?_)
    · skip
      exact a_vret dX0_tellMeans_20 rfl (p_S (p_2 h))
    · skip
      refine a_aload_n 0 dX0_tellMeans_9 rfl ?_
      refine a_getI (j := 14) dX0_tellMeans_10 KX0 rfl (by decide) rfl kf_RX0_57 ?_
      refine a_iload_n 1 dX0_tellMeans_13 rfl ?_
      refine bp_s h (fun r3 e4 h => ?_)
      refine a_callSNI dX0_tellMeans_14 mX8_portionsOf kv_X8_portionsOf km_RX0_116 rfl (T_X8_portionsOf e4) (fun _ => rfl) rfl (Nat.le_of_ble_eq_true rfl) (Nat.le_of_ble_eq_true rfl) ⟨(Nat.le_of_ble_eq_true rfl), (Nat.le_of_ble_eq_true rfl)⟩ (Nat.le_of_ble_eq_true rfl) ?_
      refine a_if_ne 21 dX0_tellMeans_17 (by decide) rfl h (fun c5 h => ?_) (fun c5 h => ?_)
      · skip
        refine a_aload_n 0 dX0_tellMeans_21 rfl ?_
        refine a_getR (j := 0) dX0_tellMeans_22 KX0 rfl (by decide) rfl kf_RX0_63 ?_
        refine a_aload_n 0 dX0_tellMeans_25 rfl ?_
        refine a_getI (j := 14) dX0_tellMeans_26 KX0 rfl (by decide) rfl kf_RX0_57 ?_
        refine a_aload_n 0 dX0_tellMeans_29 rfl ?_
        refine a_getI (j := 15) dX0_tellMeans_30 KX0 rfl (by decide) rfl kf_RX0_60 ?_
        refine a_iload_n 1 dX0_tellMeans_33 rfl ?_
        refine bp_s h (fun r6 e7 h => ?_)
        refine a_callVI dX0_tellMeans_34 mX1_mayGoOn KX1 rfl kv_X1_mayGoOn ks_X1_mayGoOn rfl km_RX0_119 rfl (T_X1_mayGoOn e7) (fun _ => rfl) rfl (Nat.le_of_ble_eq_true rfl) (Nat.le_of_ble_eq_true rfl) ⟨(Nat.le_of_ble_eq_true rfl), (Nat.le_of_ble_eq_true rfl)⟩ (Nat.le_of_ble_eq_true rfl) ?_
        refine a_istore_n (L' := [(2, vI r6), (0, .ref (gB G + 37)), (1, vI a1)]) dX0_tellMeans_37 (by decide) rfl ?_
        refine a_aload_n 1 dX0_tellMeans_38 rfl ?_
        refine a_getR (j := 1) dX0_tellMeans_39 KX0 rfl (by decide) rfl kf_RX0_12 ?_
        refine a_aload_n 1 dX0_tellMeans_42 rfl ?_
        refine a_getI (j := 14) dX0_tellMeans_43 KX0 rfl (by decide) rfl kf_RX0_57 ?_
        refine a_iload_n 2 dX0_tellMeans_46 rfl ?_
        refine bp_s h (fun r8 e9 h => ?_)
        refine a_callSNI dX0_tellMeans_47 mX8_stepOf kv_X8_stepOf km_RX0_123 rfl (T_X8_stepOf e9) (fun _ => rfl) rfl (Nat.le_of_ble_eq_true rfl) (Nat.le_of_ble_eq_true rfl) ⟨(Nat.le_of_ble_eq_true rfl), (Nat.le_of_ble_eq_true rfl)⟩ (Nat.le_of_ble_eq_true rfl) ?_
        refine bn_s h (fun r10 σ12 e11 h => ?_)
        refine a_callVV dX0_tellMeans_50 mX5_startAt KX5 rfl kv_X5_startAt ks_X5_startAt rfl km_RX0_126 rfl (T_X5_startAt rfl rfl e11) (fun _ => rfl) rfl (Nat.le_of_ble_eq_true rfl) (Nat.le_of_ble_eq_true rfl) ⟨(Nat.le_of_ble_eq_true rfl), (Nat.le_of_ble_eq_true rfl)⟩ (Nat.le_of_ble_eq_true rfl) ?_
        refine a_aload_n 1 dX0_tellMeans_53 rfl ?_
        refine a_getR (j := 0) dX0_tellMeans_54 KX0 rfl (by decide) rfl kf_RX0_63 ?_
        refine a_aload_n 1 dX0_tellMeans_57 rfl ?_
        refine a_getI (j := 14) dX0_tellMeans_58 KX0 rfl (by decide) rfl kf_RX0_57 ?_
        refine a_iload_n 2 dX0_tellMeans_61 rfl ?_
        refine bp_s h (fun r13 e14 h => ?_)
        refine a_callVI dX0_tellMeans_62 mX1_isWhole KX1 rfl kv_X1_isWhole ks_X1_isWhole rfl km_RX0_129 rfl (T_X1_isWhole e14) (fun _ => rfl) rfl (Nat.le_of_ble_eq_true rfl) (Nat.le_of_ble_eq_true rfl) ⟨(Nat.le_of_ble_eq_true rfl), (Nat.le_of_ble_eq_true rfl)⟩ (Nat.le_of_ble_eq_true rfl) ?_
        refine a_if_ne 89 dX0_tellMeans_65 (by decide) rfl h (fun c15 h => ?_) (fun c15 h => ?_)
        · skip
          refine a_aload_n 1 dX0_tellMeans_89 rfl ?_
          refine a_getR (j := 5) dX0_tellMeans_90 KX0 rfl (by decide) rfl kf_RX0_28 ?_
          refine a_iload_n 2 dX0_tellMeans_93 rfl ?_
          refine a_iconst dX0_tellMeans_94 ?_
          refine a_gd h (fun c16 h => ?_)
          refine a_iast (x' := wi a1) dX0_tellMeans_95 rfl rfl c16 rfl ?_
          refine a_aload_n 1 dX0_tellMeans_96 rfl ?_
          refine a_getI (j := 12) dX0_tellMeans_97 KX0 rfl (by decide) rfl kf_RX0_51 ?_
          refine a_istore_n (L' := [(3, vI ((sU σ12 44 (wi a1).toNat (-1)) 37 12)), (2, vI r6), (0, .ref (gB G + 37)), (1, vI a1)]) dX0_tellMeans_100 (by decide) rfl ?_
          refine a_sub (L' := [(0, .ref (gB G + 37)), (1, vI a1), (2, vI r6), (3, vI ((sU σ12 44 (wi a1).toNat (-1)) 37 12))]) [2, 3, 1, 0] rfl (lp_s (x := ((sU σ12 44 (wi a1).toNat (-1)), (sU σ12 44 (wi a1).toNat (-1)) 37 12)) (fun q17 : sM × Int => aW G cX0_tellMeans RX0 "tellMeans" 4 none (sR 4 0 0) (aQ G none 0 0 (r_0, (mkSh q_0 x_0, s_0))) aX 0 0 (mkSh q_0 x_0, q17.1) [(0, .ref (gB G + 37)), (1, vI a1), (2, vI r6), (3, vI q17.2)] 101 []) h (fun K18 hK18 q17 h => ?_))
          refine a_iload_n 3 dX0_tellMeans_101 rfl ?_
          refine a_aload_n 0 dX0_tellMeans_102 rfl ?_
          refine a_getR (j := 0) dX0_tellMeans_103 KX0 rfl (by decide) rfl kf_RX0_63 ?_
          refine a_getIN (j := 7) dX0_tellMeans_106 KX1 rfl (by decide) rfl kf_RX0_81 ?_
          refine a_icmp_ge 150 dX0_tellMeans_109 (by decide) rfl rfl h (fun c19 h => ?_) (fun c19 h => ?_)
          · skip
            exact a_vret dX0_tellMeans_150 rfl (p_S (p_2 h))
          · skip
            refine a_aload_n 0 dX0_tellMeans_112 rfl ?_
            refine a_iload_n 1 dX0_tellMeans_113 rfl ?_
            refine a_iload_n 3 dX0_tellMeans_114 rfl ?_
            refine a_iload_n 2 dX0_tellMeans_115 rfl ?_
            refine bn_s h (fun r20 σ22 e21 h => ?_)
            refine a_callVV dX0_tellMeans_116 mX0_tellMeansOfCut KX0 rfl kv_X0_tellMeansOfCut ks_X0_tellMeansOfCut rfl km_RX0_133 rfl (T_X0_tellMeansOfCut e21) (fun _ => rfl) rfl (Nat.le_of_ble_eq_true rfl) (Nat.le_of_ble_eq_true rfl) ⟨(Nat.le_of_ble_eq_true rfl), (Nat.le_of_ble_eq_true rfl)⟩ (Nat.le_of_ble_eq_true rfl) ?_
            refine a_iload_n 2 dX0_tellMeans_119 rfl ?_
            refine jn_s (fun q23 : sM => aW G cX0_tellMeans RX0 "tellMeans" 4 none (sR 4 0 0) (aQ G none 0 0 (r_0, (mkSh q_0 x_0, s_0))) aX 0 0 (mkSh q_0 x_0, q23) [(0, .ref (gB G + 37)), (1, vI a1), (2, vI r6), (3, vI q17.2)] 144 []) h (fun q23 h => ?_) (fun K24 hK24 h => ?_)
            · skip
              refine a_iinc (L' := [(3, vI (q17.2 + 1)), (0, .ref (gB G + 37)), (1, vI a1), (2, vI r6)]) 3 dX0_tellMeans_144 rfl (by decide) rfl ?_
              refine a_goto 101 dX0_tellMeans_147 (by decide) ?_
              have hh := hK18 _ h
              exact a_sub [1, 2, 3, 0] rfl hh
            · skip
              refine a_if_eq 144 dX0_tellMeans_120 (by decide) rfl h (fun c25 h => ?_) (fun c25 h => ?_)
              · skip
                have hh := hK24 _ h
                exact a_sub [0, 1, 2, 3] rfl hh
              · skip
                refine a_aload_n 0 dX0_tellMeans_123 rfl ?_
                refine a_getR (j := 1) dX0_tellMeans_124 KX0 rfl (by decide) rfl kf_RX0_12 ?_
                refine a_aload_n 0 dX0_tellMeans_127 rfl ?_
                refine a_getR (j := 0) dX0_tellMeans_128 KX0 rfl (by decide) rfl kf_RX0_63 ?_
                refine a_aload_n 0 dX0_tellMeans_131 rfl ?_
                refine a_getR (j := 0) dX0_tellMeans_132 KX0 rfl (by decide) rfl kf_RX0_63 ?_
                refine a_iload_n 1 dX0_tellMeans_135 rfl ?_
                refine bp_s h (fun r26 e27 h => ?_)
                refine a_callVI dX0_tellMeans_136 mX1_sortOf KX1 rfl kv_X1_sortOf ks_X1_sortOf rfl km_RX0_137 rfl (T_X1_sortOf e27) (fun _ => rfl) rfl (Nat.le_of_ble_eq_true rfl) (Nat.le_of_ble_eq_true rfl) ⟨(Nat.le_of_ble_eq_true rfl), (Nat.le_of_ble_eq_true rfl)⟩ (Nat.le_of_ble_eq_true rfl) ?_
                refine a_iconst dX0_tellMeans_139 ?_
                refine a_iload_n 3 dX0_tellMeans_140 rfl ?_
                refine bn_s h (fun r28 σ30 e29 h => ?_)
                refine a_callVV dX0_tellMeans_141 mX5_weekGoesBy KX5 rfl kv_X5_weekGoesBy ks_X5_weekGoesBy rfl km_RX0_141 rfl (T_X5_weekGoesBy rfl rfl e29) (fun _ => rfl) rfl (Nat.le_of_ble_eq_true rfl) (Nat.le_of_ble_eq_true rfl) ⟨(Nat.le_of_ble_eq_true rfl), (Nat.le_of_ble_eq_true rfl)⟩ (Nat.le_of_ble_eq_true rfl) ?_
                have hh := hK24 _ h
                exact a_sub [0, 1, 2, 3] rfl hh
        · skip
          refine a_aload_n 1 dX0_tellMeans_68 rfl ?_
          refine a_getR (j := 5) dX0_tellMeans_69 KX0 rfl (by decide) rfl kf_RX0_28 ?_
          refine a_iload_n 2 dX0_tellMeans_72 rfl ?_
          refine a_aload_n 1 dX0_tellMeans_73 rfl ?_
          refine a_getI (j := 12) dX0_tellMeans_74 KX0 rfl (by decide) rfl kf_RX0_51 ?_
          refine a_gd h (fun c31 h => ?_)
          refine a_iast (x' := wi a1) dX0_tellMeans_77 rfl rfl c31 rfl ?_
          refine a_aload_n 1 dX0_tellMeans_78 rfl ?_
          refine a_iload_n 2 dX0_tellMeans_79 rfl ?_
          refine a_aload_n 1 dX0_tellMeans_80 rfl ?_
          refine a_getI (j := 12) dX0_tellMeans_81 KX0 rfl (by decide) rfl kf_RX0_51 ?_
          refine a_iload_n 0 dX0_tellMeans_84 rfl ?_
          refine bn_s h (fun r32 σ34 e33 h => ?_)
          refine a_callVV dX0_tellMeans_85 mX0_tellMeansOfCut KX0 rfl kv_X0_tellMeansOfCut ks_X0_tellMeansOfCut rfl km_RX0_133 rfl (T_X0_tellMeansOfCut e33) (fun _ => rfl) rfl (Nat.le_of_ble_eq_true rfl) (Nat.le_of_ble_eq_true rfl) ⟨(Nat.le_of_ble_eq_true rfl), (Nat.le_of_ble_eq_true rfl)⟩ (Nat.le_of_ble_eq_true rfl) ?_
          exact a_vret dX0_tellMeans_88 rfl (p_S (p_2 h))
      · skip
        exact a_vret dX0_tellMeans_20 rfl (p_S (p_2 h))

def X2_byKind (σ : sM) (a1 a2 a3 : Int) : Option (Int × sM) := if wi a1 = 0 then bn (X2_asRule σ a2 a3) (fun r2 σ4 => some (r2, σ4)) else if wi a1 = 1 then bn (X2_asOld σ a2 a3) (fun r6 σ8 => some (r6, σ8)) else if wi a1 = 2 then bn (X2_asBest σ a2 a3) (fun r10 σ12 => some (r10, σ12)) else if wi a1 = 3 then bn (X2_asLook σ a2 a3) (fun r14 σ16 => some (r14, σ16)) else if wi a1 = 4 then bn (X2_asSave σ a2 a3) (fun r18 σ20 => some (r18, σ20)) else if wi a1 = 5 then bn (X2_asWorst σ a2 a3) (fun r22 σ24 => some (r22, σ24)) else some ((-1000000), σ)
set_option maxRecDepth 100000 in
set_option maxHeartbeats 400000 in
theorem T_X2_byKind {G : sG} {q_0 : qT} {x_0 : List Nat} {σ s_0 : sM} {r_0 : Int} {a1 a2 a3 : Int}  (h : X2_byKind σ a1 a2 a3 = some (r_0, s_0)) : aM G yX2_byKind cX2_byKind 4 (some .int) 4 0 0 [.ref (gB G + 54), vI a1, vI a2, vI a3] (mkSh q_0 x_0, σ) (r_0, (mkSh q_0 x_0, s_0)) := by
  unfold X2_byKind at h
  refine aM_of (by decide) (Nat.le_of_ble_eq_true rfl) ?_
  show aW G cX2_byKind RX2 "byKind" 4 (some .int) _ _ aX 0 0 _ [(0, .ref (gB G + 54)), (1, vI a1), (2, vI a2), (3, vI a3)] 0 []
  refine a_iload_n 1 dX2_byKind_0 rfl ?_
  refine a_if h (fun c1 h => ?_) (fun c1 h => ?_)
  · skip
    refine a_tsIn (off := 39) 40 dX2_byKind_1 c1 (by decide) (by decide) (by decide) ?_
    refine a_aload_n 0 dX2_byKind_40 rfl ?_
    refine a_iload_n 2 dX2_byKind_41 rfl ?_
    refine a_iload_n 3 dX2_byKind_42 rfl ?_
    refine bn_s h (fun r2 σ4 e3 h => ?_)
    refine a_callVI dX2_byKind_43 mX2_asRule KX2 rfl kv_X2_asRule ks_X2_asRule rfl km_RX2_19 rfl (T_X2_asRule e3) (fun _ => rfl) rfl (Nat.le_of_ble_eq_true rfl) (Nat.le_of_ble_eq_true rfl) ⟨(Nat.le_of_ble_eq_true rfl), (Nat.le_of_ble_eq_true rfl)⟩ (Nat.le_of_ble_eq_true rfl) ?_
    exact a_iret dX2_byKind_46 rfl (p_1 h) (p_S (p_2 h))
  · skip
    refine a_if h (fun c5 h => ?_) (fun c5 h => ?_)
    · skip
      refine a_tsIn (off := 46) 47 dX2_byKind_1 c5 (by decide) (by decide) (by decide) ?_
      refine a_aload_n 0 dX2_byKind_47 rfl ?_
      refine a_iload_n 2 dX2_byKind_48 rfl ?_
      refine a_iload_n 3 dX2_byKind_49 rfl ?_
      refine bn_s h (fun r6 σ8 e7 h => ?_)
      refine a_callVI dX2_byKind_50 mX2_asOld KX2 rfl kv_X2_asOld ks_X2_asOld rfl km_RX2_23 rfl (T_X2_asOld e7) (fun _ => rfl) rfl (Nat.le_of_ble_eq_true rfl) (Nat.le_of_ble_eq_true rfl) ⟨(Nat.le_of_ble_eq_true rfl), (Nat.le_of_ble_eq_true rfl)⟩ (Nat.le_of_ble_eq_true rfl) ?_
      exact a_iret dX2_byKind_53 rfl (p_1 h) (p_S (p_2 h))
    · skip
      refine a_if h (fun c9 h => ?_) (fun c9 h => ?_)
      · skip
        refine a_tsIn (off := 53) 54 dX2_byKind_1 c9 (by decide) (by decide) (by decide) ?_
        refine a_aload_n 0 dX2_byKind_54 rfl ?_
        refine a_iload_n 2 dX2_byKind_55 rfl ?_
        refine a_iload_n 3 dX2_byKind_56 rfl ?_
        refine bn_s h (fun r10 σ12 e11 h => ?_)
        refine a_callVI dX2_byKind_57 mX2_asBest KX2 rfl kv_X2_asBest ks_X2_asBest rfl km_RX2_26 rfl (T_X2_asBest e11) (fun _ => rfl) rfl (Nat.le_of_ble_eq_true rfl) (Nat.le_of_ble_eq_true rfl) ⟨(Nat.le_of_ble_eq_true rfl), (Nat.le_of_ble_eq_true rfl)⟩ (Nat.le_of_ble_eq_true rfl) ?_
        exact a_iret dX2_byKind_60 rfl (p_1 h) (p_S (p_2 h))
      · skip
        refine a_if h (fun c13 h => ?_) (fun c13 h => ?_)
        · skip
          refine a_tsIn (off := 60) 61 dX2_byKind_1 c13 (by decide) (by decide) (by decide) ?_
          refine a_aload_n 0 dX2_byKind_61 rfl ?_
          refine a_iload_n 2 dX2_byKind_62 rfl ?_
          refine a_iload_n 3 dX2_byKind_63 rfl ?_
          refine bn_s h (fun r14 σ16 e15 h => ?_)
          refine a_callVI dX2_byKind_64 mX2_asLook KX2 rfl kv_X2_asLook ks_X2_asLook rfl km_RX2_29 rfl (T_X2_asLook e15) (fun _ => rfl) rfl (Nat.le_of_ble_eq_true rfl) (Nat.le_of_ble_eq_true rfl) ⟨(Nat.le_of_ble_eq_true rfl), (Nat.le_of_ble_eq_true rfl)⟩ (Nat.le_of_ble_eq_true rfl) ?_
          exact a_iret dX2_byKind_67 rfl (p_1 h) (p_S (p_2 h))
        · skip
          refine a_if h (fun c17 h => ?_) (fun c17 h => ?_)
          · skip
            refine a_tsIn (off := 67) 68 dX2_byKind_1 c17 (by decide) (by decide) (by decide) ?_
            refine a_aload_n 0 dX2_byKind_68 rfl ?_
            refine a_iload_n 2 dX2_byKind_69 rfl ?_
            refine a_iload_n 3 dX2_byKind_70 rfl ?_
            refine bn_s h (fun r18 σ20 e19 h => ?_)
            refine a_callVI dX2_byKind_71 mX2_asSave KX2 rfl kv_X2_asSave ks_X2_asSave rfl km_RX2_32 rfl (T_X2_asSave e19) (fun _ => rfl) rfl (Nat.le_of_ble_eq_true rfl) (Nat.le_of_ble_eq_true rfl) ⟨(Nat.le_of_ble_eq_true rfl), (Nat.le_of_ble_eq_true rfl)⟩ (Nat.le_of_ble_eq_true rfl) ?_
            exact a_iret dX2_byKind_74 rfl (p_1 h) (p_S (p_2 h))
          · skip
            refine a_if h (fun c21 h => ?_) (fun c21 h => ?_)
            · skip
              refine a_tsIn (off := 74) 75 dX2_byKind_1 c21 (by decide) (by decide) (by decide) ?_
              refine a_aload_n 0 dX2_byKind_75 rfl ?_
              refine a_iload_n 2 dX2_byKind_76 rfl ?_
              refine a_iload_n 3 dX2_byKind_77 rfl ?_
              refine bn_s h (fun r22 σ24 e23 h => ?_)
              refine a_callVI dX2_byKind_78 mX2_asWorst KX2 rfl kv_X2_asWorst ks_X2_asWorst rfl km_RX2_35 rfl (T_X2_asWorst e23) (fun _ => rfl) rfl (Nat.le_of_ble_eq_true rfl) (Nat.le_of_ble_eq_true rfl) ⟨(Nat.le_of_ble_eq_true rfl), (Nat.le_of_ble_eq_true rfl)⟩ (Nat.le_of_ble_eq_true rfl) ?_
              exact a_iret dX2_byKind_81 rfl (p_1 h) (p_S (p_2 h))
            · skip
              refine a_tsOut (v := wi a1) 82 dX2_byKind_1 rfl (by omega) (by decide) ?_
              refine a_ldc (z := -1000000) dX2_byKind_82 kc_RX2_38 (by decide) ?_
              exact a_iret dX2_byKind_84 rfl (p_1 h) (p_S (p_2 h))

def X4_readSort (F : Nat) (σ : sM) : Option (Int × sM) := if wi (σ 12 5) < 0 then some (0, σ) else if wi (σ 12 5) < 4 then if 0 ≤ wi (σ 12 5) ∧ wi (σ 12 5) < 4 then bn (X4_take σ 5) (fun r4 σ6 => jn (fun q7 : sM × Int => if wi q7.2 = 0 then if wi q7.2 = 0 ∨ wi q7.2 = 1 then some (q7.2, q7.1) else none else if wi q7.2 = 0 ∨ wi q7.2 = 1 then some (q7.2, (sU q7.1 12 5 ((q7.1 12 5) + 1))) else none) (fun K8 => jn (fun q12 : sM => K8 (q12, 0)) (fun K13 => if wi r4 = 0 then K13 σ6 else bn (X4_takeRow F (14 + (wi (σ 12 5)).toNat) 14 σ6 0 4 99) (fun r15 σ17 => if wi r15 = 0 then K13 σ17 else bn (X4_take σ17 6) (fun r19 σ21 => if wi r19 = 0 then K13 σ21 else bn (X4_takeRow F (14 + (wi (σ 12 5)).toNat) 14 σ21 4 7 10) (fun r23 σ25 => if wi r23 = 0 then K13 σ25 else bn (X4_take σ25 7) (fun r27 σ29 => if wi r27 = 0 then K13 σ29 else bn (X4_takeRow F (14 + (wi (σ 12 5)).toNat) 14 σ29 7 10 10) (fun r31 σ33 => if wi r31 = 0 then K13 σ33 else bn (X4_take σ33 8) (fun r35 σ37 => if wi r35 = 0 then K13 σ37 else bn (X4_takeRow F (14 + (wi (σ 12 5)).toNat) 14 σ37 10 14 10) (fun r39 σ41 => if wi r39 = 0 then K13 σ41 else bn (X4_take σ41 2) (fun r43 σ45 => if wi r43 = 0 then K13 σ45 else K8 (σ45, 1)))))))))))) else none else some (0, σ)
set_option maxRecDepth 100000 in
set_option maxHeartbeats 400000 in
theorem T_X4_readSort {G : sG} {q_0 : qT} {x_0 : List Nat} {σ s_0 : sM} {r_0 : Int} {F : Nat}  (h : X4_readSort F σ = some (r_0, s_0)) : aM G yX4_readSort cX4_readSort 4 (some .boolean) 2 0 0 [.ref (gB G + 22)] (mkSh q_0 x_0, σ) (r_0, (mkSh q_0 x_0, s_0)) := by
  unfold X4_readSort at h
  refine aM_of (by decide) (Nat.le_of_ble_eq_true rfl) ?_
  show aW G cX4_readSort RX4 "readSort" 4 (some .boolean) _ _ aX 0 0 _ [(0, .ref (gB G + 22))] 0 []
  refine a_aload_n 0 dX4_readSort_0 rfl ?_
  refine a_getR (j := 1) dX4_readSort_1 KX4 rfl (by decide) rfl kf_RX4_38 ?_
  refine a_getIN (j := 5) dX4_readSort_4 KX1 rfl (by decide) rfl kf_RX4_71 ?_
  refine a_istore_n (L' := [(1, vI (σ 12 5)), (0, .ref (gB G + 22))]) dX4_readSort_7 (by decide) rfl ?_
  refine a_iload_n 0 dX4_readSort_8 rfl ?_
  refine a_if_lt 17 dX4_readSort_9 (by decide) rfl h (fun c1 h => ?_) (fun c1 h => ?_)
  · skip
    refine a_iconst dX4_readSort_17 ?_
    exact a_zret dX4_readSort_18 rfl (by decide) (p_1 h) (p_S (p_2 h))
  · skip
    refine a_iload_n 0 dX4_readSort_12 rfl ?_
    refine a_iconst dX4_readSort_13 ?_
    refine a_icmp_lt 19 dX4_readSort_14 (by decide) rfl (by decide) h (fun c2 h => ?_) (fun c2 h => ?_)
    · skip
      refine a_aload_n 1 dX4_readSort_19 rfl ?_
      refine a_getR (j := 1) dX4_readSort_20 KX4 rfl (by decide) rfl kf_RX4_38 ?_
      refine a_getRN (j := 0) dX4_readSort_23 KX1 rfl (by decide) rfl kf_RX4_107 ?_
      refine a_iload_n 0 dX4_readSort_26 rfl ?_
      refine a_gd h (fun c3 h => ?_)
      refine a_aald dX4_readSort_27 rfl rfl c3 rfl ?_
      refine a_astore_n (L' := [(2, .ref (gB G + (14 + (wi (σ 12 5)).toNat))), (1, vI (σ 12 5)), (0, .ref (gB G + 22))]) dX4_readSort_28 (by decide) rfl ?_
      refine a_aload_n 2 dX4_readSort_29 rfl ?_
      refine a_iconst dX4_readSort_30 ?_
      refine bn_s h (fun r4 σ6 e5 h => ?_)
      refine a_callVI dX4_readSort_31 mX4_take KX4 rfl kv_X4_take ks_X4_take rfl km_RX4_103 rfl (T_X4_take e5) (fun _ => rfl) rfl (Nat.le_of_ble_eq_true rfl) (Nat.le_of_ble_eq_true rfl) ⟨(Nat.le_of_ble_eq_true rfl), (Nat.le_of_ble_eq_true rfl)⟩ (Nat.le_of_ble_eq_true rfl) ?_
      refine jn_s (fun q7 : sM × Int => aW G cX4_readSort RX4 "readSort" 4 (some .boolean) (sR 2 0 0) (aQ G (some .boolean) 0 0 (r_0, (mkSh q_0 x_0, s_0))) aX 0 0 (mkSh q_0 x_0, q7.1) [(0, .ref (gB G + 22))] 130 [vI q7.2]) h (fun q7 h => ?_) (fun K8 hK8 h => ?_)
      · skip
        refine a_istore_n (L' := [(3, vI q7.2), (0, .ref (gB G + 22))]) dX4_readSort_130 (by decide) rfl ?_
        refine a_iload_n 0 dX4_readSort_131 rfl ?_
        refine a_if_eq 148 dX4_readSort_132 (by decide) rfl h (fun c9 h => ?_) (fun c9 h => ?_)
        · skip
          refine a_iload_n 0 dX4_readSort_148 rfl ?_
          refine a_gd h (fun c10 h => ?_)
          exact a_zret dX4_readSort_149 rfl (nb_01 c10) (p_1 h) (p_S (p_2 h))
        · skip
          refine a_aload_n 1 dX4_readSort_135 rfl ?_
          refine a_getR (j := 1) dX4_readSort_136 KX4 rfl (by decide) rfl kf_RX4_38 ?_
          refine a_dupR dX4_readSort_139 ?_
          refine a_getIN (j := 5) dX4_readSort_140 KX1 rfl (by decide) rfl kf_RX4_71 ?_
          refine a_iconst dX4_readSort_143 ?_
          refine a_iadd dX4_readSort_144 ?_
          refine a_putIN (j := 5) dX4_readSort_145 KX1 rfl (by decide) rfl rfl rfl kf_RX4_71 ?_
          refine a_iload_n 0 dX4_readSort_148 rfl ?_
          refine a_gd h (fun c11 h => ?_)
          exact a_zret dX4_readSort_149 rfl (nb_01 c11) (p_1 h) (p_S (p_2 h))
      · skip
        refine jn_s (fun q12 : sM => aW G cX4_readSort RX4 "readSort" 4 (some .boolean) (sR 2 0 0) (aQ G (some .boolean) 0 0 (r_0, (mkSh q_0 x_0, s_0))) aX 0 0 (mkSh q_0 x_0, q12) [(0, .ref (gB G + 22))] 129 []) h (fun q12 h => ?_) (fun K13 hK13 h => ?_)
        · skip
          refine a_iconst dX4_readSort_129 ?_
          have hh := hK8 _ h
          exact a_sub [0] rfl hh
        · skip
          refine a_if_eq 129 dX4_readSort_34 (by decide) rfl h (fun c14 h => ?_) (fun c14 h => ?_)
          · skip
            have hh := hK13 _ h
            exact a_sub [2] rfl hh
          · skip
            refine a_aload_n 2 dX4_readSort_37 rfl ?_
            refine a_aload_n 0 dX4_readSort_38 rfl ?_
            refine a_iconst dX4_readSort_39 ?_
            refine a_iconst dX4_readSort_40 ?_
            refine a_bipush dX4_readSort_41 (by decide) ?_
            refine bn_s h (fun r15 σ17 e16 h => ?_)
            refine a_callVI dX4_readSort_43 mX4_takeRow KX4 rfl kv_X4_takeRow ks_X4_takeRow rfl km_RX4_111 rfl (T_X4_takeRow (sh_row14 c3) e16) (fun _ => rfl) rfl (Nat.le_of_ble_eq_true rfl) (Nat.le_of_ble_eq_true rfl) ⟨(Nat.le_of_ble_eq_true rfl), (Nat.le_of_ble_eq_true rfl)⟩ (Nat.le_of_ble_eq_true rfl) ?_
            refine a_if_eq 129 dX4_readSort_46 (by decide) rfl h (fun c18 h => ?_) (fun c18 h => ?_)
            · skip
              have hh := hK13 _ h
              exact a_sub [2] rfl hh
            · skip
              refine a_aload_n 2 dX4_readSort_49 rfl ?_
              refine a_bipush dX4_readSort_50 (by decide) ?_
              refine bn_s h (fun r19 σ21 e20 h => ?_)
              refine a_callVI dX4_readSort_52 mX4_take KX4 rfl kv_X4_take ks_X4_take rfl km_RX4_103 rfl (T_X4_take e20) (fun _ => rfl) rfl (Nat.le_of_ble_eq_true rfl) (Nat.le_of_ble_eq_true rfl) ⟨(Nat.le_of_ble_eq_true rfl), (Nat.le_of_ble_eq_true rfl)⟩ (Nat.le_of_ble_eq_true rfl) ?_
              refine a_if_eq 129 dX4_readSort_55 (by decide) rfl h (fun c22 h => ?_) (fun c22 h => ?_)
              · skip
                have hh := hK13 _ h
                exact a_sub [2] rfl hh
              · skip
                refine a_aload_n 2 dX4_readSort_58 rfl ?_
                refine a_aload_n 0 dX4_readSort_59 rfl ?_
                refine a_iconst dX4_readSort_60 ?_
                refine a_bipush dX4_readSort_61 (by decide) ?_
                refine a_bipush dX4_readSort_63 (by decide) ?_
                refine bn_s h (fun r23 σ25 e24 h => ?_)
                refine a_callVI dX4_readSort_65 mX4_takeRow KX4 rfl kv_X4_takeRow ks_X4_takeRow rfl km_RX4_111 rfl (T_X4_takeRow (sh_row14 c3) e24) (fun _ => rfl) rfl (Nat.le_of_ble_eq_true rfl) (Nat.le_of_ble_eq_true rfl) ⟨(Nat.le_of_ble_eq_true rfl), (Nat.le_of_ble_eq_true rfl)⟩ (Nat.le_of_ble_eq_true rfl) ?_
                refine a_if_eq 129 dX4_readSort_68 (by decide) rfl h (fun c26 h => ?_) (fun c26 h => ?_)
                · skip
                  have hh := hK13 _ h
                  exact a_sub [2] rfl hh
                · skip
                  refine a_aload_n 2 dX4_readSort_71 rfl ?_
                  refine a_bipush dX4_readSort_72 (by decide) ?_
                  refine bn_s h (fun r27 σ29 e28 h => ?_)
                  refine a_callVI dX4_readSort_74 mX4_take KX4 rfl kv_X4_take ks_X4_take rfl km_RX4_103 rfl (T_X4_take e28) (fun _ => rfl) rfl (Nat.le_of_ble_eq_true rfl) (Nat.le_of_ble_eq_true rfl) ⟨(Nat.le_of_ble_eq_true rfl), (Nat.le_of_ble_eq_true rfl)⟩ (Nat.le_of_ble_eq_true rfl) ?_
                  refine a_if_eq 129 dX4_readSort_77 (by decide) rfl h (fun c30 h => ?_) (fun c30 h => ?_)
                  · skip
                    have hh := hK13 _ h
                    exact a_sub [2] rfl hh
                  · skip
                    refine a_aload_n 2 dX4_readSort_80 rfl ?_
                    refine a_aload_n 0 dX4_readSort_81 rfl ?_
                    refine a_bipush dX4_readSort_82 (by decide) ?_
                    refine a_bipush dX4_readSort_84 (by decide) ?_
                    refine a_bipush dX4_readSort_86 (by decide) ?_
                    refine bn_s h (fun r31 σ33 e32 h => ?_)
                    refine a_callVI dX4_readSort_88 mX4_takeRow KX4 rfl kv_X4_takeRow ks_X4_takeRow rfl km_RX4_111 rfl (T_X4_takeRow (sh_row14 c3) e32) (fun _ => rfl) rfl (Nat.le_of_ble_eq_true rfl) (Nat.le_of_ble_eq_true rfl) ⟨(Nat.le_of_ble_eq_true rfl), (Nat.le_of_ble_eq_true rfl)⟩ (Nat.le_of_ble_eq_true rfl) ?_
                    refine a_if_eq 129 dX4_readSort_91 (by decide) rfl h (fun c34 h => ?_) (fun c34 h => ?_)
                    · skip
                      have hh := hK13 _ h
                      exact a_sub [2] rfl hh
                    · skip
                      refine a_aload_n 2 dX4_readSort_94 rfl ?_
                      refine a_bipush dX4_readSort_95 (by decide) ?_
                      refine bn_s h (fun r35 σ37 e36 h => ?_)
                      refine a_callVI dX4_readSort_97 mX4_take KX4 rfl kv_X4_take ks_X4_take rfl km_RX4_103 rfl (T_X4_take e36) (fun _ => rfl) rfl (Nat.le_of_ble_eq_true rfl) (Nat.le_of_ble_eq_true rfl) ⟨(Nat.le_of_ble_eq_true rfl), (Nat.le_of_ble_eq_true rfl)⟩ (Nat.le_of_ble_eq_true rfl) ?_
                      refine a_if_eq 129 dX4_readSort_100 (by decide) rfl h (fun c38 h => ?_) (fun c38 h => ?_)
                      · skip
                        have hh := hK13 _ h
                        exact a_sub [2] rfl hh
                      · skip
                        refine a_aload_n 2 dX4_readSort_103 rfl ?_
                        refine a_aload_n 0 dX4_readSort_104 rfl ?_
                        refine a_bipush dX4_readSort_105 (by decide) ?_
                        refine a_bipush dX4_readSort_107 (by decide) ?_
                        refine a_bipush dX4_readSort_109 (by decide) ?_
                        refine bn_s h (fun r39 σ41 e40 h => ?_)
                        refine a_callVI dX4_readSort_111 mX4_takeRow KX4 rfl kv_X4_takeRow ks_X4_takeRow rfl km_RX4_111 rfl (T_X4_takeRow (sh_row14 c3) e40) (fun _ => rfl) rfl (Nat.le_of_ble_eq_true rfl) (Nat.le_of_ble_eq_true rfl) ⟨(Nat.le_of_ble_eq_true rfl), (Nat.le_of_ble_eq_true rfl)⟩ (Nat.le_of_ble_eq_true rfl) ?_
                        refine a_if_eq 129 dX4_readSort_114 (by decide) rfl h (fun c42 h => ?_) (fun c42 h => ?_)
                        · skip
                          have hh := hK13 _ h
                          exact a_sub [2] rfl hh
                        · skip
                          refine a_aload_n 2 dX4_readSort_117 rfl ?_
                          refine a_iconst dX4_readSort_118 ?_
                          refine bn_s h (fun r43 σ45 e44 h => ?_)
                          refine a_callVI dX4_readSort_119 mX4_take KX4 rfl kv_X4_take ks_X4_take rfl km_RX4_103 rfl (T_X4_take e44) (fun _ => rfl) rfl (Nat.le_of_ble_eq_true rfl) (Nat.le_of_ble_eq_true rfl) ⟨(Nat.le_of_ble_eq_true rfl), (Nat.le_of_ble_eq_true rfl)⟩ (Nat.le_of_ble_eq_true rfl) ?_
                          refine a_if_eq 129 dX4_readSort_122 (by decide) rfl h (fun c46 h => ?_) (fun c46 h => ?_)
                          · skip
                            have hh := hK13 _ h
                            exact a_sub [2] rfl hh
                          · skip
                            refine a_iconst dX4_readSort_125 ?_
                            refine a_goto 130 dX4_readSort_126 (by decide) ?_
                            have hh := hK8 _ h
                            exact a_sub [2] rfl hh
    · skip
      refine a_iconst dX4_readSort_17 ?_
      exact a_zret dX4_readSort_18 rfl (by decide) (p_1 h) (p_S (p_2 h))

def X6_age (F : Nat) (σ : sM) : Option (Int × sM) := bp (X1_isSort σ (σ 49 3)) (fun r1 => if ¬ wi r1 = 0 then bn (X5_becomeLike 52 50 σ) (fun r4 σ6 => bn (X5_weekGoesBy F 52 σ6 (σ6 49 3) 0 8) (fun r7 σ9 => bn (X6_takeTrial F σ9) (fun r10 σ12 => some (r10, σ12)))) else some ((-2), σ))
set_option maxRecDepth 100000 in
set_option maxHeartbeats 400000 in
theorem T_X6_age {G : sG} {q_0 : qT} {x_0 : List Nat} {σ s_0 : sM} {r_0 : Int} {F : Nat}  (h : X6_age F σ = some (r_0, s_0)) : aM G yX6_age cX6_age 1 (some .int) 3 0 0 [.ref (gB G + 49)] (mkSh q_0 x_0, σ) (r_0, (mkSh q_0 x_0, s_0)) := by
  unfold X6_age at h
  refine aM_of (by decide) (Nat.le_of_ble_eq_true rfl) ?_
  show aW G cX6_age RX6 "age" 1 (some .int) _ _ aX 0 0 _ [(0, .ref (gB G + 49))] 0 []
  refine a_aload_n 0 dX6_age_0 rfl ?_
  refine a_getR (j := 0) dX6_age_1 KX6 rfl (by decide) rfl kf_RX6_25 ?_
  refine a_aload_n 0 dX6_age_4 rfl ?_
  refine a_getI (j := 3) dX6_age_5 KX6 rfl (by decide) rfl kf_RX6_21 ?_
  refine bp_s h (fun r1 e2 h => ?_)
  refine a_callVI dX6_age_8 mX1_isSort KX1 rfl kv_X1_isSort ks_X1_isSort rfl km_RX6_33 rfl (T_X1_isSort e2) (fun _ => rfl) rfl (Nat.le_of_ble_eq_true rfl) (Nat.le_of_ble_eq_true rfl) ⟨(Nat.le_of_ble_eq_true rfl), (Nat.le_of_ble_eq_true rfl)⟩ (Nat.le_of_ble_eq_true rfl) ?_
  refine a_if_ne 17 dX6_age_11 (by decide) rfl h (fun c3 h => ?_) (fun c3 h => ?_)
  · skip
    refine a_aload_n 0 dX6_age_17 rfl ?_
    refine a_getR (j := 2) dX6_age_18 KX6 rfl (by decide) rfl kf_RX6_18 ?_
    refine a_aload_n 0 dX6_age_21 rfl ?_
    refine a_getR (j := 1) dX6_age_22 KX6 rfl (by decide) rfl kf_RX6_12 ?_
    refine bn_s h (fun r4 σ6 e5 h => ?_)
    refine a_callVV dX6_age_25 mX5_becomeLike KX5 rfl kv_X5_becomeLike ks_X5_becomeLike rfl km_RX6_39 rfl (T_X5_becomeLike rfl rfl rfl rfl e5) (fun _ => rfl) rfl (Nat.le_of_ble_eq_true rfl) (Nat.le_of_ble_eq_true rfl) ⟨(Nat.le_of_ble_eq_true rfl), (Nat.le_of_ble_eq_true rfl)⟩ (Nat.le_of_ble_eq_true rfl) ?_
    refine a_aload_n 0 dX6_age_28 rfl ?_
    refine a_getR (j := 2) dX6_age_29 KX6 rfl (by decide) rfl kf_RX6_18 ?_
    refine a_aload_n 0 dX6_age_32 rfl ?_
    refine a_getR (j := 0) dX6_age_33 KX6 rfl (by decide) rfl kf_RX6_25 ?_
    refine a_aload_n 0 dX6_age_36 rfl ?_
    refine a_getI (j := 3) dX6_age_37 KX6 rfl (by decide) rfl kf_RX6_21 ?_
    refine a_iconst dX6_age_40 ?_
    refine a_bipush dX6_age_41 (by decide) ?_
    refine bn_s h (fun r7 σ9 e8 h => ?_)
    refine a_callVV dX6_age_43 mX5_weekGoesBy KX5 rfl kv_X5_weekGoesBy ks_X5_weekGoesBy rfl km_RX6_43 rfl (T_X5_weekGoesBy rfl rfl e8) (fun _ => rfl) rfl (Nat.le_of_ble_eq_true rfl) (Nat.le_of_ble_eq_true rfl) ⟨(Nat.le_of_ble_eq_true rfl), (Nat.le_of_ble_eq_true rfl)⟩ (Nat.le_of_ble_eq_true rfl) ?_
    refine a_aload_n 0 dX6_age_46 rfl ?_
    refine bn_s h (fun r10 σ12 e11 h => ?_)
    refine a_callVI dX6_age_47 mX6_takeTrial KX6 rfl kv_X6_takeTrial ks_X6_takeTrial rfl km_RX6_47 rfl (T_X6_takeTrial e11) (fun _ => rfl) rfl (Nat.le_of_ble_eq_true rfl) (Nat.le_of_ble_eq_true rfl) ⟨(Nat.le_of_ble_eq_true rfl), (Nat.le_of_ble_eq_true rfl)⟩ (Nat.le_of_ble_eq_true rfl) ?_
    exact a_iret dX6_age_50 rfl (p_1 h) (p_S (p_2 h))
  · skip
    refine a_bipush dX6_age_14 (by decide) ?_
    exact a_iret dX6_age_16 rfl (p_1 h) (p_S (p_2 h))

def X6_see (F : Nat) (σ : sM) (a1 : Int) : Option (Int × sM) := bp (X1_isSort σ (σ 49 3)) (fun r1 => if ¬ wi r1 = 0 then bn (X5_becomeLike 52 50 σ) (fun r4 σ6 => bn (X5_rindIsSeen F 52 σ6 (σ6 49 3) a1) (fun r7 σ9 => bp (X5_total 52 σ9) (fun r10 => if ¬ wi (q_lcmp r10 0) = 0 then bn (X6_takeTrial F σ9) (fun r13 σ15 => some (r13, σ15)) else some ((-2), σ9)))) else some ((-2), σ))
set_option maxRecDepth 100000 in
set_option maxHeartbeats 400000 in
theorem T_X6_see {G : sG} {q_0 : qT} {x_0 : List Nat} {σ s_0 : sM} {r_0 : Int} {a1 : Int} {F : Nat}  (h : X6_see F σ a1 = some (r_0, s_0)) : aM G yX6_see cX6_see 2 (some .int) 3 0 0 [.ref (gB G + 49), vI a1] (mkSh q_0 x_0, σ) (r_0, (mkSh q_0 x_0, s_0)) := by
  unfold X6_see at h
  refine aM_of (by decide) (Nat.le_of_ble_eq_true rfl) ?_
  show aW G cX6_see RX6 "see" 2 (some .int) _ _ aX 0 0 _ [(0, .ref (gB G + 49)), (1, vI a1)] 0 []
  refine a_aload_n 0 dX6_see_0 rfl ?_
  refine a_getR (j := 0) dX6_see_1 KX6 rfl (by decide) rfl kf_RX6_25 ?_
  refine a_aload_n 0 dX6_see_4 rfl ?_
  refine a_getI (j := 3) dX6_see_5 KX6 rfl (by decide) rfl kf_RX6_21 ?_
  refine bp_s h (fun r1 e2 h => ?_)
  refine a_callVI dX6_see_8 mX1_isSort KX1 rfl kv_X1_isSort ks_X1_isSort rfl km_RX6_33 rfl (T_X1_isSort e2) (fun _ => rfl) rfl (Nat.le_of_ble_eq_true rfl) (Nat.le_of_ble_eq_true rfl) ⟨(Nat.le_of_ble_eq_true rfl), (Nat.le_of_ble_eq_true rfl)⟩ (Nat.le_of_ble_eq_true rfl) ?_
  refine a_if_ne 17 dX6_see_11 (by decide) rfl h (fun c3 h => ?_) (fun c3 h => ?_)
  · skip
    refine a_aload_n 0 dX6_see_17 rfl ?_
    refine a_getR (j := 2) dX6_see_18 KX6 rfl (by decide) rfl kf_RX6_18 ?_
    refine a_aload_n 0 dX6_see_21 rfl ?_
    refine a_getR (j := 1) dX6_see_22 KX6 rfl (by decide) rfl kf_RX6_12 ?_
    refine bn_s h (fun r4 σ6 e5 h => ?_)
    refine a_callVV dX6_see_25 mX5_becomeLike KX5 rfl kv_X5_becomeLike ks_X5_becomeLike rfl km_RX6_39 rfl (T_X5_becomeLike rfl rfl rfl rfl e5) (fun _ => rfl) rfl (Nat.le_of_ble_eq_true rfl) (Nat.le_of_ble_eq_true rfl) ⟨(Nat.le_of_ble_eq_true rfl), (Nat.le_of_ble_eq_true rfl)⟩ (Nat.le_of_ble_eq_true rfl) ?_
    refine a_aload_n 0 dX6_see_28 rfl ?_
    refine a_getR (j := 2) dX6_see_29 KX6 rfl (by decide) rfl kf_RX6_18 ?_
    refine a_aload_n 0 dX6_see_32 rfl ?_
    refine a_getR (j := 0) dX6_see_33 KX6 rfl (by decide) rfl kf_RX6_25 ?_
    refine a_aload_n 0 dX6_see_36 rfl ?_
    refine a_getI (j := 3) dX6_see_37 KX6 rfl (by decide) rfl kf_RX6_21 ?_
    refine a_iload_n 1 dX6_see_40 rfl ?_
    refine bn_s h (fun r7 σ9 e8 h => ?_)
    refine a_callVV dX6_see_41 mX5_rindIsSeen KX5 rfl kv_X5_rindIsSeen ks_X5_rindIsSeen rfl km_RX6_51 rfl (T_X5_rindIsSeen rfl rfl e8) (fun _ => rfl) rfl (Nat.le_of_ble_eq_true rfl) (Nat.le_of_ble_eq_true rfl) ⟨(Nat.le_of_ble_eq_true rfl), (Nat.le_of_ble_eq_true rfl)⟩ (Nat.le_of_ble_eq_true rfl) ?_
    refine a_aload_n 0 dX6_see_44 rfl ?_
    refine a_getR (j := 2) dX6_see_45 KX6 rfl (by decide) rfl kf_RX6_18 ?_
    refine bp_s h (fun r10 e11 h => ?_)
    refine a_callVL dX6_see_48 mX5_total KX5 rfl kv_X5_total ks_X5_total rfl km_RX6_55 rfl (T_X5_total rfl rfl e11) (fun _ => rfl) rfl (Nat.le_of_ble_eq_true rfl) (Nat.le_of_ble_eq_true rfl) ⟨(Nat.le_of_ble_eq_true rfl), (Nat.le_of_ble_eq_true rfl)⟩ (Nat.le_of_ble_eq_true rfl) ?_
    refine a_lconst (z := 0) dX6_see_51 (by decide) ?_
    refine a_lcmp dX6_see_52 ?_
    refine a_if_ne 61 dX6_see_53 (by decide) rfl h (fun c12 h => ?_) (fun c12 h => ?_)
    · skip
      refine a_aload_n 0 dX6_see_61 rfl ?_
      refine bn_s h (fun r13 σ15 e14 h => ?_)
      refine a_callVI dX6_see_62 mX6_takeTrial KX6 rfl kv_X6_takeTrial ks_X6_takeTrial rfl km_RX6_47 rfl (T_X6_takeTrial e14) (fun _ => rfl) rfl (Nat.le_of_ble_eq_true rfl) (Nat.le_of_ble_eq_true rfl) ⟨(Nat.le_of_ble_eq_true rfl), (Nat.le_of_ble_eq_true rfl)⟩ (Nat.le_of_ble_eq_true rfl) ?_
      exact a_iret dX6_see_65 rfl (p_1 h) (p_S (p_2 h))
    · skip
      refine a_bipush dX6_see_56 (by decide) ?_
      refine a_goto 65 dX6_see_58 (by decide) ?_
      exact a_iret dX6_see_65 rfl (p_1 h) (p_S (p_2 h))
  · skip
    refine a_bipush dX6_see_14 (by decide) ?_
    exact a_iret dX6_see_16 rfl (p_1 h) (p_S (p_2 h))

def X8_eat (F : Nat) (σ : sM) (a1 : Int) : Option (Int × sM) := bp (X1_isWheel σ a1) (fun r1 => if wi r1 = 0 then some ((-1), σ) else bn (X8_actIfMay F σ a1) (fun r4 σ6 => some (r4, σ6)))
set_option maxRecDepth 100000 in
set_option maxHeartbeats 400000 in
theorem T_X8_eat {G : sG} {q_0 : qT} {x_0 : List Nat} {σ s_0 : sM} {r_0 : Int} {a1 : Int} {F : Nat}  (h : X8_eat F σ a1 = some (r_0, s_0)) : aM G yX8_eat cX8_eat 2 (some .int) 5 0 0 [.ref (gB G + 0), vI a1] (mkSh q_0 x_0, σ) (r_0, (mkSh q_0 x_0, s_0)) := by
  unfold X8_eat at h
  refine aM_of (by decide) (Nat.le_of_ble_eq_true rfl) ?_
  show aW G cX8_eat RX8 "eat" 2 (some .int) _ _ aX 0 0 _ [(0, .ref (gB G + 0)), (1, vI a1)] 0 []
  refine a_aload_n 0 dX8_eat_0 rfl ?_
  refine a_getR (j := 2) dX8_eat_1 KX8 rfl (by decide) rfl kf_RX8_20 ?_
  refine a_iload_n 1 dX8_eat_4 rfl ?_
  refine bp_s h (fun r1 e2 h => ?_)
  refine a_callVI dX8_eat_5 mX1_isWheel KX1 rfl kv_X1_isWheel ks_X1_isWheel rfl km_RX8_124 rfl (T_X1_isWheel e2) (fun _ => rfl) rfl (Nat.le_of_ble_eq_true rfl) (Nat.le_of_ble_eq_true rfl) ⟨(Nat.le_of_ble_eq_true rfl), (Nat.le_of_ble_eq_true rfl)⟩ (Nat.le_of_ble_eq_true rfl) ?_
  refine a_if_eq 19 dX8_eat_8 (by decide) rfl h (fun c3 h => ?_) (fun c3 h => ?_)
  · skip
    refine a_iconst dX8_eat_19 ?_
    exact a_iret dX8_eat_20 rfl (p_1 h) (p_S (p_2 h))
  · skip
    refine a_aload_n 0 dX8_eat_11 rfl ?_
    refine a_iload_n 1 dX8_eat_12 rfl ?_
    refine bn_s h (fun r4 σ6 e5 h => ?_)
    refine a_callVI dX8_eat_13 mX8_actIfMay KX8 rfl kv_X8_actIfMay ks_X8_actIfMay rfl km_RX8_175 rfl (T_X8_actIfMay e5) (fun _ => rfl) rfl (Nat.le_of_ble_eq_true rfl) (Nat.le_of_ble_eq_true rfl) ⟨(Nat.le_of_ble_eq_true rfl), (Nat.le_of_ble_eq_true rfl)⟩ (Nat.le_of_ble_eq_true rfl) ?_
    refine a_goto 20 dX8_eat_16 (by decide) ?_
    exact a_iret dX8_eat_20 rfl (p_1 h) (p_S (p_2 h))

def X8_sell (F : Nat) (σ : sM) (a1 : Int) : Option (Int × sM) := bp (X1_isWheel σ a1) (fun r1 => if wi r1 = 0 then some ((-1), σ) else bn (X8_actIfMay F σ (3 + a1)) (fun r4 σ6 => some (r4, σ6)))
set_option maxRecDepth 100000 in
set_option maxHeartbeats 400000 in
theorem T_X8_sell {G : sG} {q_0 : qT} {x_0 : List Nat} {σ s_0 : sM} {r_0 : Int} {a1 : Int} {F : Nat}  (h : X8_sell F σ a1 = some (r_0, s_0)) : aM G yX8_sell cX8_sell 2 (some .int) 5 0 0 [.ref (gB G + 0), vI a1] (mkSh q_0 x_0, σ) (r_0, (mkSh q_0 x_0, s_0)) := by
  unfold X8_sell at h
  refine aM_of (by decide) (Nat.le_of_ble_eq_true rfl) ?_
  show aW G cX8_sell RX8 "sell" 2 (some .int) _ _ aX 0 0 _ [(0, .ref (gB G + 0)), (1, vI a1)] 0 []
  refine a_aload_n 0 dX8_sell_0 rfl ?_
  refine a_getR (j := 2) dX8_sell_1 KX8 rfl (by decide) rfl kf_RX8_20 ?_
  refine a_iload_n 1 dX8_sell_4 rfl ?_
  refine bp_s h (fun r1 e2 h => ?_)
  refine a_callVI dX8_sell_5 mX1_isWheel KX1 rfl kv_X1_isWheel ks_X1_isWheel rfl km_RX8_124 rfl (T_X1_isWheel e2) (fun _ => rfl) rfl (Nat.le_of_ble_eq_true rfl) (Nat.le_of_ble_eq_true rfl) ⟨(Nat.le_of_ble_eq_true rfl), (Nat.le_of_ble_eq_true rfl)⟩ (Nat.le_of_ble_eq_true rfl) ?_
  refine a_if_eq 21 dX8_sell_8 (by decide) rfl h (fun c3 h => ?_) (fun c3 h => ?_)
  · skip
    refine a_iconst dX8_sell_21 ?_
    exact a_iret dX8_sell_22 rfl (p_1 h) (p_S (p_2 h))
  · skip
    refine a_aload_n 0 dX8_sell_11 rfl ?_
    refine a_iconst dX8_sell_12 ?_
    refine a_iload_n 1 dX8_sell_13 rfl ?_
    refine a_iadd dX8_sell_14 ?_
    refine bn_s h (fun r4 σ6 e5 h => ?_)
    refine a_callVI dX8_sell_15 mX8_actIfMay KX8 rfl kv_X8_actIfMay ks_X8_actIfMay rfl km_RX8_175 rfl (T_X8_actIfMay e5) (fun _ => rfl) rfl (Nat.le_of_ble_eq_true rfl) (Nat.le_of_ble_eq_true rfl) ⟨(Nat.le_of_ble_eq_true rfl), (Nat.le_of_ble_eq_true rfl)⟩ (Nat.le_of_ble_eq_true rfl) ?_
    refine a_goto 22 dX8_sell_18 (by decide) ?_
    exact a_iret dX8_sell_22 rfl (p_1 h) (p_S (p_2 h))

def X8_aged (F : Nat) (σ : sM) : Option (Int × sM) := bn (X6_age F σ) (fun r1 σ3 => some (r1, σ3))
set_option maxRecDepth 100000 in
set_option maxHeartbeats 400000 in
theorem T_X8_aged {G : sG} {q_0 : qT} {x_0 : List Nat} {σ s_0 : sM} {r_0 : Int} {F : Nat}  (h : X8_aged F σ = some (r_0, s_0)) : aM G yX8_aged cX8_aged 1 (some .int) 4 0 0 [.ref (gB G + 0)] (mkSh q_0 x_0, σ) (r_0, (mkSh q_0 x_0, s_0)) := by
  unfold X8_aged at h
  refine aM_of (by decide) (Nat.le_of_ble_eq_true rfl) ?_
  show aW G cX8_aged RX8 "aged" 1 (some .int) _ _ aX 0 0 _ [(0, .ref (gB G + 0))] 0 []
  refine a_aload_n 0 dX8_aged_0 rfl ?_
  refine a_getR (j := 12) dX8_aged_1 KX8 rfl (by decide) rfl kf_RX8_78 ?_
  refine bn_s h (fun r1 σ3 e2 h => ?_)
  refine a_callVI dX8_aged_4 mX6_age KX6 rfl kv_X6_age ks_X6_age rfl km_RX8_294 rfl (T_X6_age e2) (fun _ => rfl) rfl (Nat.le_of_ble_eq_true rfl) (Nat.le_of_ble_eq_true rfl) ⟨(Nat.le_of_ble_eq_true rfl), (Nat.le_of_ble_eq_true rfl)⟩ (Nat.le_of_ble_eq_true rfl) ?_
  exact a_iret dX8_aged_7 rfl (p_1 h) (p_S (p_2 h))

def X8_shown (F : Nat) (σ : sM) (a1 : Int) : Option (Int × sM) := if wi a1 < 0 then some ((-1), σ) else if wi a1 ≤ 1 then jn (fun q3 : Int => bn (X6_see F σ q3) (fun r5 σ7 => some (r5, σ7))) (fun K4 => if ¬ wi a1 = 1 then K4 0 else K4 1) else some ((-1), σ)
set_option maxRecDepth 100000 in
set_option maxHeartbeats 400000 in
theorem T_X8_shown {G : sG} {q_0 : qT} {x_0 : List Nat} {σ s_0 : sM} {r_0 : Int} {a1 : Int} {F : Nat}  (h : X8_shown F σ a1 = some (r_0, s_0)) : aM G yX8_shown cX8_shown 2 (some .int) 4 0 0 [.ref (gB G + 0), vI a1] (mkSh q_0 x_0, σ) (r_0, (mkSh q_0 x_0, s_0)) := by
  unfold X8_shown at h
  refine aM_of (by decide) (Nat.le_of_ble_eq_true rfl) ?_
  show aW G cX8_shown RX8 "shown" 2 (some .int) _ _ aX 0 0 _ [(0, .ref (gB G + 0)), (1, vI a1)] 0 []
  refine a_iload_n 1 dX8_shown_0 rfl ?_
  refine a_if_lt 9 dX8_shown_1 (by decide) rfl h (fun c1 h => ?_) (fun c1 h => ?_)
  · skip
    refine a_iconst dX8_shown_9 ?_
    refine a_goto 30 dX8_shown_10 (by decide) ?_
    exact a_iret dX8_shown_30 rfl (p_1 h) (p_S (p_2 h))
  · skip
    refine a_iload_n 1 dX8_shown_4 rfl ?_
    refine a_iconst dX8_shown_5 ?_
    refine a_icmp_le 13 dX8_shown_6 (by decide) rfl (by decide) h (fun c2 h => ?_) (fun c2 h => ?_)
    · skip
      refine a_aload_n 0 dX8_shown_13 rfl ?_
      refine a_getR (j := 12) dX8_shown_14 KX8 rfl (by decide) rfl kf_RX8_78 ?_
      refine a_iload_n 1 dX8_shown_17 rfl ?_
      refine a_iconst dX8_shown_18 ?_
      refine jn_s (fun q3 : Int => aW G cX8_shown RX8 "shown" 2 (some .int) (sR 4 0 0) (aQ G (some .int) 0 0 (r_0, (mkSh q_0 x_0, s_0))) aX 0 0 (mkSh q_0 x_0, σ) [] 27 [vI q3, .ref (gB G + 49)]) h (fun q3 h => ?_) (fun K4 hK4 h => ?_)
      · skip
        refine bn_s h (fun r5 σ7 e6 h => ?_)
        refine a_callVI dX8_shown_27 mX6_see KX6 rfl kv_X6_see ks_X6_see rfl km_RX8_297 rfl (T_X6_see e6) (fun _ => rfl) rfl (Nat.le_of_ble_eq_true rfl) (Nat.le_of_ble_eq_true rfl) ⟨(Nat.le_of_ble_eq_true rfl), (Nat.le_of_ble_eq_true rfl)⟩ (Nat.le_of_ble_eq_true rfl) ?_
        exact a_iret dX8_shown_30 rfl (p_1 h) (p_S (p_2 h))
      · skip
        refine a_icmp_ne 26 dX8_shown_19 (by decide) rfl (by decide) h (fun c8 h => ?_) (fun c8 h => ?_)
        · skip
          refine a_iconst dX8_shown_26 ?_
          have hh := hK4 _ h
          exact a_sub [] rfl hh
        · skip
          refine a_iconst dX8_shown_22 ?_
          refine a_goto 27 dX8_shown_23 (by decide) ?_
          have hh := hK4 _ h
          exact a_sub [] rfl hh
    · skip
      refine a_iconst dX8_shown_9 ?_
      refine a_goto 30 dX8_shown_10 (by decide) ?_
      exact a_iret dX8_shown_30 rfl (p_1 h) (p_S (p_2 h))

def X8_note (σ : sM) (a1 a2 : Int) : Option (Int × sM) := bp (X1_isWheel σ a2) (fun r1 => if wi r1 = 0 then some ((-1000000), σ) else bn (X2_byKind σ a1 (σ 26 2) a2) (fun r4 σ6 => some (r4, σ6)))
set_option maxRecDepth 100000 in
set_option maxHeartbeats 400000 in
theorem T_X8_note {G : sG} {q_0 : qT} {x_0 : List Nat} {σ s_0 : sM} {r_0 : Int} {a1 a2 : Int}  (h : X8_note σ a1 a2 = some (r_0, s_0)) : aM G yX8_note cX8_note 3 (some .int) 5 0 0 [.ref (gB G + 0), vI a1, vI a2] (mkSh q_0 x_0, σ) (r_0, (mkSh q_0 x_0, s_0)) := by
  unfold X8_note at h
  refine aM_of (by decide) (Nat.le_of_ble_eq_true rfl) ?_
  show aW G cX8_note RX8 "note" 3 (some .int) _ _ aX 0 0 _ [(0, .ref (gB G + 0)), (1, vI a1), (2, vI a2)] 0 []
  refine a_aload_n 0 dX8_note_0 rfl ?_
  refine a_getR (j := 2) dX8_note_1 KX8 rfl (by decide) rfl kf_RX8_20 ?_
  refine a_iload_n 2 dX8_note_4 rfl ?_
  refine bp_s h (fun r1 e2 h => ?_)
  refine a_callVI dX8_note_5 mX1_isWheel KX1 rfl kv_X1_isWheel ks_X1_isWheel rfl km_RX8_124 rfl (T_X1_isWheel e2) (fun _ => rfl) rfl (Nat.le_of_ble_eq_true rfl) (Nat.le_of_ble_eq_true rfl) ⟨(Nat.le_of_ble_eq_true rfl), (Nat.le_of_ble_eq_true rfl)⟩ (Nat.le_of_ble_eq_true rfl) ?_
  refine a_if_eq 30 dX8_note_8 (by decide) rfl h (fun c3 h => ?_) (fun c3 h => ?_)
  · skip
    refine a_ldc (z := -1000000) dX8_note_30 kc_RX8_250 (by decide) ?_
    exact a_iret dX8_note_32 rfl (p_1 h) (p_S (p_2 h))
  · skip
    refine a_aload_n 0 dX8_note_11 rfl ?_
    refine a_getR (j := 13) dX8_note_12 KX8 rfl (by decide) rfl kf_RX8_85 ?_
    refine a_iload_n 1 dX8_note_15 rfl ?_
    refine a_aload_n 0 dX8_note_16 rfl ?_
    refine a_getR (j := 5) dX8_note_17 KX8 rfl (by decide) rfl kf_RX8_39 ?_
    refine a_getIN (j := 2) dX8_note_20 KX7 rfl (by decide) rfl kf_RX8_133 ?_
    refine a_iload_n 2 dX8_note_23 rfl ?_
    refine bn_s h (fun r4 σ6 e5 h => ?_)
    refine a_callVI dX8_note_24 mX2_byKind KX2 rfl kv_X2_byKind ks_X2_byKind rfl km_RX8_305 rfl (T_X2_byKind e5) (fun _ => rfl) rfl (Nat.le_of_ble_eq_true rfl) (Nat.le_of_ble_eq_true rfl) ⟨(Nat.le_of_ble_eq_true rfl), (Nat.le_of_ble_eq_true rfl)⟩ (Nat.le_of_ble_eq_true rfl) ?_
    refine a_goto 32 dX8_note_27 (by decide) ?_
    exact a_iret dX8_note_32 rfl (p_1 h) (p_S (p_2 h))

def X9_know (F : Nat) (σ : sM) : Option (Int × sM) := bn (X9_valueNow F σ 4) (fun r1 σ3 => bn (X9_blindNow F σ3) (fun r4 σ6 => some (r1 - r4, σ6)))
set_option maxRecDepth 100000 in
set_option maxHeartbeats 400000 in
theorem T_X9_know {G : sG} {q_0 : qT} {x_0 : List Nat} {σ s_0 : sM} {r_0 : Int} {F : Nat}  (h : X9_know F σ = some (r_0, s_0)) : aM G yX9_know cX9_know 1 (some .int) 9 0 0 [.ref (gB G + 55)] (mkSh q_0 x_0, σ) (r_0, (mkSh q_0 x_0, s_0)) := by
  unfold X9_know at h
  refine aM_of (by decide) (Nat.le_of_ble_eq_true rfl) ?_
  show aW G cX9_know RX9 "know" 1 (some .int) _ _ aX 0 0 _ [(0, .ref (gB G + 55))] 0 []
  refine a_aload_n 0 dX9_know_0 rfl ?_
  refine a_iconst dX9_know_1 ?_
  refine bn_s h (fun r1 σ3 e2 h => ?_)
  refine a_callVI dX9_know_2 mX9_valueNow KX9 rfl kv_X9_valueNow ks_X9_valueNow rfl km_RX9_236 rfl (T_X9_valueNow e2) (fun _ => rfl) rfl (Nat.le_of_ble_eq_true rfl) (Nat.le_of_ble_eq_true rfl) ⟨(Nat.le_of_ble_eq_true rfl), (Nat.le_of_ble_eq_true rfl)⟩ (Nat.le_of_ble_eq_true rfl) ?_
  refine a_aload_n 0 dX9_know_5 rfl ?_
  refine bn_s h (fun r4 σ6 e5 h => ?_)
  refine a_callVI dX9_know_6 mX9_blindNow KX9 rfl kv_X9_blindNow ks_X9_blindNow rfl km_RX9_276 rfl (T_X9_blindNow e5) (fun _ => rfl) rfl (Nat.le_of_ble_eq_true rfl) (Nat.le_of_ble_eq_true rfl) ⟨(Nat.le_of_ble_eq_true rfl), (Nat.le_of_ble_eq_true rfl)⟩ (Nat.le_of_ble_eq_true rfl) ?_
  refine a_isub dX9_know_9 ?_
  exact a_iret dX9_know_10 rfl (p_1 h) (p_S (p_2 h))

def X4_readItem (F : Nat) (σ : sM) (a1 : Int) : Option (Int × sM) := if wi (σ 22 7) = 4 then if wi a1 = 0 then some (0, σ) else bn (X4_readWeeks σ) (fun r3 σ5 => if wi r3 = 0 then some (0, σ5) else some (1, σ5)) else if wi (σ 22 7) = 5 then if 4 ≤ wi (σ 12 5) then some (0, σ) else bn (X4_readSort F σ) (fun r9 σ11 => if wi r9 = 0 then some (0, σ11) else some (1, σ11)) else if wi (σ 22 7) = 6 then some (0, σ) else if wi (σ 22 7) = 7 then some (0, σ) else if wi (σ 22 7) = 8 then some (0, σ) else if wi (σ 22 7) = 9 then if 3 ≤ wi (σ 12 6) then some (0, σ) else bn (X4_readWheel σ) (fun r18 σ20 => if wi r18 = 0 then some (0, σ20) else some (1, σ20)) else if wi (σ 22 7) = 10 then bn (X4_readOpen σ) (fun r23 σ25 => if wi r23 = 0 ∨ wi r23 = 1 then some (r23, σ25) else none) else if wi (σ 22 7) = 11 then bn (X4_readOfWeek 20 8 σ 5) (fun r28 σ30 => if wi r28 = 0 ∨ wi r28 = 1 then some (r28, σ30) else none) else if wi (σ 22 7) = 12 then bn (X4_readOfWeek 21 8 σ 99) (fun r33 σ35 => if wi r33 = 0 ∨ wi r33 = 1 then some (r33, σ35) else none) else some (0, σ)
set_option maxRecDepth 100000 in
set_option maxHeartbeats 400000 in
theorem T_X4_readItem {G : sG} {q_0 : qT} {x_0 : List Nat} {σ s_0 : sM} {r_0 : Int} {a1 : Int} {F : Nat}  (h : X4_readItem F σ a1 = some (r_0, s_0)) : aM G yX4_readItem cX4_readItem 2 (some .boolean) 3 0 0 [.ref (gB G + 22), vI a1] (mkSh q_0 x_0, σ) (r_0, (mkSh q_0 x_0, s_0)) := by
  unfold X4_readItem at h
  refine aM_of (by decide) (Nat.le_of_ble_eq_true rfl) ?_
  show aW G cX4_readItem RX4 "readItem" 2 (some .boolean) _ _ aX 0 0 _ [(0, .ref (gB G + 22)), (1, vI a1)] 0 []
  refine a_aload_n 0 dX4_readItem_0 rfl ?_
  refine a_getI (j := 7) dX4_readItem_1 KX4 rfl (by decide) rfl kf_RX4_28 ?_
  refine a_if h (fun c1 h => ?_) (fun c1 h => ?_)
  · skip
    refine a_tsIn (off := 52) 56 dX4_readItem_4 c1 (by decide) (by decide) (by decide) ?_
    refine a_iload_n 1 dX4_readItem_56 rfl ?_
    refine a_if_eq 71 dX4_readItem_57 (by decide) rfl h (fun c2 h => ?_) (fun c2 h => ?_)
    · skip
      refine a_iconst dX4_readItem_71 ?_
      exact a_zret dX4_readItem_72 rfl (by decide) (p_1 h) (p_S (p_2 h))
    · skip
      refine a_aload_n 0 dX4_readItem_60 rfl ?_
      refine bn_s h (fun r3 σ5 e4 h => ?_)
      refine a_callVI dX4_readItem_61 mX4_readWeeks KX4 rfl kv_X4_readWeeks ks_X4_readWeeks rfl km_RX4_67 rfl (T_X4_readWeeks e4) (fun _ => rfl) rfl (Nat.le_of_ble_eq_true rfl) (Nat.le_of_ble_eq_true rfl) ⟨(Nat.le_of_ble_eq_true rfl), (Nat.le_of_ble_eq_true rfl)⟩ (Nat.le_of_ble_eq_true rfl) ?_
      refine a_if_eq 71 dX4_readItem_64 (by decide) rfl h (fun c6 h => ?_) (fun c6 h => ?_)
      · skip
        refine a_iconst dX4_readItem_71 ?_
        exact a_zret dX4_readItem_72 rfl (by decide) (p_1 h) (p_S (p_2 h))
      · skip
        refine a_iconst dX4_readItem_67 ?_
        refine a_goto 72 dX4_readItem_68 (by decide) ?_
        exact a_zret dX4_readItem_72 rfl (by decide) (p_1 h) (p_S (p_2 h))
  · skip
    refine a_if h (fun c7 h => ?_) (fun c7 h => ?_)
    · skip
      refine a_tsIn (off := 69) 73 dX4_readItem_4 c7 (by decide) (by decide) (by decide) ?_
      refine a_aload_n 0 dX4_readItem_73 rfl ?_
      refine a_getR (j := 1) dX4_readItem_74 KX4 rfl (by decide) rfl kf_RX4_38 ?_
      refine a_getIN (j := 5) dX4_readItem_77 KX1 rfl (by decide) rfl kf_RX4_71 ?_
      refine a_iconst dX4_readItem_80 ?_
      refine a_icmp_ge 95 dX4_readItem_81 (by decide) rfl (by decide) h (fun c8 h => ?_) (fun c8 h => ?_)
      · skip
        refine a_iconst dX4_readItem_95 ?_
        exact a_zret dX4_readItem_96 rfl (by decide) (p_1 h) (p_S (p_2 h))
      · skip
        refine a_aload_n 0 dX4_readItem_84 rfl ?_
        refine bn_s h (fun r9 σ11 e10 h => ?_)
        refine a_callVI dX4_readItem_85 mX4_readSort KX4 rfl kv_X4_readSort ks_X4_readSort rfl km_RX4_74 rfl (T_X4_readSort e10) (fun _ => rfl) rfl (Nat.le_of_ble_eq_true rfl) (Nat.le_of_ble_eq_true rfl) ⟨(Nat.le_of_ble_eq_true rfl), (Nat.le_of_ble_eq_true rfl)⟩ (Nat.le_of_ble_eq_true rfl) ?_
        refine a_if_eq 95 dX4_readItem_88 (by decide) rfl h (fun c12 h => ?_) (fun c12 h => ?_)
        · skip
          refine a_iconst dX4_readItem_95 ?_
          exact a_zret dX4_readItem_96 rfl (by decide) (p_1 h) (p_S (p_2 h))
        · skip
          refine a_iconst dX4_readItem_91 ?_
          refine a_goto 96 dX4_readItem_92 (by decide) ?_
          exact a_zret dX4_readItem_96 rfl (by decide) (p_1 h) (p_S (p_2 h))
    · skip
      refine a_if h (fun c13 h => ?_) (fun c13 h => ?_)
      · skip
        refine a_tsIn (off := 149) 153 dX4_readItem_4 c13 (by decide) (by decide) (by decide) ?_
        refine a_iconst dX4_readItem_153 ?_
        exact a_zret dX4_readItem_154 rfl (by decide) (p_1 h) (p_S (p_2 h))
      · skip
        refine a_if h (fun c14 h => ?_) (fun c14 h => ?_)
        · skip
          refine a_tsIn (off := 149) 153 dX4_readItem_4 c14 (by decide) (by decide) (by decide) ?_
          refine a_iconst dX4_readItem_153 ?_
          exact a_zret dX4_readItem_154 rfl (by decide) (p_1 h) (p_S (p_2 h))
        · skip
          refine a_if h (fun c15 h => ?_) (fun c15 h => ?_)
          · skip
            refine a_tsIn (off := 149) 153 dX4_readItem_4 c15 (by decide) (by decide) (by decide) ?_
            refine a_iconst dX4_readItem_153 ?_
            exact a_zret dX4_readItem_154 rfl (by decide) (p_1 h) (p_S (p_2 h))
          · skip
            refine a_if h (fun c16 h => ?_) (fun c16 h => ?_)
            · skip
              refine a_tsIn (off := 93) 97 dX4_readItem_4 c16 (by decide) (by decide) (by decide) ?_
              refine a_aload_n 0 dX4_readItem_97 rfl ?_
              refine a_getR (j := 1) dX4_readItem_98 KX4 rfl (by decide) rfl kf_RX4_38 ?_
              refine a_getIN (j := 6) dX4_readItem_101 KX1 rfl (by decide) rfl kf_RX4_77 ?_
              refine a_iconst dX4_readItem_104 ?_
              refine a_icmp_ge 119 dX4_readItem_105 (by decide) rfl (by decide) h (fun c17 h => ?_) (fun c17 h => ?_)
              · skip
                refine a_iconst dX4_readItem_119 ?_
                exact a_zret dX4_readItem_120 rfl (by decide) (p_1 h) (p_S (p_2 h))
              · skip
                refine a_aload_n 0 dX4_readItem_108 rfl ?_
                refine bn_s h (fun r18 σ20 e19 h => ?_)
                refine a_callVI dX4_readItem_109 mX4_readWheel KX4 rfl kv_X4_readWheel ks_X4_readWheel rfl km_RX4_80 rfl (T_X4_readWheel e19) (fun _ => rfl) rfl (Nat.le_of_ble_eq_true rfl) (Nat.le_of_ble_eq_true rfl) ⟨(Nat.le_of_ble_eq_true rfl), (Nat.le_of_ble_eq_true rfl)⟩ (Nat.le_of_ble_eq_true rfl) ?_
                refine a_if_eq 119 dX4_readItem_112 (by decide) rfl h (fun c21 h => ?_) (fun c21 h => ?_)
                · skip
                  refine a_iconst dX4_readItem_119 ?_
                  exact a_zret dX4_readItem_120 rfl (by decide) (p_1 h) (p_S (p_2 h))
                · skip
                  refine a_iconst dX4_readItem_115 ?_
                  refine a_goto 120 dX4_readItem_116 (by decide) ?_
                  exact a_zret dX4_readItem_120 rfl (by decide) (p_1 h) (p_S (p_2 h))
            · skip
              refine a_if h (fun c22 h => ?_) (fun c22 h => ?_)
              · skip
                refine a_tsIn (off := 117) 121 dX4_readItem_4 c22 (by decide) (by decide) (by decide) ?_
                refine a_aload_n 0 dX4_readItem_121 rfl ?_
                refine bn_s h (fun r23 σ25 e24 h => ?_)
                refine a_callVI dX4_readItem_122 mX4_readOpen KX4 rfl kv_X4_readOpen ks_X4_readOpen rfl km_RX4_83 rfl (T_X4_readOpen e24) (fun _ => rfl) rfl (Nat.le_of_ble_eq_true rfl) (Nat.le_of_ble_eq_true rfl) ⟨(Nat.le_of_ble_eq_true rfl), (Nat.le_of_ble_eq_true rfl)⟩ (Nat.le_of_ble_eq_true rfl) ?_
                refine a_gd h (fun c26 h => ?_)
                exact a_zret dX4_readItem_125 rfl (nb_01 c26) (p_1 h) (p_S (p_2 h))
              · skip
                refine a_if h (fun c27 h => ?_) (fun c27 h => ?_)
                · skip
                  refine a_tsIn (off := 122) 126 dX4_readItem_4 c27 (by decide) (by decide) (by decide) ?_
                  refine a_aload_n 0 dX4_readItem_126 rfl ?_
                  refine a_aload_n 0 dX4_readItem_127 rfl ?_
                  refine a_getR (j := 1) dX4_readItem_128 KX4 rfl (by decide) rfl kf_RX4_38 ?_
                  refine a_getRN (j := 3) dX4_readItem_131 KX1 rfl (by decide) rfl kf_RX4_86 ?_
                  refine a_iconst dX4_readItem_134 ?_
                  refine bn_s h (fun r28 σ30 e29 h => ?_)
                  refine a_callVI dX4_readItem_135 mX4_readOfWeek KX4 rfl kv_X4_readOfWeek ks_X4_readOfWeek rfl km_RX4_89 rfl (T_X4_readOfWeek rfl e29) (fun _ => rfl) rfl (Nat.le_of_ble_eq_true rfl) (Nat.le_of_ble_eq_true rfl) ⟨(Nat.le_of_ble_eq_true rfl), (Nat.le_of_ble_eq_true rfl)⟩ (Nat.le_of_ble_eq_true rfl) ?_
                  refine a_gd h (fun c31 h => ?_)
                  exact a_zret dX4_readItem_138 rfl (nb_01 c31) (p_1 h) (p_S (p_2 h))
                · skip
                  refine a_if h (fun c32 h => ?_) (fun c32 h => ?_)
                  · skip
                    refine a_tsIn (off := 135) 139 dX4_readItem_4 c32 (by decide) (by decide) (by decide) ?_
                    refine a_aload_n 0 dX4_readItem_139 rfl ?_
                    refine a_aload_n 0 dX4_readItem_140 rfl ?_
                    refine a_getR (j := 1) dX4_readItem_141 KX4 rfl (by decide) rfl kf_RX4_38 ?_
                    refine a_getRN (j := 4) dX4_readItem_144 KX1 rfl (by decide) rfl kf_RX4_93 ?_
                    refine a_bipush dX4_readItem_147 (by decide) ?_
                    refine bn_s h (fun r33 σ35 e34 h => ?_)
                    refine a_callVI dX4_readItem_149 mX4_readOfWeek KX4 rfl kv_X4_readOfWeek ks_X4_readOfWeek rfl km_RX4_89 rfl (T_X4_readOfWeek rfl e34) (fun _ => rfl) rfl (Nat.le_of_ble_eq_true rfl) (Nat.le_of_ble_eq_true rfl) ⟨(Nat.le_of_ble_eq_true rfl), (Nat.le_of_ble_eq_true rfl)⟩ (Nat.le_of_ble_eq_true rfl) ?_
                    refine a_gd h (fun c36 h => ?_)
                    exact a_zret dX4_readItem_152 rfl (nb_01 c36) (p_1 h) (p_S (p_2 h))
                  · skip
                    refine a_tsOut (v := wi (σ 22 7)) 153 dX4_readItem_4 rfl (by omega) (by decide) ?_
                    refine a_iconst dX4_readItem_153 ?_
                    exact a_zret dX4_readItem_154 rfl (by decide) (p_1 h) (p_S (p_2 h))

