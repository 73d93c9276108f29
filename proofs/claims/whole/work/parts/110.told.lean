def X9_blind (F : Nat) (σ : sM) (a1 : Int) : Option (Int × sM) := bp (X9_isOver σ) (fun r1 => jn (fun q3 : Int => bp (X9_in σ a1 (-2) (q3 - 1)) (fun r5 => if ¬ wi r5 = 0 then jn (fun q8 : sM × Int => if ¬ wi a1 = (-2) then if ¬ wi a1 = (-1) then if 0 ≤ wi a1 ∧ wi a1 < 8 then some (q8.1 81 (wi a1).toNat, q8.1) else none else some (q8.2, q8.1) else some (q3, q8.1)) (fun K9 => if ¬ wi q3 = 0 then bn (X9_findRow F σ) (fun r14 σ16 => K9 (σ16, r14)) else K9 (σ, 0)) else some ((-1000000), σ))) (fun K4 => if wi r1 = 0 then bp (X9_firstWeek σ) (fun r18 => K4 ((σ 59 0) - r18)) else K4 0))
set_option maxRecDepth 100000 in
set_option maxHeartbeats 400000 in
theorem T_X9_blind {G : sG} {q_0 : qT} {x_0 : List Nat} {σ s_0 : sM} {r_0 : Int} {a1 : Int} {F : Nat}  (h : X9_blind F σ a1 = some (r_0, s_0)) : aM G yX9_blind cX9_blind 4 (some .int) 5 0 0 [.ref (gP G 55), vI a1] (mkSh q_0 x_0, σ) (r_0, (mkSh q_0 x_0, s_0)) := by
  unfold X9_blind at h
  refine aM_of (by decide) (Nat.le_of_ble_eq_true rfl) ?_
  show aW G cX9_blind RX9 "blind" 4 (some .int) _ _ aX 0 0 _ [(0, .ref (gP G 55)), (1, vI a1)] 0 []
  refine a_aload_n 0 dX9_blind_0 rfl ?_
  refine bp_s h (fun r1 e2 h => ?_)
  refine a_callVI dX9_blind_1 mX9_isOver KX9 rfl kv_X9_isOver ks_X9_isOver rfl km_RX9_188 rfl (T_X9_isOver e2) (fun _ => rfl) rfl (Nat.le_of_ble_eq_true rfl) (Nat.le_of_ble_eq_true rfl) ⟨(Nat.le_of_ble_eq_true rfl), (Nat.le_of_ble_eq_true rfl)⟩ (Nat.le_of_ble_eq_true rfl) ?_
  refine jn_s (fun q3 : Int => aW G cX9_blind RX9 "blind" 4 (some .int) (sR 5 0 0) (aQ G (some .int) 0 0 (r_0, (mkSh q_0 x_0, s_0))) aX 0 0 (mkSh q_0 x_0, σ) [(0, .ref (gP G 55)), (1, vI a1)] 22 [vI q3]) h (fun q3 h => ?_) (fun K4 hK4 h => ?_)
  · skip
    refine a_istore_n (L' := [(2, vI q3), (0, .ref (gP G 55)), (1, vI a1)]) dX9_blind_22 (by decide) rfl ?_
    refine a_iload_n 2 dX9_blind_23 rfl ?_
    refine a_bipush dX9_blind_24 (by decide) ?_
    refine a_iload_n 0 dX9_blind_26 rfl ?_
    refine a_iconst dX9_blind_27 ?_
    refine a_isub dX9_blind_28 ?_
    refine bp_s h (fun r5 e6 h => ?_)
    refine a_callSI dX9_blind_29 mX9_in kv_X9_in km_RX9_103 rfl (T_X9_in e6) (fun _ => rfl) rfl (Nat.le_of_ble_eq_true rfl) (Nat.le_of_ble_eq_true rfl) ⟨(Nat.le_of_ble_eq_true rfl), (Nat.le_of_ble_eq_true rfl)⟩ (Nat.le_of_ble_eq_true rfl) ?_
    refine a_if_ne 38 dX9_blind_32 (by decide) rfl h (fun c7 h => ?_) (fun c7 h => ?_)
    · skip
      refine a_iload_n 0 dX9_blind_38 rfl ?_
      refine jn_s (fun q8 : sM × Int => aW G cX9_blind RX9 "blind" 4 (some .int) (sR 5 0 0) (aQ G (some .int) 0 0 (r_0, (mkSh q_0 x_0, s_0))) aX 0 0 (mkSh q_0 x_0, q8.1) [(0, .ref (gP G 55)), (1, vI a1), (2, vI q3)] 50 [vI q8.2]) h (fun q8 h => ?_) (fun K9 hK9 h => ?_)
      · skip
        refine a_istore_n (L' := [(3, vI q8.2), (0, .ref (gP G 55)), (1, vI a1), (2, vI q3)]) dX9_blind_50 (by decide) rfl ?_
        refine a_iload_n 2 dX9_blind_51 rfl ?_
        refine a_bipush dX9_blind_52 (by decide) ?_
        refine a_icmp_ne 61 dX9_blind_54 (by decide) rfl (by decide) h (fun c10 h => ?_) (fun c10 h => ?_)
        · skip
          refine a_iload_n 2 dX9_blind_61 rfl ?_
          refine a_iconst dX9_blind_62 ?_
          refine a_icmp_ne 70 dX9_blind_63 (by decide) rfl (by decide) h (fun c11 h => ?_) (fun c11 h => ?_)
          · skip
            refine a_aload_n 1 dX9_blind_70 rfl ?_
            refine a_getR (j := 32) dX9_blind_71 KX9 rfl (by decide) rfl kf_RX9_87 ?_
            refine a_iload_n 2 dX9_blind_74 rfl ?_
            refine a_gd h (fun c12 h => ?_)
            refine a_iald (x' := wi a1) dX9_blind_75 rfl rfl c12 rfl ?_
            exact a_iret dX9_blind_76 rfl (p_1 h) (p_S (p_2 h))
          · skip
            refine a_iload_n 0 dX9_blind_66 rfl ?_
            refine a_goto 76 dX9_blind_67 (by decide) ?_
            exact a_iret dX9_blind_76 rfl (p_1 h) (p_S (p_2 h))
        · skip
          refine a_iload_n 3 dX9_blind_57 rfl ?_
          refine a_goto 76 dX9_blind_58 (by decide) ?_
          exact a_iret dX9_blind_76 rfl (p_1 h) (p_S (p_2 h))
      · skip
        refine a_if_ne 46 dX9_blind_39 (by decide) rfl h (fun c13 h => ?_) (fun c13 h => ?_)
        · skip
          refine a_aload_n 1 dX9_blind_46 rfl ?_
          refine bn_s h (fun r14 σ16 e15 h => ?_)
          refine a_callVI dX9_blind_47 mX9_findRow KX9 rfl kv_X9_findRow ks_X9_findRow rfl km_RX9_273 rfl (T_X9_findRow e15) (fun _ => rfl) rfl (Nat.le_of_ble_eq_true rfl) (Nat.le_of_ble_eq_true rfl) ⟨(Nat.le_of_ble_eq_true rfl), (Nat.le_of_ble_eq_true rfl)⟩ (Nat.le_of_ble_eq_true rfl) ?_
          have hh := hK9 _ h
          exact a_sub [1, 2, 0] rfl hh
        · skip
          refine a_iconst dX9_blind_42 ?_
          refine a_goto 50 dX9_blind_43 (by decide) ?_
          have hh := hK9 _ h
          exact a_sub [1, 2, 0] rfl hh
    · skip
      refine a_ldc (z := -1000000) dX9_blind_35 kc_RX9_242 (by decide) ?_
      exact a_iret dX9_blind_37 rfl (p_1 h) (p_S (p_2 h))
  · skip
    refine a_if_eq 11 dX9_blind_4 (by decide) rfl h (fun c17 h => ?_) (fun c17 h => ?_)
    · skip
      refine a_aload_n 0 dX9_blind_11 rfl ?_
      refine a_getR (j := 5) dX9_blind_12 KX9 rfl (by decide) rfl kf_RX9_20 ?_
      refine a_iconst dX9_blind_15 ?_
      refine a_iald (x' := 0) dX9_blind_16 rfl (by decide) (by decide) rfl ?_
      refine a_aload_n 0 dX9_blind_17 rfl ?_
      refine bp_s h (fun r18 e19 h => ?_)
      refine a_callVI dX9_blind_18 mX9_firstWeek KX9 rfl kv_X9_firstWeek ks_X9_firstWeek rfl km_RX9_255 rfl (T_X9_firstWeek e19) (fun _ => rfl) rfl (Nat.le_of_ble_eq_true rfl) (Nat.le_of_ble_eq_true rfl) ⟨(Nat.le_of_ble_eq_true rfl), (Nat.le_of_ble_eq_true rfl)⟩ (Nat.le_of_ble_eq_true rfl) ?_
      refine a_isub dX9_blind_21 ?_
      have hh := hK4 _ h
      exact a_sub [0, 1] rfl hh
    · skip
      refine a_iconst dX9_blind_7 ?_
      refine a_goto 22 dX9_blind_8 (by decide) ?_
      have hh := hK4 _ h
      exact a_sub [0, 1] rfl hh

def X9_blindNow (F : Nat) (σ : sM) : Option (Int × sM) := bp (X9_isOver σ) (fun r1 => if ¬ wi r1 = 0 then some (0, σ) else bp (X9_firstWeek σ) (fun r4 => if ¬ wi (σ 59 0) = wi r4 then bn (X9_findRow F σ) (fun r7 σ9 => some (r7, σ9)) else some (0, σ)))
set_option maxRecDepth 100000 in
set_option maxHeartbeats 400000 in
theorem T_X9_blindNow {G : sG} {q_0 : qT} {x_0 : List Nat} {σ s_0 : sM} {r_0 : Int} {F : Nat}  (h : X9_blindNow F σ = some (r_0, s_0)) : aM G yX9_blindNow cX9_blindNow 1 (some .int) 5 0 0 [.ref (gP G 55)] (mkSh q_0 x_0, σ) (r_0, (mkSh q_0 x_0, s_0)) := by
  unfold X9_blindNow at h
  refine aM_of (by decide) (Nat.le_of_ble_eq_true rfl) ?_
  show aW G cX9_blindNow RX9 "blindNow" 1 (some .int) _ _ aX 0 0 _ [(0, .ref (gP G 55))] 0 []
  refine a_aload_n 0 dX9_blindNow_0 rfl ?_
  refine bp_s h (fun r1 e2 h => ?_)
  refine a_callVI dX9_blindNow_1 mX9_isOver KX9 rfl kv_X9_isOver ks_X9_isOver rfl km_RX9_188 rfl (T_X9_isOver e2) (fun _ => rfl) rfl (Nat.le_of_ble_eq_true rfl) (Nat.le_of_ble_eq_true rfl) ⟨(Nat.le_of_ble_eq_true rfl), (Nat.le_of_ble_eq_true rfl)⟩ (Nat.le_of_ble_eq_true rfl) ?_
  refine a_if_ne 20 dX9_blindNow_4 (by decide) rfl h (fun c3 h => ?_) (fun c3 h => ?_)
  · skip
    refine a_iconst dX9_blindNow_20 ?_
    refine a_goto 28 dX9_blindNow_21 (by decide) ?_
    exact a_iret dX9_blindNow_28 rfl (p_1 h) (p_S (p_2 h))
  · skip
    refine a_aload_n 0 dX9_blindNow_7 rfl ?_
    refine a_getR (j := 5) dX9_blindNow_8 KX9 rfl (by decide) rfl kf_RX9_20 ?_
    refine a_iconst dX9_blindNow_11 ?_
    refine a_iald (x' := 0) dX9_blindNow_12 rfl (by decide) (by decide) rfl ?_
    refine a_aload_n 0 dX9_blindNow_13 rfl ?_
    refine bp_s h (fun r4 e5 h => ?_)
    refine a_callVI dX9_blindNow_14 mX9_firstWeek KX9 rfl kv_X9_firstWeek ks_X9_firstWeek rfl km_RX9_255 rfl (T_X9_firstWeek e5) (fun _ => rfl) rfl (Nat.le_of_ble_eq_true rfl) (Nat.le_of_ble_eq_true rfl) ⟨(Nat.le_of_ble_eq_true rfl), (Nat.le_of_ble_eq_true rfl)⟩ (Nat.le_of_ble_eq_true rfl) ?_
    refine a_icmp_ne 24 dX9_blindNow_17 (by decide) rfl rfl h (fun c6 h => ?_) (fun c6 h => ?_)
    · skip
      refine a_aload_n 0 dX9_blindNow_24 rfl ?_
      refine bn_s h (fun r7 σ9 e8 h => ?_)
      refine a_callVI dX9_blindNow_25 mX9_findRow KX9 rfl kv_X9_findRow ks_X9_findRow rfl km_RX9_273 rfl (T_X9_findRow e8) (fun _ => rfl) rfl (Nat.le_of_ble_eq_true rfl) (Nat.le_of_ble_eq_true rfl) ⟨(Nat.le_of_ble_eq_true rfl), (Nat.le_of_ble_eq_true rfl)⟩ (Nat.le_of_ble_eq_true rfl) ?_
      exact a_iret dX9_blindNow_28 rfl (p_1 h) (p_S (p_2 h))
    · skip
      refine a_iconst dX9_blindNow_20 ?_
      refine a_goto 28 dX9_blindNow_21 (by decide) ?_
      exact a_iret dX9_blindNow_28 rfl (p_1 h) (p_S (p_2 h))

def X9_spare (F : Nat) (σ : sM) (a1 : Int) : Option (Int × sM) := bp (X9_isWheel σ a1) (fun r1 => if ¬ wi r1 = 0 then bn (X9_valueNow F σ 4) (fun r4 σ6 => if 0 ≤ wi a1 ∧ wi a1 < 9 then if 0 ≤ wi a1 ∧ wi a1 < 9 then bn (X9_valueNow F (sU σ6 73 (wi a1).toNat (q_z 1)) 4) (fun r9 σ11 => if 0 ≤ wi a1 ∧ wi a1 < 9 then some (r9 - r4, (sU σ11 73 (wi a1).toNat (q_z (σ6 73 (wi a1).toNat)))) else none) else none else none) else some ((-1000000), σ))
set_option maxRecDepth 100000 in
set_option maxHeartbeats 400000 in
theorem T_X9_spare {G : sG} {q_0 : qT} {x_0 : List Nat} {σ s_0 : sM} {r_0 : Int} {a1 : Int} {F : Nat}  (h : X9_spare F σ a1 = some (r_0, s_0)) : aM G yX9_spare cX9_spare 5 (some .int) 9 0 0 [.ref (gP G 55), vI a1] (mkSh q_0 x_0, σ) (r_0, (mkSh q_0 x_0, s_0)) := by
  unfold X9_spare at h
  refine aM_of (by decide) (Nat.le_of_ble_eq_true rfl) ?_
  show aW G cX9_spare RX9 "spare" 5 (some .int) _ _ aX 0 0 _ [(0, .ref (gP G 55)), (1, vI a1)] 0 []
  refine a_aload_n 0 dX9_spare_0 rfl ?_
  refine a_iload_n 1 dX9_spare_1 rfl ?_
  refine bp_s h (fun r1 e2 h => ?_)
  refine a_callVI dX9_spare_2 mX9_isWheel KX9 rfl kv_X9_isWheel ks_X9_isWheel rfl km_RX9_164 rfl (T_X9_isWheel e2) (fun _ => rfl) rfl (Nat.le_of_ble_eq_true rfl) (Nat.le_of_ble_eq_true rfl) ⟨(Nat.le_of_ble_eq_true rfl), (Nat.le_of_ble_eq_true rfl)⟩ (Nat.le_of_ble_eq_true rfl) ?_
  refine a_if_ne 11 dX9_spare_5 (by decide) rfl h (fun c3 h => ?_) (fun c3 h => ?_)
  · skip
    refine a_aload_n 0 dX9_spare_11 rfl ?_
    refine a_iconst dX9_spare_12 ?_
    refine bn_s h (fun r4 σ6 e5 h => ?_)
    refine a_callVI dX9_spare_13 mX9_valueNow KX9 rfl kv_X9_valueNow ks_X9_valueNow rfl km_RX9_236 rfl (T_X9_valueNow e5) (fun _ => rfl) rfl (Nat.le_of_ble_eq_true rfl) (Nat.le_of_ble_eq_true rfl) ⟨(Nat.le_of_ble_eq_true rfl), (Nat.le_of_ble_eq_true rfl)⟩ (Nat.le_of_ble_eq_true rfl) ?_
    refine a_istore_n (L' := [(2, vI r4), (0, .ref (gP G 55)), (1, vI a1)]) dX9_spare_16 (by decide) rfl ?_
    refine a_aload_n 1 dX9_spare_17 rfl ?_
    refine a_getR (j := 24) dX9_spare_18 KX9 rfl (by decide) rfl kf_RX9_63 ?_
    refine a_iload_n 2 dX9_spare_21 rfl ?_
    refine a_gd h (fun c7 h => ?_)
    refine a_zald (x' := wi a1) dX9_spare_22 rfl rfl c7 rfl ?_
    refine a_istore_n (L' := [(3, vI (σ6 73 (wi a1).toNat)), (2, vI r4), (0, .ref (gP G 55)), (1, vI a1)]) dX9_spare_23 (by decide) rfl ?_
    refine a_aload_n 2 dX9_spare_24 rfl ?_
    refine a_getR (j := 24) dX9_spare_25 KX9 rfl (by decide) rfl kf_RX9_63 ?_
    refine a_iload_n 3 dX9_spare_28 rfl ?_
    refine a_iconst dX9_spare_29 ?_
    refine a_gd h (fun c8 h => ?_)
    refine a_zast (x' := wi a1) dX9_spare_30 rfl rfl c8 rfl ?_
    refine a_aload_n 2 dX9_spare_31 rfl ?_
    refine a_iconst dX9_spare_32 ?_
    refine bn_s h (fun r9 σ11 e10 h => ?_)
    refine a_callVI dX9_spare_33 mX9_valueNow KX9 rfl kv_X9_valueNow ks_X9_valueNow rfl km_RX9_236 rfl (T_X9_valueNow e10) (fun _ => rfl) rfl (Nat.le_of_ble_eq_true rfl) (Nat.le_of_ble_eq_true rfl) ⟨(Nat.le_of_ble_eq_true rfl), (Nat.le_of_ble_eq_true rfl)⟩ (Nat.le_of_ble_eq_true rfl) ?_
    refine a_istore (L' := [(4, vI r9), (3, vI (σ6 73 (wi a1).toNat)), (2, vI r4), (0, .ref (gP G 55)), (1, vI a1)]) dX9_spare_36 (by decide) rfl ?_
    refine a_aload_n 3 dX9_spare_38 rfl ?_
    refine a_getR (j := 24) dX9_spare_39 KX9 rfl (by decide) rfl kf_RX9_63 ?_
    refine a_iload_n 4 dX9_spare_42 rfl ?_
    refine a_iload_n 1 dX9_spare_43 rfl ?_
    refine a_gd h (fun c12 h => ?_)
    refine a_zast (x' := wi a1) dX9_spare_44 rfl rfl c12 rfl ?_
    refine a_iload 0 dX9_spare_45 rfl ?_
    refine a_iload_n 2 dX9_spare_47 rfl ?_
    refine a_isub dX9_spare_48 ?_
    exact a_iret dX9_spare_49 rfl (p_1 h) (p_S (p_2 h))
  · skip
    refine a_ldc (z := -1000000) dX9_spare_8 kc_RX9_242 (by decide) ?_
    exact a_iret dX9_spare_10 rfl (p_1 h) (p_S (p_2 h))

def X0_tellMeans (F : Nat) (σ : sM) (a1 : Int) : Option (Int × sM) := if wi a1 < 0 then some (0, σ) else if 3 ≤ wi a1 then some (0, σ) else bp (X8_portionsOf σ (σ 37 14) a1) (fun r3 => if ¬ wi r3 = 0 then bp (X1_mayGoOn σ (σ 37 14) (σ 37 15) a1) (fun r6 => bp (X8_stepOf σ (σ 37 14) a1) (fun r8 => bn (X5_startAt F 38 σ r8) (fun r10 σ12 => bp (X1_isWhole σ12 (σ12 37 14) a1) (fun r13 => if ¬ wi r13 = 0 then if 0 ≤ wi a1 ∧ wi a1 < 3 then lp (fun K18 (q17 : sM × Int) => if wi (q17.1 2 7) ≤ wi q17.2 then some (0, q17.1) else bn (X0_tellMeansOfCut F q17.1 a1 q17.2 r6) (fun r20 σ22 => jn (fun q23 : sM => K18 (q23, q17.2 + 1)) (fun K24 => if wi r6 = 0 then K24 σ22 else bp (X1_sortOf σ22 a1) (fun r26 => bn (X5_weekGoesBy F 38 σ22 r26 0 q17.2) (fun r28 σ30 => K24 σ30))))) F ((sU σ12 44 (wi a1).toNat (-1)), (sU σ12 44 (wi a1).toNat (-1)) 37 12) else none else if 0 ≤ wi a1 ∧ wi a1 < 3 then bn (X0_tellMeansOfCut F (sU σ12 44 (wi a1).toNat (σ12 37 12)) a1 ((sU σ12 44 (wi a1).toNat (σ12 37 12)) 37 12) r6) (fun r32 σ34 => some (0, σ34)) else none)))) else some (0, σ))
set_option maxRecDepth 100000 in
set_option maxHeartbeats 400000 in
theorem T_X0_tellMeans {G : sG} {q_0 : qT} {x_0 : List Nat} {σ s_0 : sM} {r_0 : Int} {a1 : Int} {F : Nat}  (h : X0_tellMeans F σ a1 = some (r_0, s_0)) : aM G yX0_tellMeans cX0_tellMeans 4 none 4 0 0 [.ref (gP G 37), vI a1] (mkSh q_0 x_0, σ) (r_0, (mkSh q_0 x_0, s_0)) := by
  unfold X0_tellMeans at h
  refine aM_of (by decide) (Nat.le_of_ble_eq_true rfl) ?_
  show aW G cX0_tellMeans RX0 "tellMeans" 4 none _ _ aX 0 0 _ [(0, .ref (gP G 37)), (1, vI a1)] 0 []
  refine a_iload_n 1 dX0_tellMeans_0 rfl ?_
  refine a_if_lt 20 dX0_tellMeans_1 (by decide) rfl h (fun c1 h => ?_) (fun c1 h => ?_)
  · skip
    exact a_vret dX0_tellMeans_20 rfl (p_S (p_2 h))
  · skip
    refine a_iload_n 1 dX0_tellMeans_4 rfl ?_
    refine a_iconst dX0_tellMeans_5 ?_
    refine a_icmp_ge 20 dX0_tellMeans_6 (by decide) rfl (by decide) h (fun c2 h => ?_) (fun c2 h => ?_)
    · skip
      exact a_vret dX0_tellMeans_20 rfl (p_S (p_2 h))
    · skip
      refine a_aload_n 0 dX0_tellMeans_9 rfl ?_
      refine a_getI (j := 14) dX0_tellMeans_10 KX0 rfl (by decide) rfl kf_RX0_57 ?_
      refine a_iload_n 1 dX0_tellMeans_13 rfl ?_
      refine bp_s h (fun r3 e4 h => ?_)
      refine a_callSNI dX0_tellMeans_14 mX8_portionsOf kv_X8_portionsOf km_RX0_116 rfl (T_X8_portionsOf e4) (fun _ => rfl) rfl (Nat.le_of_ble_eq_true rfl) (Nat.le_of_ble_eq_true rfl) ⟨(Nat.le_of_ble_eq_true rfl), (Nat.le_of_ble_eq_true rfl)⟩ (Nat.le_of_ble_eq_true rfl) ?_
      refine a_if_ne 21 dX0_tellMeans_17 (by decide) rfl h (fun c5 h => ?_) (fun c5 h => ?_)
      · skip
        refine a_aload_n 0 dX0_tellMeans_21 rfl ?_
        refine a_getR (j := 0) dX0_tellMeans_22 KX0 rfl (by decide) rfl kf_RX0_63 ?_
        refine a_aload_n 0 dX0_tellMeans_25 rfl ?_
        refine a_getI (j := 14) dX0_tellMeans_26 KX0 rfl (by decide) rfl kf_RX0_57 ?_
        refine a_aload_n 0 dX0_tellMeans_29 rfl ?_
        refine a_getI (j := 15) dX0_tellMeans_30 KX0 rfl (by decide) rfl kf_RX0_60 ?_
        refine a_iload_n 1 dX0_tellMeans_33 rfl ?_
        refine bp_s h (fun r6 e7 h => ?_)
        refine a_callVI dX0_tellMeans_34 mX1_mayGoOn KX1 rfl kv_X1_mayGoOn ks_X1_mayGoOn rfl km_RX0_119 rfl (T_X1_mayGoOn e7) (fun _ => rfl) rfl (Nat.le_of_ble_eq_true rfl) (Nat.le_of_ble_eq_true rfl) ⟨(Nat.le_of_ble_eq_true rfl), (Nat.le_of_ble_eq_true rfl)⟩ (Nat.le_of_ble_eq_true rfl) ?_
        refine a_istore_n (L' := [(2, vI r6), (0, .ref (gP G 37)), (1, vI a1)]) dX0_tellMeans_37 (by decide) rfl ?_
        refine a_aload_n 1 dX0_tellMeans_38 rfl ?_
        refine a_getR (j := 1) dX0_tellMeans_39 KX0 rfl (by decide) rfl kf_RX0_12 ?_
        refine a_aload_n 1 dX0_tellMeans_42 rfl ?_
        refine a_getI (j := 14) dX0_tellMeans_43 KX0 rfl (by decide) rfl kf_RX0_57 ?_
        refine a_iload_n 2 dX0_tellMeans_46 rfl ?_
        refine bp_s h (fun r8 e9 h => ?_)
        refine a_callSNI dX0_tellMeans_47 mX8_stepOf kv_X8_stepOf km_RX0_123 rfl (T_X8_stepOf e9) (fun _ => rfl) rfl (Nat.le_of_ble_eq_true rfl) (Nat.le_of_ble_eq_true rfl) ⟨(Nat.le_of_ble_eq_true rfl), (Nat.le_of_ble_eq_true rfl)⟩ (Nat.le_of_ble_eq_true rfl) ?_
        refine bn_s h (fun r10 σ12 e11 h => ?_)
        refine a_callVV dX0_tellMeans_50 mX5_startAt KX5 rfl kv_X5_startAt ks_X5_startAt rfl km_RX0_126 rfl (T_X5_startAt rfl rfl e11) (fun _ => rfl) rfl (Nat.le_of_ble_eq_true rfl) (Nat.le_of_ble_eq_true rfl) ⟨(Nat.le_of_ble_eq_true rfl), (Nat.le_of_ble_eq_true rfl)⟩ (Nat.le_of_ble_eq_true rfl) ?_
        refine a_aload_n 1 dX0_tellMeans_53 rfl ?_
        refine a_getR (j := 0) dX0_tellMeans_54 KX0 rfl (by decide) rfl kf_RX0_63 ?_
        refine a_aload_n 1 dX0_tellMeans_57 rfl ?_
        refine a_getI (j := 14) dX0_tellMeans_58 KX0 rfl (by decide) rfl kf_RX0_57 ?_
        refine a_iload_n 2 dX0_tellMeans_61 rfl ?_
        refine bp_s h (fun r13 e14 h => ?_)
        refine a_callVI dX0_tellMeans_62 mX1_isWhole KX1 rfl kv_X1_isWhole ks_X1_isWhole rfl km_RX0_129 rfl (T_X1_isWhole e14) (fun _ => rfl) rfl (Nat.le_of_ble_eq_true rfl) (Nat.le_of_ble_eq_true rfl) ⟨(Nat.le_of_ble_eq_true rfl), (Nat.le_of_ble_eq_true rfl)⟩ (Nat.le_of_ble_eq_true rfl) ?_
        refine a_if_ne 89 dX0_tellMeans_65 (by decide) rfl h (fun c15 h => ?_) (fun c15 h => ?_)
        · skip
          refine a_aload_n 1 dX0_tellMeans_89 rfl ?_
          refine a_getR (j := 5) dX0_tellMeans_90 KX0 rfl (by decide) rfl kf_RX0_28 ?_
          refine a_iload_n 2 dX0_tellMeans_93 rfl ?_
          refine a_iconst dX0_tellMeans_94 ?_
          refine a_gd h (fun c16 h => ?_)
          refine a_iast (x' := wi a1) dX0_tellMeans_95 rfl rfl c16 rfl ?_
          refine a_aload_n 1 dX0_tellMeans_96 rfl ?_
          refine a_getI (j := 12) dX0_tellMeans_97 KX0 rfl (by decide) rfl kf_RX0_51 ?_
          refine a_istore_n (L' := [(3, vI ((sU σ12 44 (wi a1).toNat (-1)) 37 12)), (2, vI r6), (0, .ref (gP G 37)), (1, vI a1)]) dX0_tellMeans_100 (by decide) rfl ?_
          refine a_sub (L' := [(0, .ref (gP G 37)), (1, vI a1), (2, vI r6), (3, vI ((sU σ12 44 (wi a1).toNat (-1)) 37 12))]) [2, 3, 1, 0] rfl (lp_s (x := ((sU σ12 44 (wi a1).toNat (-1)), (sU σ12 44 (wi a1).toNat (-1)) 37 12)) (fun q17 : sM × Int => aW G cX0_tellMeans RX0 "tellMeans" 4 none (sR 4 0 0) (aQ G none 0 0 (r_0, (mkSh q_0 x_0, s_0))) aX 0 0 (mkSh q_0 x_0, q17.1) [(0, .ref (gP G 37)), (1, vI a1), (2, vI r6), (3, vI q17.2)] 101 []) h (fun K18 hK18 q17 h => ?_))
          refine a_iload_n 3 dX0_tellMeans_101 rfl ?_
          refine a_aload_n 0 dX0_tellMeans_102 rfl ?_
          refine a_getR (j := 0) dX0_tellMeans_103 KX0 rfl (by decide) rfl kf_RX0_63 ?_
          refine a_getIN (j := 7) dX0_tellMeans_106 KX1 rfl (by decide) rfl kf_RX0_81 ?_
          refine a_icmp_ge 150 dX0_tellMeans_109 (by decide) rfl rfl h (fun c19 h => ?_) (fun c19 h => ?_)
          · skip
            exact a_vret dX0_tellMeans_150 rfl (p_S (p_2 h))
          · skip
            refine a_aload_n 0 dX0_tellMeans_112 rfl ?_
            refine a_iload_n 1 dX0_tellMeans_113 rfl ?_
            refine a_iload_n 3 dX0_tellMeans_114 rfl ?_
            refine a_iload_n 2 dX0_tellMeans_115 rfl ?_
            refine bn_s h (fun r20 σ22 e21 h => ?_)
            refine a_callVV dX0_tellMeans_116 mX0_tellMeansOfCut KX0 rfl kv_X0_tellMeansOfCut ks_X0_tellMeansOfCut rfl km_RX0_133 rfl (T_X0_tellMeansOfCut e21) (fun _ => rfl) rfl (Nat.le_of_ble_eq_true rfl) (Nat.le_of_ble_eq_true rfl) ⟨(Nat.le_of_ble_eq_true rfl), (Nat.le_of_ble_eq_true rfl)⟩ (Nat.le_of_ble_eq_true rfl) ?_
            refine a_iload_n 2 dX0_tellMeans_119 rfl ?_
            refine jn_s (fun q23 : sM => aW G cX0_tellMeans RX0 "tellMeans" 4 none (sR 4 0 0) (aQ G none 0 0 (r_0, (mkSh q_0 x_0, s_0))) aX 0 0 (mkSh q_0 x_0, q23) [(0, .ref (gP G 37)), (1, vI a1), (2, vI r6), (3, vI q17.2)] 144 []) h (fun q23 h => ?_) (fun K24 hK24 h => ?_)
            · skip
              refine a_iinc (L' := [(3, vI (q17.2 + 1)), (0, .ref (gP G 37)), (1, vI a1), (2, vI r6)]) 3 dX0_tellMeans_144 rfl (by decide) rfl ?_
              refine a_goto 101 dX0_tellMeans_147 (by decide) ?_
              have hh := hK18 _ h
              exact a_sub [1, 2, 3, 0] rfl hh
            · skip
              refine a_if_eq 144 dX0_tellMeans_120 (by decide) rfl h (fun c25 h => ?_) (fun c25 h => ?_)
              · skip
                have hh := hK24 _ h
                exact a_sub [0, 1, 2, 3] rfl hh
              · skip
                refine a_aload_n 0 dX0_tellMeans_123 rfl ?_
                refine a_getR (j := 1) dX0_tellMeans_124 KX0 rfl (by decide) rfl kf_RX0_12 ?_
                refine a_aload_n 0 dX0_tellMeans_127 rfl ?_
                refine a_getR (j := 0) dX0_tellMeans_128 KX0 rfl (by decide) rfl kf_RX0_63 ?_
                refine a_aload_n 0 dX0_tellMeans_131 rfl ?_
                refine a_getR (j := 0) dX0_tellMeans_132 KX0 rfl (by decide) rfl kf_RX0_63 ?_
                refine a_iload_n 1 dX0_tellMeans_135 rfl ?_
                refine bp_s h (fun r26 e27 h => ?_)
                refine a_callVI dX0_tellMeans_136 mX1_sortOf KX1 rfl kv_X1_sortOf ks_X1_sortOf rfl km_RX0_137 rfl (T_X1_sortOf e27) (fun _ => rfl) rfl (Nat.le_of_ble_eq_true rfl) (Nat.le_of_ble_eq_true rfl) ⟨(Nat.le_of_ble_eq_true rfl), (Nat.le_of_ble_eq_true rfl)⟩ (Nat.le_of_ble_eq_true rfl) ?_
                refine a_iconst dX0_tellMeans_139 ?_
                refine a_iload_n 3 dX0_tellMeans_140 rfl ?_
                refine bn_s h (fun r28 σ30 e29 h => ?_)
                refine a_callVV dX0_tellMeans_141 mX5_weekGoesBy KX5 rfl kv_X5_weekGoesBy ks_X5_weekGoesBy rfl km_RX0_141 rfl (T_X5_weekGoesBy rfl rfl e29) (fun _ => rfl) rfl (Nat.le_of_ble_eq_true rfl) (Nat.le_of_ble_eq_true rfl) ⟨(Nat.le_of_ble_eq_true rfl), (Nat.le_of_ble_eq_true rfl)⟩ (Nat.le_of_ble_eq_true rfl) ?_
                have hh := hK24 _ h
                exact a_sub [0, 1, 2, 3] rfl hh
        · skip
          refine a_aload_n 1 dX0_tellMeans_68 rfl ?_
          refine a_getR (j := 5) dX0_tellMeans_69 KX0 rfl (by decide) rfl kf_RX0_28 ?_
          refine a_iload_n 2 dX0_tellMeans_72 rfl ?_
          refine a_aload_n 1 dX0_tellMeans_73 rfl ?_
          refine a_getI (j := 12) dX0_tellMeans_74 KX0 rfl (by decide) rfl kf_RX0_51 ?_
          refine a_gd h (fun c31 h => ?_)
          refine a_iast (x' := wi a1) dX0_tellMeans_77 rfl rfl c31 rfl ?_
          refine a_aload_n 1 dX0_tellMeans_78 rfl ?_
          refine a_iload_n 2 dX0_tellMeans_79 rfl ?_
          refine a_aload_n 1 dX0_tellMeans_80 rfl ?_
          refine a_getI (j := 12) dX0_tellMeans_81 KX0 rfl (by decide) rfl kf_RX0_51 ?_
          refine a_iload_n 0 dX0_tellMeans_84 rfl ?_
          refine bn_s h (fun r32 σ34 e33 h => ?_)
          refine a_callVV dX0_tellMeans_85 mX0_tellMeansOfCut KX0 rfl kv_X0_tellMeansOfCut ks_X0_tellMeansOfCut rfl km_RX0_133 rfl (T_X0_tellMeansOfCut e33) (fun _ => rfl) rfl (Nat.le_of_ble_eq_true rfl) (Nat.le_of_ble_eq_true rfl) ⟨(Nat.le_of_ble_eq_true rfl), (Nat.le_of_ble_eq_true rfl)⟩ (Nat.le_of_ble_eq_true rfl) ?_
          exact a_vret dX0_tellMeans_88 rfl (p_S (p_2 h))
      · skip
        exact a_vret dX0_tellMeans_20 rfl (p_S (p_2 h))

def X0_search (F : Nat) (rec : Nat → sM → Int → Int → Int → Option (Int × sM)) (σ : sM) (a1 a2 a3 : Int) : Option (Int × sM) := jn (fun q1 : Unit => bn (X0_takeIfBetter σ a3) (fun r3 σ5 => some (0, σ5))) (fun K2 => if wi a1 < 0 then K2 () else if wi (σ 2 7) ≤ wi a1 then K2 () else if wi a1 < 8 then if 0 ≤ wi a1 ∧ wi a1 < 9 then if wi (σ 37 8) < wi (a3 + (σ 43 (wi a1).toNat)) then lp (fun K12 (q11 : sM × Int) => if 3 ≤ wi q11.2 then bn (X0_tellRow q11.1 a1 6) (fun r14 σ16 => bn (rec 0 σ16 (a1 + 1) a2 a3) (fun r17 σ19 => some (0, σ19))) else bp (X1_mayEat F q11.1 a2 q11.2) (fun r20 => jn (fun q22 : sM => K12 (q22, q11.2 + 1)) (fun K23 => if wi r20 = 0 then K23 q11.1 else if 0 ≤ wi q11.2 ∧ wi q11.2 < 3 then jn (fun q26 : Int => if 0 ≤ wi q11.2 ∧ wi q11.2 < 3 then bn (X0_tellRow (sU q11.1 44 (wi q11.2).toNat q26) a1 q11.2) (fun r29 σ31 => bp (X1_standAfter σ31 a2 q11.2) (fun r32 => if 0 ≤ wi q11.2 ∧ wi q11.2 < 3 then bp (X0_meanAt σ31 q11.2 (σ31 44 (wi q11.2).toNat) a1) (fun r35 => bn (rec 0 σ31 (a1 + 1) r32 (a3 + r35)) (fun r37 σ39 => if 0 ≤ wi q11.2 ∧ wi q11.2 < 3 then K23 (sU σ39 44 (wi q11.2).toNat (q11.1 44 (wi q11.2).toNat)) else none)) else none)) else none) (fun K27 => if ¬ wi (q11.1 44 (wi q11.2).toNat) = (-1) then K27 (q11.1 44 (wi q11.2).toNat) else K27 a1) else none))) F (σ, 0) else some (0, σ) else none else K2 ())
set_option maxRecDepth 100000 in
set_option maxHeartbeats 400000 in
theorem T_X0_search {G : sG} {q_0 : qT} {x_0 : List Nat} {σ s_0 : sM} {r_0 : Int} {a1 a2 a3 : Int} {F dd : Nat} {rec : Nat → sM → Int → Int → Int → Option (Int × sM)}  (hdd : 20 ≤ dd) (hR : RCX0 G q_0 x_0  dd rec) (h : X0_search F rec σ a1 a2 a3 = some (r_0, s_0)) : aM G yX0_search cX0_search 6 none (dd + 1) 0 0 [.ref (gP G 37), vI a1, vI a2, vI a3] (mkSh q_0 x_0, σ) (r_0, (mkSh q_0 x_0, s_0)) := by
  unfold X0_search at h
  refine aM_of (by decide) (Nat.le_of_ble_eq_true rfl) ?_
  show aW G cX0_search RX0 "search" 6 none _ _ aX 0 0 _ [(0, .ref (gP G 37)), (1, vI a1), (2, vI a2), (3, vI a3)] 0 []
  refine a_iload_n 1 dX0_search_0 rfl ?_
  refine jn_s (fun q1 : Unit => aW G cX0_search RX0 "search" 6 none (sR (dd + 1) 0 0) (aQ G none 0 0 (r_0, (mkSh q_0 x_0, s_0))) aX 0 0 (mkSh q_0 x_0, σ) [(0, .ref (gP G 37)), (3, vI a3)] 21 []) h (fun q1 h => ?_) (fun K2 hK2 h => ?_)
  · skip
    refine a_aload_n 0 dX0_search_21 rfl ?_
    refine a_iload_n 1 dX0_search_22 rfl ?_
    refine bn_s h (fun r3 σ5 e4 h => ?_)
    refine a_callVV dX0_search_23 mX0_takeIfBetter KX0 rfl kv_X0_takeIfBetter ks_X0_takeIfBetter rfl km_RX0_162 rfl (T_X0_takeIfBetter e4) (fun _ => rfl) rfl (show 1 + 1 ≤ dd + 1 by omega) (show 80 * 1 + 79 ≤ 80 * (dd + 1) by omega) ⟨(Nat.le_of_ble_eq_true rfl), (Nat.le_of_ble_eq_true rfl)⟩ (Nat.le_of_ble_eq_true rfl) ?_
    exact a_vret dX0_search_26 rfl (p_S (p_2 h))
  · skip
    refine a_if_lt 21 dX0_search_1 (by decide) rfl h (fun c6 h => ?_) (fun c6 h => ?_)
    · skip
      have hh := hK2 _ h
      exact a_sub [0, 3] rfl hh
    · skip
      refine a_iload_n 1 dX0_search_4 rfl ?_
      refine a_aload_n 0 dX0_search_5 rfl ?_
      refine a_getR (j := 0) dX0_search_6 KX0 rfl (by decide) rfl kf_RX0_63 ?_
      refine a_getIN (j := 7) dX0_search_9 KX1 rfl (by decide) rfl kf_RX0_81 ?_
      refine a_icmp_ge 21 dX0_search_12 (by decide) rfl rfl h (fun c7 h => ?_) (fun c7 h => ?_)
      · skip
        have hh := hK2 _ h
        exact a_sub [0, 3] rfl hh
      · skip
        refine a_iload_n 1 dX0_search_15 rfl ?_
        refine a_bipush dX0_search_16 (by decide) ?_
        refine a_icmp_lt 27 dX0_search_18 (by decide) rfl (by decide) h (fun c8 h => ?_) (fun c8 h => ?_)
        · skip
          refine a_iload_n 3 dX0_search_27 rfl ?_
          refine a_aload_n 0 dX0_search_28 rfl ?_
          refine a_getR (j := 4) dX0_search_29 KX0 rfl (by decide) rfl kf_RX0_25 ?_
          refine a_iload_n 1 dX0_search_32 rfl ?_
          refine a_gd h (fun c9 h => ?_)
          refine a_iald (x' := wi a1) dX0_search_33 rfl rfl c9 rfl ?_
          refine a_iadd dX0_search_34 ?_
          refine a_aload_n 0 dX0_search_35 rfl ?_
          refine a_getI (j := 8) dX0_search_36 KX0 rfl (by decide) rfl kf_RX0_37 ?_
          refine a_icmp_gt 43 dX0_search_39 (by decide) rfl rfl h (fun c10 h => ?_) (fun c10 h => ?_)
          · skip
            refine a_iconst dX0_search_43 ?_
            refine a_istore (L' := [(4, vI 0), (0, .ref (gP G 37)), (1, vI a1), (2, vI a2), (3, vI a3)]) dX0_search_44 (by decide) rfl ?_
            refine a_sub (L' := [(0, .ref (gP G 37)), (1, vI a1), (2, vI a2), (3, vI a3), (4, vI 0)]) [1, 2, 3, 4, 0] rfl (lp_s (x := (σ, 0)) (fun q11 : sM × Int => aW G cX0_search RX0 "search" 6 none (sR (dd + 1) 0 0) (aQ G none 0 0 (r_0, (mkSh q_0 x_0, s_0))) aX 0 0 (mkSh q_0 x_0, q11.1) [(0, .ref (gP G 37)), (1, vI a1), (2, vI a2), (3, vI a3), (4, vI q11.2)] 46 []) h (fun K12 hK12 q11 h => ?_))
            refine a_iload 4 dX0_search_46 rfl ?_
            refine a_iconst dX0_search_48 ?_
            refine a_icmp_ge 148 dX0_search_49 (by decide) rfl (by decide) h (fun c13 h => ?_) (fun c13 h => ?_)
            · skip
              refine a_aload_n 0 dX0_search_148 rfl ?_
              refine a_iload_n 1 dX0_search_149 rfl ?_
              refine a_bipush dX0_search_150 (by decide) ?_
              refine bn_s h (fun r14 σ16 e15 h => ?_)
              refine a_callVV dX0_search_152 mX0_tellRow KX0 rfl kv_X0_tellRow ks_X0_tellRow rfl km_RX0_168 rfl (T_X0_tellRow e15) (fun _ => rfl) rfl (show 0 + 1 ≤ dd + 1 by omega) (show 80 * 0 + 79 ≤ 80 * (dd + 1) by omega) ⟨(Nat.le_of_ble_eq_true rfl), (Nat.le_of_ble_eq_true rfl)⟩ (Nat.le_of_ble_eq_true rfl) ?_
              refine a_aload_n 0 dX0_search_155 rfl ?_
              refine a_iload_n 1 dX0_search_156 rfl ?_
              refine a_iconst dX0_search_157 ?_
              refine a_iadd dX0_search_158 ?_
              refine a_iload_n 2 dX0_search_159 rfl ?_
              refine a_iload_n 3 dX0_search_160 rfl ?_
              refine bn_s h (fun r17 σ19 e18 h => ?_)
              refine a_callVV dX0_search_161 mX0_search KX0 rfl kv_X0_search ks_X0_search rfl km_RX0_108 rfl (hR _ _ _ _ _ _ e18) (fun _ => rfl) rfl (show dd + 1 ≤ dd + 1 by omega) (show 80 * dd + 79 ≤ 80 * (dd + 1) by omega) ⟨(Nat.le_of_ble_eq_true rfl), (Nat.le_of_ble_eq_true rfl)⟩ (Nat.le_of_ble_eq_true rfl) ?_
              exact a_vret dX0_search_164 rfl (p_S (p_2 h))
            · skip
              refine a_aload_n 0 dX0_search_52 rfl ?_
              refine a_getR (j := 0) dX0_search_53 KX0 rfl (by decide) rfl kf_RX0_63 ?_
              refine a_iload_n 2 dX0_search_56 rfl ?_
              refine a_iload 4 dX0_search_57 rfl ?_
              refine bp_s h (fun r20 e21 h => ?_)
              refine a_callVI dX0_search_59 mX1_mayEat KX1 rfl kv_X1_mayEat ks_X1_mayEat rfl km_RX0_165 rfl (T_X1_mayEat e21) (fun _ => rfl) rfl (show 2 + 1 ≤ dd + 1 by omega) (show 80 * 2 + 79 ≤ 80 * (dd + 1) by omega) ⟨(Nat.le_of_ble_eq_true rfl), (Nat.le_of_ble_eq_true rfl)⟩ (Nat.le_of_ble_eq_true rfl) ?_
              refine jn_s (fun q22 : sM => aW G cX0_search RX0 "search" 6 none (sR (dd + 1) 0 0) (aQ G none 0 0 (r_0, (mkSh q_0 x_0, s_0))) aX 0 0 (mkSh q_0 x_0, q22) [(0, .ref (gP G 37)), (1, vI a1), (2, vI a2), (3, vI a3), (4, vI q11.2)] 142 []) h (fun q22 h => ?_) (fun K23 hK23 h => ?_)
              · skip
                refine a_iinc (L' := [(4, vI (q11.2 + 1)), (0, .ref (gP G 37)), (1, vI a1), (2, vI a2), (3, vI a3)]) 4 dX0_search_142 rfl (by decide) rfl ?_
                refine a_goto 46 dX0_search_145 (by decide) ?_
                have hh := hK12 _ h
                exact a_sub [1, 2, 3, 4, 0] rfl hh
              · skip
                refine a_if_eq 142 dX0_search_62 (by decide) rfl h (fun c24 h => ?_) (fun c24 h => ?_)
                · skip
                  have hh := hK23 _ h
                  exact a_sub [0, 1, 2, 3, 4] rfl hh
                · skip
                  refine a_aload_n 0 dX0_search_65 rfl ?_
                  refine a_getR (j := 5) dX0_search_66 KX0 rfl (by decide) rfl kf_RX0_28 ?_
                  refine a_iload 4 dX0_search_69 rfl ?_
                  refine a_gd h (fun c25 h => ?_)
                  refine a_iald (x' := wi q11.2) dX0_search_71 rfl rfl c25 rfl ?_
                  refine a_istore (L' := [(5, vI (q11.1 44 (wi q11.2).toNat)), (0, .ref (gP G 37)), (1, vI a1), (2, vI a2), (3, vI a3), (4, vI q11.2)]) dX0_search_72 (by decide) rfl ?_
                  refine a_aload_n 1 dX0_search_74 rfl ?_
                  refine a_getR (j := 5) dX0_search_75 KX0 rfl (by decide) rfl kf_RX0_28 ?_
                  refine a_iload 5 dX0_search_78 rfl ?_
                  refine a_iload 0 dX0_search_80 rfl ?_
                  refine a_iconst dX0_search_82 ?_
                  refine jn_s (fun q26 : Int => aW G cX0_search RX0 "search" 6 none (sR (dd + 1) 0 0) (aQ G none 0 0 (r_0, (mkSh q_0 x_0, s_0))) aX 0 0 (mkSh q_0 x_0, q11.1) [(0, .ref (gP G 37)), (1, vI a1), (2, vI a2), (3, vI a3), (4, vI q11.2), (5, vI (q11.1 44 (wi q11.2).toNat))] 92 [vI q26, vI q11.2, .ref (gP G 44)]) h (fun q26 h => ?_) (fun K27 hK27 h => ?_)
                  · skip
                    refine a_gd h (fun c28 h => ?_)
                    refine a_iast (x' := wi q11.2) dX0_search_92 rfl rfl c28 rfl ?_
                    refine a_aload_n 0 dX0_search_93 rfl ?_
                    refine a_iload_n 1 dX0_search_94 rfl ?_
                    refine a_iload 4 dX0_search_95 rfl ?_
                    refine bn_s h (fun r29 σ31 e30 h => ?_)
                    refine a_callVV dX0_search_97 mX0_tellRow KX0 rfl kv_X0_tellRow ks_X0_tellRow rfl km_RX0_168 rfl (T_X0_tellRow e30) (fun _ => rfl) rfl (show 0 + 1 ≤ dd + 1 by omega) (show 80 * 0 + 79 ≤ 80 * (dd + 1) by omega) ⟨(Nat.le_of_ble_eq_true rfl), (Nat.le_of_ble_eq_true rfl)⟩ (Nat.le_of_ble_eq_true rfl) ?_
                    refine a_aload_n 0 dX0_search_100 rfl ?_
                    refine a_iload_n 1 dX0_search_101 rfl ?_
                    refine a_iconst dX0_search_102 ?_
                    refine a_iadd dX0_search_103 ?_
                    refine a_aload_n 0 dX0_search_104 rfl ?_
                    refine a_getR (j := 0) dX0_search_105 KX0 rfl (by decide) rfl kf_RX0_63 ?_
                    refine a_iload_n 2 dX0_search_108 rfl ?_
                    refine a_iload 4 dX0_search_109 rfl ?_
                    refine bp_s h (fun r32 e33 h => ?_)
                    refine a_callVI dX0_search_111 mX1_standAfter KX1 rfl kv_X1_standAfter ks_X1_standAfter rfl km_RX0_172 rfl (T_X1_standAfter e33) (fun _ => rfl) rfl (show 1 + 1 ≤ dd + 1 by omega) (show 80 * 1 + 79 ≤ 80 * (dd + 1) by omega) ⟨(Nat.le_of_ble_eq_true rfl), (Nat.le_of_ble_eq_true rfl)⟩ (Nat.le_of_ble_eq_true rfl) ?_
                    refine a_iload_n 3 dX0_search_114 rfl ?_
                    refine a_aload_n 0 dX0_search_115 rfl ?_
                    refine a_iload 4 dX0_search_116 rfl ?_
                    refine a_aload_n 0 dX0_search_118 rfl ?_
                    refine a_getR (j := 5) dX0_search_119 KX0 rfl (by decide) rfl kf_RX0_28 ?_
                    refine a_iload 4 dX0_search_122 rfl ?_
                    refine a_gd h (fun c34 h => ?_)
                    refine a_iald (x' := wi q11.2) dX0_search_124 rfl rfl c34 rfl ?_
                    refine a_iload_n 1 dX0_search_125 rfl ?_
                    refine bp_s h (fun r35 e36 h => ?_)
                    refine a_callVI dX0_search_126 mX0_meanAt KX0 rfl kv_X0_meanAt ks_X0_meanAt rfl km_RX0_159 rfl (T_X0_meanAt e36) (fun _ => rfl) rfl (show 1 + 1 ≤ dd + 1 by omega) (show 80 * 1 + 79 ≤ 80 * (dd + 1) by omega) ⟨(Nat.le_of_ble_eq_true rfl), (Nat.le_of_ble_eq_true rfl)⟩ (Nat.le_of_ble_eq_true rfl) ?_
                    refine a_iadd dX0_search_129 ?_
                    refine bn_s h (fun r37 σ39 e38 h => ?_)
                    refine a_callVV dX0_search_130 mX0_search KX0 rfl kv_X0_search ks_X0_search rfl km_RX0_108 rfl (hR _ _ _ _ _ _ e38) (fun _ => rfl) rfl (show dd + 1 ≤ dd + 1 by omega) (show 80 * dd + 79 ≤ 80 * (dd + 1) by omega) ⟨(Nat.le_of_ble_eq_true rfl), (Nat.le_of_ble_eq_true rfl)⟩ (Nat.le_of_ble_eq_true rfl) ?_
                    refine a_aload_n 0 dX0_search_133 rfl ?_
                    refine a_getR (j := 5) dX0_search_134 KX0 rfl (by decide) rfl kf_RX0_28 ?_
                    refine a_iload 4 dX0_search_137 rfl ?_
                    refine a_iload 5 dX0_search_139 rfl ?_
                    refine a_gd h (fun c40 h => ?_)
                    refine a_iast (x' := wi q11.2) dX0_search_141 rfl rfl c40 rfl ?_
                    have hh := hK23 _ h
                    exact a_sub [0, 1, 2, 3, 4] rfl hh
                  · skip
                    refine a_icmp_ne 90 dX0_search_83 (by decide) rfl (by decide) h (fun c41 h => ?_) (fun c41 h => ?_)
                    · skip
                      refine a_iload 0 dX0_search_90 rfl ?_
                      have hh := hK27 _ h
                      exact a_sub [1, 2, 3, 4, 5, 0] rfl hh
                    · skip
                      refine a_iload_n 2 dX0_search_86 rfl ?_
                      refine a_goto 92 dX0_search_87 (by decide) ?_
                      have hh := hK27 _ h
                      exact a_sub [1, 2, 3, 4, 5, 0] rfl hh
          · skip
            exact a_vret dX0_search_42 rfl (p_S (p_2 h))
        · skip
          have hh := hK2 _ h
          exact a_sub [0, 3] rfl hh

def SEA (F : Nat) : Nat → Nat → sM → Int → Int → Int → Option (Int × sM)
  | 0, _, _, _, _, _ => none
  | d + 1, t, σ, a1, a2, a3 => if t = 0 then X0_search F (SEA F  d)  σ a1 a2 a3
    else none
theorem SEA_ok {G : sG} {q : qT} {x : List Nat} {F : Nat}  (d : Nat) : RCX0 G q x  (20 + d) (SEA F  d) := by
  induction d with
  | zero => exact (fun σ a1 a2 a3 r s h => (by cases h))
  | succ d ih => exact (fun σ a1 a2 a3 r s h => T_X0_search  (Nat.le_add_right 20 d) ih (show X0_search F (SEA F  d)  σ a1 a2 a3 = some (r, s) from h))

def X2_byKind (σ : sM) (a1 a2 a3 : Int) : Option (Int × sM) := if wi a1 = 0 then bn (X2_asRule σ a2 a3) (fun r2 σ4 => some (r2, σ4)) else if wi a1 = 1 then bn (X2_asOld σ a2 a3) (fun r6 σ8 => some (r6, σ8)) else if wi a1 = 2 then bn (X2_asBest σ a2 a3) (fun r10 σ12 => some (r10, σ12)) else if wi a1 = 3 then bn (X2_asLook σ a2 a3) (fun r14 σ16 => some (r14, σ16)) else if wi a1 = 4 then bn (X2_asSave σ a2 a3) (fun r18 σ20 => some (r18, σ20)) else if wi a1 = 5 then bn (X2_asWorst σ a2 a3) (fun r22 σ24 => some (r22, σ24)) else some ((-1000000), σ)
set_option maxRecDepth 100000 in
set_option maxHeartbeats 400000 in
theorem T_X2_byKind {G : sG} {q_0 : qT} {x_0 : List Nat} {σ s_0 : sM} {r_0 : Int} {a1 a2 a3 : Int}  (h : X2_byKind σ a1 a2 a3 = some (r_0, s_0)) : aM G yX2_byKind cX2_byKind 4 (some .int) 4 0 0 [.ref (gP G 54), vI a1, vI a2, vI a3] (mkSh q_0 x_0, σ) (r_0, (mkSh q_0 x_0, s_0)) := by
  unfold X2_byKind at h
  refine aM_of (by decide) (Nat.le_of_ble_eq_true rfl) ?_
  show aW G cX2_byKind RX2 "byKind" 4 (some .int) _ _ aX 0 0 _ [(0, .ref (gP G 54)), (1, vI a1), (2, vI a2), (3, vI a3)] 0 []
  refine a_iload_n 1 dX2_byKind_0 rfl ?_
  refine a_if h (fun c1 h => ?_) (fun c1 h => ?_)
  · skip
    refine a_tsIn (off := 39) 40 dX2_byKind_1 c1 (by decide) (by decide) (by decide) ?_
    refine a_aload_n 0 dX2_byKind_40 rfl ?_
    refine a_iload_n 2 dX2_byKind_41 rfl ?_
    refine a_iload_n 3 dX2_byKind_42 rfl ?_
    refine bn_s h (fun r2 σ4 e3 h => ?_)
    refine a_callVI dX2_byKind_43 mX2_asRule KX2 rfl kv_X2_asRule ks_X2_asRule rfl km_RX2_19 rfl (T_X2_asRule e3) (fun _ => rfl) rfl (Nat.le_of_ble_eq_true rfl) (Nat.le_of_ble_eq_true rfl) ⟨(Nat.le_of_ble_eq_true rfl), (Nat.le_of_ble_eq_true rfl)⟩ (Nat.le_of_ble_eq_true rfl) ?_
    exact a_iret dX2_byKind_46 rfl (p_1 h) (p_S (p_2 h))
  · skip
    refine a_if h (fun c5 h => ?_) (fun c5 h => ?_)
    · skip
      refine a_tsIn (off := 46) 47 dX2_byKind_1 c5 (by decide) (by decide) (by decide) ?_
      refine a_aload_n 0 dX2_byKind_47 rfl ?_
      refine a_iload_n 2 dX2_byKind_48 rfl ?_
      refine a_iload_n 3 dX2_byKind_49 rfl ?_
      refine bn_s h (fun r6 σ8 e7 h => ?_)
      refine a_callVI dX2_byKind_50 mX2_asOld KX2 rfl kv_X2_asOld ks_X2_asOld rfl km_RX2_23 rfl (T_X2_asOld e7) (fun _ => rfl) rfl (Nat.le_of_ble_eq_true rfl) (Nat.le_of_ble_eq_true rfl) ⟨(Nat.le_of_ble_eq_true rfl), (Nat.le_of_ble_eq_true rfl)⟩ (Nat.le_of_ble_eq_true rfl) ?_
      exact a_iret dX2_byKind_53 rfl (p_1 h) (p_S (p_2 h))
    · skip
      refine a_if h (fun c9 h => ?_) (fun c9 h => ?_)
      · skip
        refine a_tsIn (off := 53) 54 dX2_byKind_1 c9 (by decide) (by decide) (by decide) ?_
        refine a_aload_n 0 dX2_byKind_54 rfl ?_
        refine a_iload_n 2 dX2_byKind_55 rfl ?_
        refine a_iload_n 3 dX2_byKind_56 rfl ?_
        refine bn_s h (fun r10 σ12 e11 h => ?_)
        refine a_callVI dX2_byKind_57 mX2_asBest KX2 rfl kv_X2_asBest ks_X2_asBest rfl km_RX2_26 rfl (T_X2_asBest e11) (fun _ => rfl) rfl (Nat.le_of_ble_eq_true rfl) (Nat.le_of_ble_eq_true rfl) ⟨(Nat.le_of_ble_eq_true rfl), (Nat.le_of_ble_eq_true rfl)⟩ (Nat.le_of_ble_eq_true rfl) ?_
        exact a_iret dX2_byKind_60 rfl (p_1 h) (p_S (p_2 h))
      · skip
        refine a_if h (fun c13 h => ?_) (fun c13 h => ?_)
        · skip
          refine a_tsIn (off := 60) 61 dX2_byKind_1 c13 (by decide) (by decide) (by decide) ?_
          refine a_aload_n 0 dX2_byKind_61 rfl ?_
          refine a_iload_n 2 dX2_byKind_62 rfl ?_
          refine a_iload_n 3 dX2_byKind_63 rfl ?_
          refine bn_s h (fun r14 σ16 e15 h => ?_)
          refine a_callVI dX2_byKind_64 mX2_asLook KX2 rfl kv_X2_asLook ks_X2_asLook rfl km_RX2_29 rfl (T_X2_asLook e15) (fun _ => rfl) rfl (Nat.le_of_ble_eq_true rfl) (Nat.le_of_ble_eq_true rfl) ⟨(Nat.le_of_ble_eq_true rfl), (Nat.le_of_ble_eq_true rfl)⟩ (Nat.le_of_ble_eq_true rfl) ?_
          exact a_iret dX2_byKind_67 rfl (p_1 h) (p_S (p_2 h))
        · skip
          refine a_if h (fun c17 h => ?_) (fun c17 h => ?_)
          · skip
            refine a_tsIn (off := 67) 68 dX2_byKind_1 c17 (by decide) (by decide) (by decide) ?_
            refine a_aload_n 0 dX2_byKind_68 rfl ?_
            refine a_iload_n 2 dX2_byKind_69 rfl ?_
            refine a_iload_n 3 dX2_byKind_70 rfl ?_
            refine bn_s h (fun r18 σ20 e19 h => ?_)
            refine a_callVI dX2_byKind_71 mX2_asSave KX2 rfl kv_X2_asSave ks_X2_asSave rfl km_RX2_32 rfl (T_X2_asSave e19) (fun _ => rfl) rfl (Nat.le_of_ble_eq_true rfl) (Nat.le_of_ble_eq_true rfl) ⟨(Nat.le_of_ble_eq_true rfl), (Nat.le_of_ble_eq_true rfl)⟩ (Nat.le_of_ble_eq_true rfl) ?_
            exact a_iret dX2_byKind_74 rfl (p_1 h) (p_S (p_2 h))
          · skip
            refine a_if h (fun c21 h => ?_) (fun c21 h => ?_)
            · skip
              refine a_tsIn (off := 74) 75 dX2_byKind_1 c21 (by decide) (by decide) (by decide) ?_
              refine a_aload_n 0 dX2_byKind_75 rfl ?_
              refine a_iload_n 2 dX2_byKind_76 rfl ?_
              refine a_iload_n 3 dX2_byKind_77 rfl ?_
              refine bn_s h (fun r22 σ24 e23 h => ?_)
              refine a_callVI dX2_byKind_78 mX2_asWorst KX2 rfl kv_X2_asWorst ks_X2_asWorst rfl km_RX2_35 rfl (T_X2_asWorst e23) (fun _ => rfl) rfl (Nat.le_of_ble_eq_true rfl) (Nat.le_of_ble_eq_true rfl) ⟨(Nat.le_of_ble_eq_true rfl), (Nat.le_of_ble_eq_true rfl)⟩ (Nat.le_of_ble_eq_true rfl) ?_
              exact a_iret dX2_byKind_81 rfl (p_1 h) (p_S (p_2 h))
            · skip
              refine a_tsOut (v := wi a1) 82 dX2_byKind_1 rfl (by omega) (by decide) ?_
              refine a_ldc (z := -1000000) dX2_byKind_82 kc_RX2_38 (by decide) ?_
              exact a_iret dX2_byKind_84 rfl (p_1 h) (p_S (p_2 h))

def X3_forgetAll (F : Nat) (o0 : Nat) (σ : sM) : Option (Int × sM) := lp (fun K2 (q1 : sM × Int) => if 3 ≤ wi q1.2 then some (0, q1.1) else bn (X3_tellShares F o0 q1.1 q1.2 (q1.1 o0 4)) (fun r4 σ6 => bp (X1_portionsAtFirst σ6 q1.2) (fun r7 => K2 ((sU σ6 o0 4 ((σ6 o0 4) * ((4 * r7) + 1))), q1.2 + 1)))) F ((sU (sU σ o0 5 ((σ o0 5) + 1)) o0 4 1), 0)
set_option maxRecDepth 100000 in
set_option maxHeartbeats 400000 in
theorem T_X3_forgetAll {o0P o0V o0W : Nat} {G : sG} {q_0 : qT} {x_0 : List Nat} {σ s_0 : sM} {r_0 : Int} {o0 : Nat} {F : Nat} (h_o0 : (mkSh q_0 x_0)[o0]? = some (.inl (3, [.ref 2, .int 0, .int 0, .ref (shC o0), .int 0, .long 0, .ref o0P, .ref o0V, .ref o0W]))) (g_o0S : (mkSh q_0 x_0)[shC o0]? = some (.inr (.int, 48, gN))) (h : X3_forgetAll F o0 σ = some (r_0, s_0)) : aM G yX3_forgetAll cX3_forgetAll 2 none 2 0 0 [.ref (gP G o0)] (mkSh q_0 x_0, σ) (r_0, (mkSh q_0 x_0, s_0)) := by
  unfold X3_forgetAll at h
  refine aM_of (by decide) (Nat.le_of_ble_eq_true rfl) ?_
  show aW G cX3_forgetAll RX3 "forgetAll" 2 none _ _ aX 0 0 _ [(0, .ref (gP G o0))] 0 []
  refine a_aload_n 0 dX3_forgetAll_0 rfl ?_
  refine a_dupR dX3_forgetAll_1 ?_
  refine a_getL (j := 5) dX3_forgetAll_2 KX3 h_o0 (by decide) rfl kf_RX3_25 ?_
  refine a_lconst (z := 1) dX3_forgetAll_5 (by decide) ?_
  refine a_ladd dX3_forgetAll_6 ?_
  refine a_putL (j := 5) dX3_forgetAll_7 KX3 h_o0 (by decide) rfl rfl rfl kf_RX3_25 ?_
  refine a_aload_n 0 dX3_forgetAll_10 rfl ?_
  refine a_iconst dX3_forgetAll_11 ?_
  refine a_putI (j := 4) dX3_forgetAll_12 KX3 h_o0 (by decide) rfl rfl rfl kf_RX3_22 ?_
  refine a_iconst dX3_forgetAll_15 ?_
  refine a_istore_n (L' := [(1, vI 0), (0, .ref (gP G o0))]) dX3_forgetAll_16 (by decide) rfl ?_
  refine a_sub (L' := [(0, .ref (gP G o0)), (1, vI 0)]) [1, 0] rfl (lp_s (x := ((sU (sU σ o0 5 ((σ o0 5) + 1)) o0 4 1), 0)) (fun q1 : sM × Int => aW G cX3_forgetAll RX3 "forgetAll" 2 none (sR 2 0 0) (aQ G none 0 0 (r_0, (mkSh q_0 x_0, s_0))) aX 0 0 (mkSh q_0 x_0, q1.1) [(0, .ref (gP G o0)), (1, vI q1.2)] 17 []) h (fun K2 hK2 q1 h => ?_))
  refine a_iload_n 1 dX3_forgetAll_17 rfl ?_
  refine a_iconst dX3_forgetAll_18 ?_
  refine a_icmp_ge 58 dX3_forgetAll_19 (by decide) rfl (by decide) h (fun c3 h => ?_) (fun c3 h => ?_)
  · skip
    exact a_vret dX3_forgetAll_58 rfl (p_S (p_2 h))
  · skip
    refine a_aload_n 0 dX3_forgetAll_22 rfl ?_
    refine a_iload_n 1 dX3_forgetAll_23 rfl ?_
    refine a_aload_n 0 dX3_forgetAll_24 rfl ?_
    refine a_getI (j := 4) dX3_forgetAll_25 KX3 h_o0 (by decide) rfl kf_RX3_22 ?_
    refine bn_s h (fun r4 σ6 e5 h => ?_)
    refine a_callVV dX3_forgetAll_28 mX3_tellShares KX3 rfl kv_X3_tellShares ks_X3_tellShares h_o0 km_RX3_43 rfl (T_X3_tellShares h_o0 g_o0S e5) (fun _ => rfl) rfl (Nat.le_of_ble_eq_true rfl) (Nat.le_of_ble_eq_true rfl) ⟨(Nat.le_of_ble_eq_true rfl), (Nat.le_of_ble_eq_true rfl)⟩ (Nat.le_of_ble_eq_true rfl) ?_
    refine a_aload_n 0 dX3_forgetAll_31 rfl ?_
    refine a_dupR dX3_forgetAll_32 ?_
    refine a_getI (j := 4) dX3_forgetAll_33 KX3 h_o0 (by decide) rfl kf_RX3_22 ?_
    refine a_iconst dX3_forgetAll_36 ?_
    refine a_aload_n 0 dX3_forgetAll_37 rfl ?_
    refine a_getR (j := 0) dX3_forgetAll_38 KX3 h_o0 (by decide) rfl kf_RX3_39 ?_
    refine a_iload_n 1 dX3_forgetAll_41 rfl ?_
    refine bp_s h (fun r7 e8 h => ?_)
    refine a_callVI dX3_forgetAll_42 mX1_portionsAtFirst KX1 rfl kv_X1_portionsAtFirst ks_X1_portionsAtFirst rfl km_RX3_47 rfl (T_X1_portionsAtFirst e8) (fun _ => rfl) rfl (Nat.le_of_ble_eq_true rfl) (Nat.le_of_ble_eq_true rfl) ⟨(Nat.le_of_ble_eq_true rfl), (Nat.le_of_ble_eq_true rfl)⟩ (Nat.le_of_ble_eq_true rfl) ?_
    refine a_imul dX3_forgetAll_45 ?_
    refine a_iconst dX3_forgetAll_46 ?_
    refine a_iadd dX3_forgetAll_47 ?_
    refine a_imul dX3_forgetAll_48 ?_
    refine a_putI (j := 4) dX3_forgetAll_49 KX3 h_o0 (by decide) rfl rfl rfl kf_RX3_22 ?_
    refine a_iinc (L' := [(1, vI (q1.2 + 1)), (0, .ref (gP G o0))]) 1 dX3_forgetAll_52 rfl (by decide) rfl ?_
    refine a_goto 17 dX3_forgetAll_55 (by decide) ?_
    have hh := hK2 _ h
    exact a_sub [1, 0] rfl hh

def X3_rulePlan (F : Nat) (rec : Nat → sM → Int → Int → Int → Option (Int × sM)) (o0 o0P o0V o0W o0n : Nat) (σ : sM) (a1 a2 : Int) : Option (Int × sM) := lp (fun K2 (q1 : Int × Int × Int) => if wi (σ 2 6) ≤ wi q1.2.2 then bn (rec 4 σ a1 a2 q1.1) (fun r4 σ6 => some (q_or (q_shl r4 3) q1.1, σ6)) else bp (X1_mayEat F σ a2 q1.2.2) (fun r7 => jn (fun q9 : Int × Int => K2 (q9.1, q9.2, q1.2.2 + 1)) (fun K10 => if wi r7 = 0 then K10 (q1.1, q1.2.1) else bp (X3_rankOf o0 o0P o0V o0W o0n σ a2 q1.2.2) (fun r12 => jn (fun q14 : Unit => K10 (q1.2.2, r12)) (fun K15 => if wi q1.1 = 6 then K15 () else if wi r12 ≤ wi q1.2.1 then K10 (q1.1, q1.2.1) else K15 ()))))) F (6, 0, 0)
set_option maxRecDepth 100000 in
set_option maxHeartbeats 400000 in
theorem T_X3_rulePlan {G : sG} {q_0 : qT} {x_0 : List Nat} {σ s_0 : sM} {r_0 : Int} {a1 a2 : Int} {o0 o0P o0V o0W o0n : Nat} {F dd : Nat} {rec : Nat → sM → Int → Int → Int → Option (Int × sM)} (h_o0 : (mkSh q_0 x_0)[o0]? = some (.inl (3, [.ref 2, .int 0, .int 0, .ref (shC o0), .int 0, .long 0, .ref o0P, .ref o0V, .ref o0W]))) (g_o0S : (mkSh q_0 x_0)[shC o0]? = some (.inr (.int, 48, gN))) (g_o0P : (mkSh q_0 x_0)[o0P]? = some (.inr (.long, o0n, gN))) (g_o0V : (mkSh q_0 x_0)[o0V]? = some (.inr (.long, o0n, gN))) (g_o0W : (mkSh q_0 x_0)[o0W]? = some (.inr (.long, o0n, gN))) (hdd : 20 ≤ dd) (hR : RCX3 G q_0 x_0 o0 o0P o0V o0W o0n dd rec) (h : X3_rulePlan F rec o0 o0P o0V o0W o0n σ a1 a2 = some (r_0, s_0)) : aM G yX3_rulePlan cX3_rulePlan 7 (some .int) (dd + 1) 0 0 [.ref (gP G o0), vI a1, vI a2] (mkSh q_0 x_0, σ) (r_0, (mkSh q_0 x_0, s_0)) := by
  unfold X3_rulePlan at h
  refine aM_of (by decide) (Nat.le_of_ble_eq_true rfl) ?_
  show aW G cX3_rulePlan RX3 "rulePlan" 7 (some .int) _ _ aX 0 0 _ [(0, .ref (gP G o0)), (1, vI a1), (2, vI a2)] 0 []
  refine a_bipush dX3_rulePlan_0 (by decide) ?_
  refine a_istore_n (L' := [(3, vI 6), (0, .ref (gP G o0)), (1, vI a1), (2, vI a2)]) dX3_rulePlan_2 (by decide) rfl ?_
  refine a_iconst dX3_rulePlan_3 ?_
  refine a_istore (L' := [(4, vI 0), (3, vI 6), (0, .ref (gP G o0)), (1, vI a1), (2, vI a2)]) dX3_rulePlan_4 (by decide) rfl ?_
  refine a_iconst dX3_rulePlan_6 ?_
  refine a_istore (L' := [(5, vI 0), (4, vI 0), (3, vI 6), (0, .ref (gP G o0)), (1, vI a1), (2, vI a2)]) dX3_rulePlan_7 (by decide) rfl ?_
  refine a_sub (L' := [(0, .ref (gP G o0)), (1, vI a1), (2, vI a2), (3, vI 6), (4, vI 0), (5, vI 0)]) [3, 4, 5, 2, 1, 0] rfl (lp_s (x := (6, 0, 0)) (fun q1 : Int × Int × Int => aW G cX3_rulePlan RX3 "rulePlan" 7 (some .int) (sR (dd + 1) 0 0) (aQ G (some .int) 0 0 (r_0, (mkSh q_0 x_0, s_0))) aX 0 0 (mkSh q_0 x_0, σ) [(0, .ref (gP G o0)), (1, vI a1), (2, vI a2), (3, vI q1.1), (4, vI q1.2.1), (5, vI q1.2.2)] 9 []) h (fun K2 hK2 q1 h => ?_))
  refine a_iload 5 dX3_rulePlan_9 rfl ?_
  refine a_aload_n 0 dX3_rulePlan_11 rfl ?_
  refine a_getR (j := 0) dX3_rulePlan_12 KX3 h_o0 (by decide) rfl kf_RX3_39 ?_
  refine a_getIN (j := 6) dX3_rulePlan_15 KX1 rfl (by decide) rfl kf_RX3_116 ?_
  refine a_icmp_ge 69 dX3_rulePlan_18 (by decide) rfl rfl h (fun c3 h => ?_) (fun c3 h => ?_)
  · skip
    refine a_aload_n 0 dX3_rulePlan_69 rfl ?_
    refine a_iload_n 1 dX3_rulePlan_70 rfl ?_
    refine a_iload_n 2 dX3_rulePlan_71 rfl ?_
    refine a_iload_n 3 dX3_rulePlan_72 rfl ?_
    refine bn_s h (fun r4 σ6 e5 h => ?_)
    refine a_callVI dX3_rulePlan_73 mX3_broughtBy KX3 rfl kv_X3_broughtBy ks_X3_broughtBy h_o0 km_RX3_113 rfl (hR.2.2.2.2.1 _ _ _ _ _ _ e5) (fun _ => rfl) rfl (show dd + 1 ≤ dd + 1 by omega) (show 80 * dd + 79 ≤ 80 * (dd + 1) by omega) ⟨(Nat.le_of_ble_eq_true rfl), (Nat.le_of_ble_eq_true rfl)⟩ (Nat.le_of_ble_eq_true rfl) ?_
    refine a_iconst dX3_rulePlan_76 ?_
    refine a_ishl dX3_rulePlan_77 ?_
    refine a_iload_n 3 dX3_rulePlan_78 rfl ?_
    refine a_ior dX3_rulePlan_79 ?_
    exact a_iret dX3_rulePlan_80 rfl (p_1 h) (p_S (p_2 h))
  · skip
    refine a_aload_n 0 dX3_rulePlan_21 rfl ?_
    refine a_getR (j := 0) dX3_rulePlan_22 KX3 h_o0 (by decide) rfl kf_RX3_39 ?_
    refine a_iload_n 2 dX3_rulePlan_25 rfl ?_
    refine a_iload 5 dX3_rulePlan_26 rfl ?_
    refine bp_s h (fun r7 e8 h => ?_)
    refine a_callVI dX3_rulePlan_28 mX1_mayEat KX1 rfl kv_X1_mayEat ks_X1_mayEat rfl km_RX3_119 rfl (T_X1_mayEat e8) (fun _ => rfl) rfl (show 2 + 1 ≤ dd + 1 by omega) (show 80 * 2 + 79 ≤ 80 * (dd + 1) by omega) ⟨(Nat.le_of_ble_eq_true rfl), (Nat.le_of_ble_eq_true rfl)⟩ (Nat.le_of_ble_eq_true rfl) ?_
    refine jn_s (fun q9 : Int × Int => aW G cX3_rulePlan RX3 "rulePlan" 7 (some .int) (sR (dd + 1) 0 0) (aQ G (some .int) 0 0 (r_0, (mkSh q_0 x_0, s_0))) aX 0 0 (mkSh q_0 x_0, σ) [(0, .ref (gP G o0)), (1, vI a1), (2, vI a2), (3, vI q9.1), (4, vI q9.2), (5, vI q1.2.2)] 63 []) h (fun q9 h => ?_) (fun K10 hK10 h => ?_)
    · skip
      refine a_iinc (L' := [(5, vI (q1.2.2 + 1)), (0, .ref (gP G o0)), (1, vI a1), (2, vI a2), (3, vI q9.1), (4, vI q9.2)]) 5 dX3_rulePlan_63 rfl (by decide) rfl ?_
      refine a_goto 9 dX3_rulePlan_66 (by decide) ?_
      have hh := hK2 _ h
      exact a_sub [1, 2, 3, 4, 5, 0] rfl hh
    · skip
      refine a_if_eq 63 dX3_rulePlan_31 (by decide) rfl h (fun c11 h => ?_) (fun c11 h => ?_)
      · skip
        have hh := hK10 _ h
        exact a_sub [0, 1, 2, 3, 4, 5] rfl hh
      · skip
        refine a_aload_n 0 dX3_rulePlan_34 rfl ?_
        refine a_iload_n 2 dX3_rulePlan_35 rfl ?_
        refine a_iload 5 dX3_rulePlan_36 rfl ?_
        refine bp_s h (fun r12 e13 h => ?_)
        refine a_callVI dX3_rulePlan_38 mX3_rankOf KX3 rfl kv_X3_rankOf ks_X3_rankOf h_o0 km_RX3_122 rfl (T_X3_rankOf h_o0 g_o0S g_o0P g_o0V g_o0W e13) (fun _ => rfl) rfl (show 2 + 1 ≤ dd + 1 by omega) (show 80 * 2 + 79 ≤ 80 * (dd + 1) by omega) ⟨(Nat.le_of_ble_eq_true rfl), (Nat.le_of_ble_eq_true rfl)⟩ (Nat.le_of_ble_eq_true rfl) ?_
        refine a_istore (L' := [(6, vI r12), (0, .ref (gP G o0)), (1, vI a1), (2, vI a2), (3, vI q1.1), (4, vI q1.2.1), (5, vI q1.2.2)]) dX3_rulePlan_41 (by decide) rfl ?_
        refine a_iload_n 4 dX3_rulePlan_43 rfl ?_
        refine a_bipush dX3_rulePlan_44 (by decide) ?_
        refine jn_s (fun q14 : Unit => aW G cX3_rulePlan RX3 "rulePlan" 7 (some .int) (sR (dd + 1) 0 0) (aQ G (some .int) 0 0 (r_0, (mkSh q_0 x_0, s_0))) aX 0 0 (mkSh q_0 x_0, σ) [(0, .ref (gP G o0)), (1, vI a1), (2, vI a2), (5, vI q1.2.2), (6, vI r12)] 56 []) h (fun q14 h => ?_) (fun K15 hK15 h => ?_)
        · skip
          refine a_iload 4 dX3_rulePlan_56 rfl ?_
          refine a_istore (L' := [(4, vI r12), (0, .ref (gP G o0)), (1, vI a1), (2, vI a2), (5, vI q1.2.2), (6, vI r12)]) dX3_rulePlan_58 (by decide) rfl ?_
          refine a_iload 4 dX3_rulePlan_60 rfl ?_
          refine a_istore_n (L' := [(3, vI q1.2.2), (4, vI r12), (0, .ref (gP G o0)), (1, vI a1), (2, vI a2), (5, vI q1.2.2), (6, vI r12)]) dX3_rulePlan_62 (by decide) rfl ?_
          have hh := hK10 _ h
          exact a_sub [2, 3, 4, 0, 1, 5] rfl hh
        · skip
          refine a_icmp_eq 56 dX3_rulePlan_46 (by decide) rfl (by decide) h (fun c16 h => ?_) (fun c16 h => ?_)
          · skip
            have hh := hK15 _ h
            exact a_sub [1, 2, 3, 6, 0] rfl hh
          · skip
            refine a_iload 0 dX3_rulePlan_49 rfl ?_
            refine a_iload 5 dX3_rulePlan_51 rfl ?_
            refine a_icmp_le 63 dX3_rulePlan_53 (by decide) rfl rfl h (fun c17 h => ?_) (fun c17 h => ?_)
            · skip
              have hh := hK10 _ h
              exact a_sub [1, 2, 3, 4, 5, 6] rfl hh
            · skip
              have hh := hK15 _ h
              exact a_sub [1, 2, 3, 6, 0] rfl hh

def OUT (F : Nat) (o0 o0P o0V o0W o0n : Nat) : Nat → Nat → sM → Int → Int → Int → Option (Int × sM)
  | 0, _, _, _, _, _ => none
  | d + 1, t, σ, a1, a2, a3 => if t = 0 then X3_valueAhead F (OUT F o0 o0P o0V o0W o0n d) o0 o0P o0V o0W o0n σ a1 a2
    else if t = 1 then X3_planAt F (OUT F o0 o0P o0V o0W o0n d) o0 o0P o0V o0W o0n σ a1 a2
    else if t = 2 then X3_bestPlan F (OUT F o0 o0P o0V o0W o0n d) o0 o0P o0V o0W o0n σ a1 a2
    else if t = 3 then X3_rulePlan F (OUT F o0 o0P o0V o0W o0n d) o0 o0P o0V o0W o0n σ a1 a2
    else if t = 4 then X3_broughtBy F (OUT F o0 o0P o0V o0W o0n d) o0 o0P o0V o0W o0n σ a1 a2 a3
    else if t = 5 then X3_valueBehind F (OUT F o0 o0P o0V o0W o0n d) o0 o0P o0V o0W o0n σ a1 a2
    else if t = 6 then X3_mean F (OUT F o0 o0P o0V o0W o0n d) o0 o0P o0V o0W o0n σ a1 a2 a3
    else if t = 7 then X3_leftAhead F (OUT F o0 o0P o0V o0W o0n d) o0 o0P o0V o0W o0n σ a1 a2
    else if t = 8 then X3_choiceAt F (OUT F o0 o0P o0V o0W o0n d) o0 o0P o0V o0W o0n σ a1 a2
    else if t = 9 then X3_leftBehind F (OUT F o0 o0P o0V o0W o0n d) o0 o0P o0V o0W o0n σ a1 a2
    else none
theorem OUT_ok {G : sG} {q : qT} {x : List Nat} {F : Nat} {o0 o0P o0V o0W o0n : Nat} (h_o0 : (mkSh q x)[o0]? = some (.inl (3, [.ref 2, .int 0, .int 0, .ref (shC o0), .int 0, .long 0, .ref o0P, .ref o0V, .ref o0W]))) (g_o0S : (mkSh q x)[shC o0]? = some (.inr (.int, 48, gN))) (g_o0P : (mkSh q x)[o0P]? = some (.inr (.long, o0n, gN))) (g_o0V : (mkSh q x)[o0V]? = some (.inr (.long, o0n, gN))) (g_o0W : (mkSh q x)[o0W]? = some (.inr (.long, o0n, gN))) (d : Nat) : RCX3 G q x o0 o0P o0V o0W o0n (20 + d) (OUT F o0 o0P o0V o0W o0n d) := by
  induction d with
  | zero => exact ⟨(fun σ a1 a2 r s h => (by cases h)), (fun σ a1 a2 r s h => (by cases h)), (fun σ a1 a2 r s h => (by cases h)), (fun σ a1 a2 r s h => (by cases h)), (fun σ a1 a2 a3 r s h => (by cases h)), (fun σ a1 a2 r s h => (by cases h)), (fun σ a1 a2 a3 r s h => (by cases h)), (fun σ a1 a2 r s h => (by cases h)), (fun σ a1 a2 r s h => (by cases h)), (fun σ a1 a2 r s h => (by cases h))⟩
  | succ d ih => exact ⟨(fun σ a1 a2 r s h => T_X3_valueAhead h_o0 g_o0S g_o0P g_o0V g_o0W (Nat.le_add_right 20 d) ih (show X3_valueAhead F (OUT F o0 o0P o0V o0W o0n d) o0 o0P o0V o0W o0n σ a1 a2 = some (r, s) from h)), (fun σ a1 a2 r s h => T_X3_planAt h_o0 g_o0S g_o0P g_o0V g_o0W (Nat.le_add_right 20 d) ih (show X3_planAt F (OUT F o0 o0P o0V o0W o0n d) o0 o0P o0V o0W o0n σ a1 a2 = some (r, s) from h)), (fun σ a1 a2 r s h => T_X3_bestPlan h_o0 g_o0S g_o0P g_o0V g_o0W (Nat.le_add_right 20 d) ih (show X3_bestPlan F (OUT F o0 o0P o0V o0W o0n d) o0 o0P o0V o0W o0n σ a1 a2 = some (r, s) from h)), (fun σ a1 a2 r s h => T_X3_rulePlan h_o0 g_o0S g_o0P g_o0V g_o0W (Nat.le_add_right 20 d) ih (show X3_rulePlan F (OUT F o0 o0P o0V o0W o0n d) o0 o0P o0V o0W o0n σ a1 a2 = some (r, s) from h)), (fun σ a1 a2 a3 r s h => T_X3_broughtBy h_o0 g_o0S g_o0P g_o0V g_o0W (Nat.le_add_right 20 d) ih (show X3_broughtBy F (OUT F o0 o0P o0V o0W o0n d) o0 o0P o0V o0W o0n σ a1 a2 a3 = some (r, s) from h)), (fun σ a1 a2 r s h => T_X3_valueBehind h_o0 g_o0S g_o0P g_o0V g_o0W (Nat.le_add_right 20 d) ih (show X3_valueBehind F (OUT F o0 o0P o0V o0W o0n d) o0 o0P o0V o0W o0n σ a1 a2 = some (r, s) from h)), (fun σ a1 a2 a3 r s h => T_X3_mean h_o0 g_o0S g_o0P g_o0V g_o0W (Nat.le_add_right 20 d) ih (show X3_mean F (OUT F o0 o0P o0V o0W o0n d) o0 o0P o0V o0W o0n σ a1 a2 a3 = some (r, s) from h)), (fun σ a1 a2 r s h => T_X3_leftAhead h_o0 g_o0S g_o0P g_o0V g_o0W (Nat.le_add_right 20 d) ih (show X3_leftAhead F (OUT F o0 o0P o0V o0W o0n d) o0 o0P o0V o0W o0n σ a1 a2 = some (r, s) from h)), (fun σ a1 a2 r s h => T_X3_choiceAt h_o0 g_o0S g_o0P g_o0V g_o0W (Nat.le_add_right 20 d) ih (show X3_choiceAt F (OUT F o0 o0P o0V o0W o0n d) o0 o0P o0V o0W o0n σ a1 a2 = some (r, s) from h)), (fun σ a1 a2 r s h => T_X3_leftBehind h_o0 g_o0S g_o0P g_o0V g_o0W (Nat.le_add_right 20 d) ih (show X3_leftBehind F (OUT F o0 o0P o0V o0W o0n d) o0 o0P o0V o0W o0n σ a1 a2 = some (r, s) from h))⟩

def X4_readSort (F : Nat) (σ : sM) : Option (Int × sM) := if wi (σ 12 5) < 0 then some (0, σ) else if wi (σ 12 5) < 4 then if 0 ≤ wi (σ 12 5) ∧ wi (σ 12 5) < 4 then bn (X4_take σ 5) (fun r4 σ6 => jn (fun q7 : sM × Int => if wi q7.2 = 0 then if wi q7.2 = 0 ∨ wi q7.2 = 1 then some (q7.2, q7.1) else none else if wi q7.2 = 0 ∨ wi q7.2 = 1 then some (q7.2, (sU q7.1 12 5 ((q7.1 12 5) + 1))) else none) (fun K8 => jn (fun q12 : sM => K8 (q12, 0)) (fun K13 => if wi r4 = 0 then K13 σ6 else bn (X4_takeRow F (14 + (wi (σ 12 5)).toNat) 14 σ6 0 4 99) (fun r15 σ17 => if wi r15 = 0 then K13 σ17 else bn (X4_take σ17 6) (fun r19 σ21 => if wi r19 = 0 then K13 σ21 else bn (X4_takeRow F (14 + (wi (σ 12 5)).toNat) 14 σ21 4 7 10) (fun r23 σ25 => if wi r23 = 0 then K13 σ25 else bn (X4_take σ25 7) (fun r27 σ29 => if wi r27 = 0 then K13 σ29 else bn (X4_takeRow F (14 + (wi (σ 12 5)).toNat) 14 σ29 7 10 10) (fun r31 σ33 => if wi r31 = 0 then K13 σ33 else bn (X4_take σ33 8) (fun r35 σ37 => if wi r35 = 0 then K13 σ37 else bn (X4_takeRow F (14 + (wi (σ 12 5)).toNat) 14 σ37 10 14 10) (fun r39 σ41 => if wi r39 = 0 then K13 σ41 else bn (X4_take σ41 2) (fun r43 σ45 => if wi r43 = 0 then K13 σ45 else K8 (σ45, 1)))))))))))) else none else some (0, σ)
set_option maxRecDepth 100000 in
set_option maxHeartbeats 400000 in
theorem T_X4_readSort {G : sG} {q_0 : qT} {x_0 : List Nat} {σ s_0 : sM} {r_0 : Int} {F : Nat}  (h : X4_readSort F σ = some (r_0, s_0)) : aM G yX4_readSort cX4_readSort 4 (some .boolean) 2 0 0 [.ref (gP G 22)] (mkSh q_0 x_0, σ) (r_0, (mkSh q_0 x_0, s_0)) := by
  unfold X4_readSort at h
  refine aM_of (by decide) (Nat.le_of_ble_eq_true rfl) ?_
  show aW G cX4_readSort RX4 "readSort" 4 (some .boolean) _ _ aX 0 0 _ [(0, .ref (gP G 22))] 0 []
  refine a_aload_n 0 dX4_readSort_0 rfl ?_
  refine a_getR (j := 1) dX4_readSort_1 KX4 rfl (by decide) rfl kf_RX4_38 ?_
  refine a_getIN (j := 5) dX4_readSort_4 KX1 rfl (by decide) rfl kf_RX4_71 ?_
  refine a_istore_n (L' := [(1, vI (σ 12 5)), (0, .ref (gP G 22))]) dX4_readSort_7 (by decide) rfl ?_
  refine a_iload_n 0 dX4_readSort_8 rfl ?_
  refine a_if_lt 17 dX4_readSort_9 (by decide) rfl h (fun c1 h => ?_) (fun c1 h => ?_)
  · skip
    refine a_iconst dX4_readSort_17 ?_
    exact a_zret dX4_readSort_18 rfl (by decide) (p_1 h) (p_S (p_2 h))
  · skip
    refine a_iload_n 0 dX4_readSort_12 rfl ?_
    refine a_iconst dX4_readSort_13 ?_
    refine a_icmp_lt 19 dX4_readSort_14 (by decide) rfl (by decide) h (fun c2 h => ?_) (fun c2 h => ?_)
    · skip
      refine a_aload_n 1 dX4_readSort_19 rfl ?_
      refine a_getR (j := 1) dX4_readSort_20 KX4 rfl (by decide) rfl kf_RX4_38 ?_
      refine a_getRN (j := 0) dX4_readSort_23 KX1 rfl (by decide) rfl kf_RX4_107 ?_
      refine a_iload_n 0 dX4_readSort_26 rfl ?_
      refine a_gd h (fun c3 h => ?_)
      refine a_aald dX4_readSort_27 rfl rfl c3 rfl ?_
      refine a_astore_n (L' := [(2, .ref (gP G (14 + (wi (σ 12 5)).toNat))), (1, vI (σ 12 5)), (0, .ref (gP G 22))]) dX4_readSort_28 (by decide) rfl ?_
      refine a_aload_n 2 dX4_readSort_29 rfl ?_
      refine a_iconst dX4_readSort_30 ?_
      refine bn_s h (fun r4 σ6 e5 h => ?_)
      refine a_callVI dX4_readSort_31 mX4_take KX4 rfl kv_X4_take ks_X4_take rfl km_RX4_103 rfl (T_X4_take e5) (fun _ => rfl) rfl (Nat.le_of_ble_eq_true rfl) (Nat.le_of_ble_eq_true rfl) ⟨(Nat.le_of_ble_eq_true rfl), (Nat.le_of_ble_eq_true rfl)⟩ (Nat.le_of_ble_eq_true rfl) ?_
      refine jn_s (fun q7 : sM × Int => aW G cX4_readSort RX4 "readSort" 4 (some .boolean) (sR 2 0 0) (aQ G (some .boolean) 0 0 (r_0, (mkSh q_0 x_0, s_0))) aX 0 0 (mkSh q_0 x_0, q7.1) [(0, .ref (gP G 22))] 130 [vI q7.2]) h (fun q7 h => ?_) (fun K8 hK8 h => ?_)
      · skip
        refine a_istore_n (L' := [(3, vI q7.2), (0, .ref (gP G 22))]) dX4_readSort_130 (by decide) rfl ?_
        refine a_iload_n 0 dX4_readSort_131 rfl ?_
        refine a_if_eq 148 dX4_readSort_132 (by decide) rfl h (fun c9 h => ?_) (fun c9 h => ?_)
        · skip
          refine a_iload_n 0 dX4_readSort_148 rfl ?_
          refine a_gd h (fun c10 h => ?_)
          exact a_zret dX4_readSort_149 rfl (nb_01 c10) (p_1 h) (p_S (p_2 h))
        · skip
          refine a_aload_n 1 dX4_readSort_135 rfl ?_
          refine a_getR (j := 1) dX4_readSort_136 KX4 rfl (by decide) rfl kf_RX4_38 ?_
          refine a_dupR dX4_readSort_139 ?_
          refine a_getIN (j := 5) dX4_readSort_140 KX1 rfl (by decide) rfl kf_RX4_71 ?_
          refine a_iconst dX4_readSort_143 ?_
          refine a_iadd dX4_readSort_144 ?_
          refine a_putIN (j := 5) dX4_readSort_145 KX1 rfl (by decide) rfl rfl rfl kf_RX4_71 ?_
          refine a_iload_n 0 dX4_readSort_148 rfl ?_
          refine a_gd h (fun c11 h => ?_)
          exact a_zret dX4_readSort_149 rfl (nb_01 c11) (p_1 h) (p_S (p_2 h))
      · skip
        refine jn_s (fun q12 : sM => aW G cX4_readSort RX4 "readSort" 4 (some .boolean) (sR 2 0 0) (aQ G (some .boolean) 0 0 (r_0, (mkSh q_0 x_0, s_0))) aX 0 0 (mkSh q_0 x_0, q12) [(0, .ref (gP G 22))] 129 []) h (fun q12 h => ?_) (fun K13 hK13 h => ?_)
        · skip
          refine a_iconst dX4_readSort_129 ?_
          have hh := hK8 _ h
          exact a_sub [0] rfl hh
        · skip
          refine a_if_eq 129 dX4_readSort_34 (by decide) rfl h (fun c14 h => ?_) (fun c14 h => ?_)
          · skip
            have hh := hK13 _ h
            exact a_sub [2] rfl hh
          · skip
            refine a_aload_n 2 dX4_readSort_37 rfl ?_
            refine a_aload_n 0 dX4_readSort_38 rfl ?_
            refine a_iconst dX4_readSort_39 ?_
            refine a_iconst dX4_readSort_40 ?_
            refine a_bipush dX4_readSort_41 (by decide) ?_
            refine bn_s h (fun r15 σ17 e16 h => ?_)
            refine a_callVI dX4_readSort_43 mX4_takeRow KX4 rfl kv_X4_takeRow ks_X4_takeRow rfl km_RX4_111 rfl (T_X4_takeRow (sh_row14 c3) e16) (fun _ => rfl) rfl (Nat.le_of_ble_eq_true rfl) (Nat.le_of_ble_eq_true rfl) ⟨(Nat.le_of_ble_eq_true rfl), (Nat.le_of_ble_eq_true rfl)⟩ (Nat.le_of_ble_eq_true rfl) ?_
            refine a_if_eq 129 dX4_readSort_46 (by decide) rfl h (fun c18 h => ?_) (fun c18 h => ?_)
            · skip
              have hh := hK13 _ h
              exact a_sub [2] rfl hh
            · skip
              refine a_aload_n 2 dX4_readSort_49 rfl ?_
              refine a_bipush dX4_readSort_50 (by decide) ?_
              refine bn_s h (fun r19 σ21 e20 h => ?_)
              refine a_callVI dX4_readSort_52 mX4_take KX4 rfl kv_X4_take ks_X4_take rfl km_RX4_103 rfl (T_X4_take e20) (fun _ => rfl) rfl (Nat.le_of_ble_eq_true rfl) (Nat.le_of_ble_eq_true rfl) ⟨(Nat.le_of_ble_eq_true rfl), (Nat.le_of_ble_eq_true rfl)⟩ (Nat.le_of_ble_eq_true rfl) ?_
              refine a_if_eq 129 dX4_readSort_55 (by decide) rfl h (fun c22 h => ?_) (fun c22 h => ?_)
              · skip
                have hh := hK13 _ h
                exact a_sub [2] rfl hh
              · skip
                refine a_aload_n 2 dX4_readSort_58 rfl ?_
                refine a_aload_n 0 dX4_readSort_59 rfl ?_
                refine a_iconst dX4_readSort_60 ?_
                refine a_bipush dX4_readSort_61 (by decide) ?_
                refine a_bipush dX4_readSort_63 (by decide) ?_
                refine bn_s h (fun r23 σ25 e24 h => ?_)
                refine a_callVI dX4_readSort_65 mX4_takeRow KX4 rfl kv_X4_takeRow ks_X4_takeRow rfl km_RX4_111 rfl (T_X4_takeRow (sh_row14 c3) e24) (fun _ => rfl) rfl (Nat.le_of_ble_eq_true rfl) (Nat.le_of_ble_eq_true rfl) ⟨(Nat.le_of_ble_eq_true rfl), (Nat.le_of_ble_eq_true rfl)⟩ (Nat.le_of_ble_eq_true rfl) ?_
                refine a_if_eq 129 dX4_readSort_68 (by decide) rfl h (fun c26 h => ?_) (fun c26 h => ?_)
                · skip
                  have hh := hK13 _ h
                  exact a_sub [2] rfl hh
                · skip
                  refine a_aload_n 2 dX4_readSort_71 rfl ?_
                  refine a_bipush dX4_readSort_72 (by decide) ?_
                  refine bn_s h (fun r27 σ29 e28 h => ?_)
                  refine a_callVI dX4_readSort_74 mX4_take KX4 rfl kv_X4_take ks_X4_take rfl km_RX4_103 rfl (T_X4_take e28) (fun _ => rfl) rfl (Nat.le_of_ble_eq_true rfl) (Nat.le_of_ble_eq_true rfl) ⟨(Nat.le_of_ble_eq_true rfl), (Nat.le_of_ble_eq_true rfl)⟩ (Nat.le_of_ble_eq_true rfl) ?_
                  refine a_if_eq 129 dX4_readSort_77 (by decide) rfl h (fun c30 h => ?_) (fun c30 h => ?_)
                  · skip
                    have hh := hK13 _ h
                    exact a_sub [2] rfl hh
                  · skip
                    refine a_aload_n 2 dX4_readSort_80 rfl ?_
                    refine a_aload_n 0 dX4_readSort_81 rfl ?_
                    refine a_bipush dX4_readSort_82 (by decide) ?_
                    refine a_bipush dX4_readSort_84 (by decide) ?_
                    refine a_bipush dX4_readSort_86 (by decide) ?_
                    refine bn_s h (fun r31 σ33 e32 h => ?_)
                    refine a_callVI dX4_readSort_88 mX4_takeRow KX4 rfl kv_X4_takeRow ks_X4_takeRow rfl km_RX4_111 rfl (T_X4_takeRow (sh_row14 c3) e32) (fun _ => rfl) rfl (Nat.le_of_ble_eq_true rfl) (Nat.le_of_ble_eq_true rfl) ⟨(Nat.le_of_ble_eq_true rfl), (Nat.le_of_ble_eq_true rfl)⟩ (Nat.le_of_ble_eq_true rfl) ?_
                    refine a_if_eq 129 dX4_readSort_91 (by decide) rfl h (fun c34 h => ?_) (fun c34 h => ?_)
                    · skip
                      have hh := hK13 _ h
                      exact a_sub [2] rfl hh
                    · skip
                      refine a_aload_n 2 dX4_readSort_94 rfl ?_
                      refine a_bipush dX4_readSort_95 (by decide) ?_
                      refine bn_s h (fun r35 σ37 e36 h => ?_)
                      refine a_callVI dX4_readSort_97 mX4_take KX4 rfl kv_X4_take ks_X4_take rfl km_RX4_103 rfl (T_X4_take e36) (fun _ => rfl) rfl (Nat.le_of_ble_eq_true rfl) (Nat.le_of_ble_eq_true rfl) ⟨(Nat.le_of_ble_eq_true rfl), (Nat.le_of_ble_eq_true rfl)⟩ (Nat.le_of_ble_eq_true rfl) ?_
                      refine a_if_eq 129 dX4_readSort_100 (by decide) rfl h (fun c38 h => ?_) (fun c38 h => ?_)
                      · skip
                        have hh := hK13 _ h
                        exact a_sub [2] rfl hh
                      · skip
                        refine a_aload_n 2 dX4_readSort_103 rfl ?_
                        refine a_aload_n 0 dX4_readSort_104 rfl ?_
                        refine a_bipush dX4_readSort_105 (by decide) ?_
                        refine a_bipush dX4_readSort_107 (by decide) ?_
                        refine a_bipush dX4_readSort_109 (by decide) ?_
                        refine bn_s h (fun r39 σ41 e40 h => ?_)
                        refine a_callVI dX4_readSort_111 mX4_takeRow KX4 rfl kv_X4_takeRow ks_X4_takeRow rfl km_RX4_111 rfl (T_X4_takeRow (sh_row14 c3) e40) (fun _ => rfl) rfl (Nat.le_of_ble_eq_true rfl) (Nat.le_of_ble_eq_true rfl) ⟨(Nat.le_of_ble_eq_true rfl), (Nat.le_of_ble_eq_true rfl)⟩ (Nat.le_of_ble_eq_true rfl) ?_
                        refine a_if_eq 129 dX4_readSort_114 (by decide) rfl h (fun c42 h => ?_) (fun c42 h => ?_)
                        · skip
                          have hh := hK13 _ h
                          exact a_sub [2] rfl hh
                        · skip
                          refine a_aload_n 2 dX4_readSort_117 rfl ?_
                          refine a_iconst dX4_readSort_118 ?_
                          refine bn_s h (fun r43 σ45 e44 h => ?_)
                          refine a_callVI dX4_readSort_119 mX4_take KX4 rfl kv_X4_take ks_X4_take rfl km_RX4_103 rfl (T_X4_take e44) (fun _ => rfl) rfl (Nat.le_of_ble_eq_true rfl) (Nat.le_of_ble_eq_true rfl) ⟨(Nat.le_of_ble_eq_true rfl), (Nat.le_of_ble_eq_true rfl)⟩ (Nat.le_of_ble_eq_true rfl) ?_
                          refine a_if_eq 129 dX4_readSort_122 (by decide) rfl h (fun c46 h => ?_) (fun c46 h => ?_)
                          · skip
                            have hh := hK13 _ h
                            exact a_sub [2] rfl hh
                          · skip
                            refine a_iconst dX4_readSort_125 ?_
                            refine a_goto 130 dX4_readSort_126 (by decide) ?_
                            have hh := hK8 _ h
                            exact a_sub [2] rfl hh
    · skip
      refine a_iconst dX4_readSort_17 ?_
      exact a_zret dX4_readSort_18 rfl (by decide) (p_1 h) (p_S (p_2 h))

def X4_tokenOf (F : Nat) (σ : sM) (a1 a2 : Int) : Option Int := bp (X4_isBetween σ a1 97 122) (fun r1 => if wi r1 = 0 then bp (X4_isBetween σ a1 59 59) (fun r4 => if wi r4 = 0 then jn (fun q7 : Int => bp (X4_isBetween σ a1 48 57) (fun r9 => if wi r9 = 0 then some 3 else if 2 < wi (a2 - a1) then some 3 else if ¬ wi q7 = 0 then some 3 else some 1)) (fun K8 => jn (fun q14 : Unit => K8 0) (fun K15 => if wi (a2 - a1) ≤ 1 then K15 () else bp (X4_isBetween σ a1 48 48) (fun r17 => if wi r17 = 0 then K15 () else K8 1))) else some 2) else bp (X4_wordOf F σ a1 a2) (fun r20 => some r20))
set_option maxRecDepth 100000 in
set_option maxHeartbeats 400000 in
theorem T_X4_tokenOf {G : sG} {q_0 : qT} {x_0 : List Nat} {σ : sM} {r_0 : Int} {a1 a2 : Int} {F : Nat}  (h : X4_tokenOf F σ a1 a2 = some r_0) : aM G yX4_tokenOf cX4_tokenOf 4 (some .int) 6 0 0 [.ref (gP G 22), vI a1, vI a2] (mkSh q_0 x_0, σ) (r_0, (mkSh q_0 x_0, σ)) := by
  unfold X4_tokenOf at h
  refine aM_of (by decide) (Nat.le_of_ble_eq_true rfl) ?_
  show aW G cX4_tokenOf RX4 "tokenOf" 4 (some .int) _ _ aX 0 0 _ [(0, .ref (gP G 22)), (1, vI a1), (2, vI a2)] 0 []
  refine a_aload_n 0 dX4_tokenOf_0 rfl ?_
  refine a_iload_n 1 dX4_tokenOf_1 rfl ?_
  refine a_bipush dX4_tokenOf_2 (by decide) ?_
  refine a_bipush dX4_tokenOf_4 (by decide) ?_
  refine bp_s h (fun r1 e2 h => ?_)
  refine a_callVI dX4_tokenOf_6 mX4_isBetween KX4 rfl kv_X4_isBetween ks_X4_isBetween rfl km_RX4_134 rfl (T_X4_isBetween e2) (fun _ => rfl) rfl (Nat.le_of_ble_eq_true rfl) (Nat.le_of_ble_eq_true rfl) ⟨(Nat.le_of_ble_eq_true rfl), (Nat.le_of_ble_eq_true rfl)⟩ (Nat.le_of_ble_eq_true rfl) ?_
  refine a_if_eq 19 dX4_tokenOf_9 (by decide) rfl h (fun c3 h => ?_) (fun c3 h => ?_)
  · skip
    refine a_aload_n 0 dX4_tokenOf_19 rfl ?_
    refine a_iload_n 1 dX4_tokenOf_20 rfl ?_
    refine a_bipush dX4_tokenOf_21 (by decide) ?_
    refine a_bipush dX4_tokenOf_23 (by decide) ?_
    refine bp_s h (fun r4 e5 h => ?_)
    refine a_callVI dX4_tokenOf_25 mX4_isBetween KX4 rfl kv_X4_isBetween ks_X4_isBetween rfl km_RX4_134 rfl (T_X4_isBetween e5) (fun _ => rfl) rfl (Nat.le_of_ble_eq_true rfl) (Nat.le_of_ble_eq_true rfl) ⟨(Nat.le_of_ble_eq_true rfl), (Nat.le_of_ble_eq_true rfl)⟩ (Nat.le_of_ble_eq_true rfl) ?_
    refine a_if_eq 33 dX4_tokenOf_28 (by decide) rfl h (fun c6 h => ?_) (fun c6 h => ?_)
    · skip
      refine a_iload_n 2 dX4_tokenOf_33 rfl ?_
      refine a_iload_n 1 dX4_tokenOf_34 rfl ?_
      refine a_isub dX4_tokenOf_35 ?_
      refine a_iconst dX4_tokenOf_36 ?_
      refine jn_s (fun q7 : Int => aW G cX4_tokenOf RX4 "tokenOf" 4 (some .int) (sR 6 0 0) (aQ G (some .int) 0 0 (r_0, (mkSh q_0 x_0, σ))) aX 0 0 (mkSh q_0 x_0, σ) [(0, .ref (gP G 22)), (1, vI a1), (2, vI a2)] 57 [vI q7]) h (fun q7 h => ?_) (fun K8 hK8 h => ?_)
      · skip
        refine a_istore_n (L' := [(3, vI q7), (0, .ref (gP G 22)), (1, vI a1), (2, vI a2)]) dX4_tokenOf_57 (by decide) rfl ?_
        refine a_aload_n 1 dX4_tokenOf_58 rfl ?_
        refine a_iload_n 2 dX4_tokenOf_59 rfl ?_
        refine a_bipush dX4_tokenOf_60 (by decide) ?_
        refine a_bipush dX4_tokenOf_62 (by decide) ?_
        refine bp_s h (fun r9 e10 h => ?_)
        refine a_callVI dX4_tokenOf_64 mX4_isBetween KX4 rfl kv_X4_isBetween ks_X4_isBetween rfl km_RX4_134 rfl (T_X4_isBetween e10) (fun _ => rfl) rfl (Nat.le_of_ble_eq_true rfl) (Nat.le_of_ble_eq_true rfl) ⟨(Nat.le_of_ble_eq_true rfl), (Nat.le_of_ble_eq_true rfl)⟩ (Nat.le_of_ble_eq_true rfl) ?_
        refine a_if_eq 85 dX4_tokenOf_67 (by decide) rfl h (fun c11 h => ?_) (fun c11 h => ?_)
        · skip
          refine a_iconst dX4_tokenOf_85 ?_
          exact a_iret dX4_tokenOf_86 rfl (s_inj h) rfl
        · skip
          refine a_iload_n 3 dX4_tokenOf_70 rfl ?_
          refine a_iload_n 2 dX4_tokenOf_71 rfl ?_
          refine a_isub dX4_tokenOf_72 ?_
          refine a_iconst dX4_tokenOf_73 ?_
          refine a_icmp_gt 85 dX4_tokenOf_74 (by decide) rfl (by decide) h (fun c12 h => ?_) (fun c12 h => ?_)
          · skip
            refine a_iconst dX4_tokenOf_85 ?_
            exact a_iret dX4_tokenOf_86 rfl (s_inj h) rfl
          · skip
            refine a_iload_n 0 dX4_tokenOf_77 rfl ?_
            refine a_if_ne 85 dX4_tokenOf_78 (by decide) rfl h (fun c13 h => ?_) (fun c13 h => ?_)
            · skip
              refine a_iconst dX4_tokenOf_85 ?_
              exact a_iret dX4_tokenOf_86 rfl (s_inj h) rfl
            · skip
              refine a_iconst dX4_tokenOf_81 ?_
              refine a_goto 86 dX4_tokenOf_82 (by decide) ?_
              exact a_iret dX4_tokenOf_86 rfl (s_inj h) rfl
      · skip
        refine jn_s (fun q14 : Unit => aW G cX4_tokenOf RX4 "tokenOf" 4 (some .int) (sR 6 0 0) (aQ G (some .int) 0 0 (r_0, (mkSh q_0 x_0, σ))) aX 0 0 (mkSh q_0 x_0, σ) [(0, .ref (gP G 22)), (1, vI a1), (2, vI a2)] 56 []) h (fun q14 h => ?_) (fun K15 hK15 h => ?_)
        · skip
          refine a_iconst dX4_tokenOf_56 ?_
          have hh := hK8 _ h
          exact a_sub [0, 1, 2] rfl hh
        · skip
          refine a_icmp_le 56 dX4_tokenOf_37 (by decide) rfl (by decide) h (fun c16 h => ?_) (fun c16 h => ?_)
          · skip
            have hh := hK15 _ h
            exact a_sub [0, 1, 2] rfl hh
          · skip
            refine a_aload_n 0 dX4_tokenOf_40 rfl ?_
            refine a_iload_n 1 dX4_tokenOf_41 rfl ?_
            refine a_bipush dX4_tokenOf_42 (by decide) ?_
            refine a_bipush dX4_tokenOf_44 (by decide) ?_
            refine bp_s h (fun r17 e18 h => ?_)
            refine a_callVI dX4_tokenOf_46 mX4_isBetween KX4 rfl kv_X4_isBetween ks_X4_isBetween rfl km_RX4_134 rfl (T_X4_isBetween e18) (fun _ => rfl) rfl (Nat.le_of_ble_eq_true rfl) (Nat.le_of_ble_eq_true rfl) ⟨(Nat.le_of_ble_eq_true rfl), (Nat.le_of_ble_eq_true rfl)⟩ (Nat.le_of_ble_eq_true rfl) ?_
            refine a_if_eq 56 dX4_tokenOf_49 (by decide) rfl h (fun c19 h => ?_) (fun c19 h => ?_)
            · skip
              have hh := hK15 _ h
              exact a_sub [0, 1, 2] rfl hh
            · skip
              refine a_iconst dX4_tokenOf_52 ?_
              refine a_goto 57 dX4_tokenOf_53 (by decide) ?_
              have hh := hK8 _ h
              exact a_sub [0, 1, 2] rfl hh
    · skip
      refine a_iconst dX4_tokenOf_31 ?_
      exact a_iret dX4_tokenOf_32 rfl (s_inj h) rfl
  · skip
    refine a_aload_n 0 dX4_tokenOf_12 rfl ?_
    refine a_iload_n 1 dX4_tokenOf_13 rfl ?_
    refine a_iload_n 2 dX4_tokenOf_14 rfl ?_
    refine bp_s h (fun r20 e21 h => ?_)
    refine a_callVI dX4_tokenOf_15 mX4_wordOf KX4 rfl kv_X4_wordOf ks_X4_wordOf rfl km_RX4_138 rfl (T_X4_wordOf e21) (fun _ => rfl) rfl (Nat.le_of_ble_eq_true rfl) (Nat.le_of_ble_eq_true rfl) ⟨(Nat.le_of_ble_eq_true rfl), (Nat.le_of_ble_eq_true rfl)⟩ (Nat.le_of_ble_eq_true rfl) ?_
    exact a_iret dX4_tokenOf_18 rfl (s_inj h) rfl

def X6_age (F : Nat) (σ : sM) : Option (Int × sM) := bp (X1_isSort σ (σ 49 3)) (fun r1 => if ¬ wi r1 = 0 then bn (X5_becomeLike 52 50 σ) (fun r4 σ6 => bn (X5_weekGoesBy F 52 σ6 (σ6 49 3) 0 8) (fun r7 σ9 => bn (X6_takeTrial F σ9) (fun r10 σ12 => some (r10, σ12)))) else some ((-2), σ))
set_option maxRecDepth 100000 in
set_option maxHeartbeats 400000 in
theorem T_X6_age {G : sG} {q_0 : qT} {x_0 : List Nat} {σ s_0 : sM} {r_0 : Int} {F : Nat}  (h : X6_age F σ = some (r_0, s_0)) : aM G yX6_age cX6_age 1 (some .int) 3 0 0 [.ref (gP G 49)] (mkSh q_0 x_0, σ) (r_0, (mkSh q_0 x_0, s_0)) := by
  unfold X6_age at h
  refine aM_of (by decide) (Nat.le_of_ble_eq_true rfl) ?_
  show aW G cX6_age RX6 "age" 1 (some .int) _ _ aX 0 0 _ [(0, .ref (gP G 49))] 0 []
  refine a_aload_n 0 dX6_age_0 rfl ?_
  refine a_getR (j := 0) dX6_age_1 KX6 rfl (by decide) rfl kf_RX6_25 ?_
  refine a_aload_n 0 dX6_age_4 rfl ?_
  refine a_getI (j := 3) dX6_age_5 KX6 rfl (by decide) rfl kf_RX6_21 ?_
  refine bp_s h (fun r1 e2 h => ?_)
  refine a_callVI dX6_age_8 mX1_isSort KX1 rfl kv_X1_isSort ks_X1_isSort rfl km_RX6_33 rfl (T_X1_isSort e2) (fun _ => rfl) rfl (Nat.le_of_ble_eq_true rfl) (Nat.le_of_ble_eq_true rfl) ⟨(Nat.le_of_ble_eq_true rfl), (Nat.le_of_ble_eq_true rfl)⟩ (Nat.le_of_ble_eq_true rfl) ?_
  refine a_if_ne 17 dX6_age_11 (by decide) rfl h (fun c3 h => ?_) (fun c3 h => ?_)
  · skip
    refine a_aload_n 0 dX6_age_17 rfl ?_
    refine a_getR (j := 2) dX6_age_18 KX6 rfl (by decide) rfl kf_RX6_18 ?_
    refine a_aload_n 0 dX6_age_21 rfl ?_
    refine a_getR (j := 1) dX6_age_22 KX6 rfl (by decide) rfl kf_RX6_12 ?_
    refine bn_s h (fun r4 σ6 e5 h => ?_)
    refine a_callVV dX6_age_25 mX5_becomeLike KX5 rfl kv_X5_becomeLike ks_X5_becomeLike rfl km_RX6_39 rfl (T_X5_becomeLike rfl rfl rfl rfl e5) (fun _ => rfl) rfl (Nat.le_of_ble_eq_true rfl) (Nat.le_of_ble_eq_true rfl) ⟨(Nat.le_of_ble_eq_true rfl), (Nat.le_of_ble_eq_true rfl)⟩ (Nat.le_of_ble_eq_true rfl) ?_
    refine a_aload_n 0 dX6_age_28 rfl ?_
    refine a_getR (j := 2) dX6_age_29 KX6 rfl (by decide) rfl kf_RX6_18 ?_
    refine a_aload_n 0 dX6_age_32 rfl ?_
    refine a_getR (j := 0) dX6_age_33 KX6 rfl (by decide) rfl kf_RX6_25 ?_
    refine a_aload_n 0 dX6_age_36 rfl ?_
    refine a_getI (j := 3) dX6_age_37 KX6 rfl (by decide) rfl kf_RX6_21 ?_
    refine a_iconst dX6_age_40 ?_
    refine a_bipush dX6_age_41 (by decide) ?_
    refine bn_s h (fun r7 σ9 e8 h => ?_)
    refine a_callVV dX6_age_43 mX5_weekGoesBy KX5 rfl kv_X5_weekGoesBy ks_X5_weekGoesBy rfl km_RX6_43 rfl (T_X5_weekGoesBy rfl rfl e8) (fun _ => rfl) rfl (Nat.le_of_ble_eq_true rfl) (Nat.le_of_ble_eq_true rfl) ⟨(Nat.le_of_ble_eq_true rfl), (Nat.le_of_ble_eq_true rfl)⟩ (Nat.le_of_ble_eq_true rfl) ?_
    refine a_aload_n 0 dX6_age_46 rfl ?_
    refine bn_s h (fun r10 σ12 e11 h => ?_)
    refine a_callVI dX6_age_47 mX6_takeTrial KX6 rfl kv_X6_takeTrial ks_X6_takeTrial rfl km_RX6_47 rfl (T_X6_takeTrial e11) (fun _ => rfl) rfl (Nat.le_of_ble_eq_true rfl) (Nat.le_of_ble_eq_true rfl) ⟨(Nat.le_of_ble_eq_true rfl), (Nat.le_of_ble_eq_true rfl)⟩ (Nat.le_of_ble_eq_true rfl) ?_
    exact a_iret dX6_age_50 rfl (p_1 h) (p_S (p_2 h))
  · skip
    refine a_bipush dX6_age_14 (by decide) ?_
    exact a_iret dX6_age_16 rfl (p_1 h) (p_S (p_2 h))

