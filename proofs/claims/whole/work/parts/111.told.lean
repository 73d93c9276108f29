def X6_see (F : Nat) (σ : sM) (a1 : Int) : Option (Int × sM) := bp (X1_isSort σ (σ 49 3)) (fun r1 => if ¬ wi r1 = 0 then bn (X5_becomeLike 52 50 σ) (fun r4 σ6 => bn (X5_rindIsSeen F 52 σ6 (σ6 49 3) a1) (fun r7 σ9 => bp (X5_total 52 σ9) (fun r10 => if ¬ wi (q_lcmp r10 0) = 0 then bn (X6_takeTrial F σ9) (fun r13 σ15 => some (r13, σ15)) else some ((-2), σ9)))) else some ((-2), σ))
set_option maxRecDepth 100000 in
set_option maxHeartbeats 400000 in
theorem T_X6_see {G : sG} {q_0 : qT} {x_0 : List Nat} {σ s_0 : sM} {r_0 : Int} {a1 : Int} {F : Nat}  (h : X6_see F σ a1 = some (r_0, s_0)) : aM G yX6_see cX6_see 2 (some .int) 3 0 0 [.ref (gP G 49), vI a1] (mkSh q_0 x_0, σ) (r_0, (mkSh q_0 x_0, s_0)) := by
  unfold X6_see at h
  refine aM_of (by decide) (Nat.le_of_ble_eq_true rfl) ?_
  show aW G cX6_see RX6 "see" 2 (some .int) _ _ aX 0 0 _ [(0, .ref (gP G 49)), (1, vI a1)] 0 []
  refine a_aload_n 0 dX6_see_0 rfl ?_
  refine a_getR (j := 0) dX6_see_1 KX6 rfl (by decide) rfl kf_RX6_25 ?_
  refine a_aload_n 0 dX6_see_4 rfl ?_
  refine a_getI (j := 3) dX6_see_5 KX6 rfl (by decide) rfl kf_RX6_21 ?_
  refine bp_s h (fun r1 e2 h => ?_)
  refine a_callVI dX6_see_8 mX1_isSort KX1 rfl kv_X1_isSort ks_X1_isSort rfl km_RX6_33 rfl (T_X1_isSort e2) (fun _ => rfl) rfl (Nat.le_of_ble_eq_true rfl) (Nat.le_of_ble_eq_true rfl) ⟨(Nat.le_of_ble_eq_true rfl), (Nat.le_of_ble_eq_true rfl)⟩ (Nat.le_of_ble_eq_true rfl) ?_
  refine a_if_ne 17 dX6_see_11 (by decide) rfl h (fun c3 h => ?_) (fun c3 h => ?_)
  · skip
    refine a_aload_n 0 dX6_see_17 rfl ?_
    refine a_getR (j := 2) dX6_see_18 KX6 rfl (by decide) rfl kf_RX6_18 ?_
    refine a_aload_n 0 dX6_see_21 rfl ?_
    refine a_getR (j := 1) dX6_see_22 KX6 rfl (by decide) rfl kf_RX6_12 ?_
    refine bn_s h (fun r4 σ6 e5 h => ?_)
    refine a_callVV dX6_see_25 mX5_becomeLike KX5 rfl kv_X5_becomeLike ks_X5_becomeLike rfl km_RX6_39 rfl (T_X5_becomeLike rfl rfl rfl rfl e5) (fun _ => rfl) rfl (Nat.le_of_ble_eq_true rfl) (Nat.le_of_ble_eq_true rfl) ⟨(Nat.le_of_ble_eq_true rfl), (Nat.le_of_ble_eq_true rfl)⟩ (Nat.le_of_ble_eq_true rfl) ?_
    refine a_aload_n 0 dX6_see_28 rfl ?_
    refine a_getR (j := 2) dX6_see_29 KX6 rfl (by decide) rfl kf_RX6_18 ?_
    refine a_aload_n 0 dX6_see_32 rfl ?_
    refine a_getR (j := 0) dX6_see_33 KX6 rfl (by decide) rfl kf_RX6_25 ?_
    refine a_aload_n 0 dX6_see_36 rfl ?_
    refine a_getI (j := 3) dX6_see_37 KX6 rfl (by decide) rfl kf_RX6_21 ?_
    refine a_iload_n 1 dX6_see_40 rfl ?_
    refine bn_s h (fun r7 σ9 e8 h => ?_)
    refine a_callVV dX6_see_41 mX5_rindIsSeen KX5 rfl kv_X5_rindIsSeen ks_X5_rindIsSeen rfl km_RX6_51 rfl (T_X5_rindIsSeen rfl rfl e8) (fun _ => rfl) rfl (Nat.le_of_ble_eq_true rfl) (Nat.le_of_ble_eq_true rfl) ⟨(Nat.le_of_ble_eq_true rfl), (Nat.le_of_ble_eq_true rfl)⟩ (Nat.le_of_ble_eq_true rfl) ?_
    refine a_aload_n 0 dX6_see_44 rfl ?_
    refine a_getR (j := 2) dX6_see_45 KX6 rfl (by decide) rfl kf_RX6_18 ?_
    refine bp_s h (fun r10 e11 h => ?_)
    refine a_callVL dX6_see_48 mX5_total KX5 rfl kv_X5_total ks_X5_total rfl km_RX6_55 rfl (T_X5_total rfl rfl e11) (fun _ => rfl) rfl (Nat.le_of_ble_eq_true rfl) (Nat.le_of_ble_eq_true rfl) ⟨(Nat.le_of_ble_eq_true rfl), (Nat.le_of_ble_eq_true rfl)⟩ (Nat.le_of_ble_eq_true rfl) ?_
    refine a_lconst (z := 0) dX6_see_51 (by decide) ?_
    refine a_lcmp dX6_see_52 ?_
    refine a_if_ne 61 dX6_see_53 (by decide) rfl h (fun c12 h => ?_) (fun c12 h => ?_)
    · skip
      refine a_aload_n 0 dX6_see_61 rfl ?_
      refine bn_s h (fun r13 σ15 e14 h => ?_)
      refine a_callVI dX6_see_62 mX6_takeTrial KX6 rfl kv_X6_takeTrial ks_X6_takeTrial rfl km_RX6_47 rfl (T_X6_takeTrial e14) (fun _ => rfl) rfl (Nat.le_of_ble_eq_true rfl) (Nat.le_of_ble_eq_true rfl) ⟨(Nat.le_of_ble_eq_true rfl), (Nat.le_of_ble_eq_true rfl)⟩ (Nat.le_of_ble_eq_true rfl) ?_
      exact a_iret dX6_see_65 rfl (p_1 h) (p_S (p_2 h))
    · skip
      refine a_bipush dX6_see_56 (by decide) ?_
      refine a_goto 65 dX6_see_58 (by decide) ?_
      exact a_iret dX6_see_65 rfl (p_1 h) (p_S (p_2 h))
  · skip
    refine a_bipush dX6_see_14 (by decide) ?_
    exact a_iret dX6_see_16 rfl (p_1 h) (p_S (p_2 h))

def X8_eat (F : Nat) (σ : sM) (a1 : Int) : Option (Int × sM) := bp (X1_isWheel σ a1) (fun r1 => if wi r1 = 0 then some ((-1), σ) else bn (X8_actIfMay F σ a1) (fun r4 σ6 => some (r4, σ6)))
set_option maxRecDepth 100000 in
set_option maxHeartbeats 400000 in
theorem T_X8_eat {G : sG} {q_0 : qT} {x_0 : List Nat} {σ s_0 : sM} {r_0 : Int} {a1 : Int} {F : Nat}  (h : X8_eat F σ a1 = some (r_0, s_0)) : aM G yX8_eat cX8_eat 2 (some .int) 5 0 0 [.ref (gP G 0), vI a1] (mkSh q_0 x_0, σ) (r_0, (mkSh q_0 x_0, s_0)) := by
  unfold X8_eat at h
  refine aM_of (by decide) (Nat.le_of_ble_eq_true rfl) ?_
  show aW G cX8_eat RX8 "eat" 2 (some .int) _ _ aX 0 0 _ [(0, .ref (gP G 0)), (1, vI a1)] 0 []
  refine a_aload_n 0 dX8_eat_0 rfl ?_
  refine a_getR (j := 2) dX8_eat_1 KX8 rfl (by decide) rfl kf_RX8_20 ?_
  refine a_iload_n 1 dX8_eat_4 rfl ?_
  refine bp_s h (fun r1 e2 h => ?_)
  refine a_callVI dX8_eat_5 mX1_isWheel KX1 rfl kv_X1_isWheel ks_X1_isWheel rfl km_RX8_124 rfl (T_X1_isWheel e2) (fun _ => rfl) rfl (Nat.le_of_ble_eq_true rfl) (Nat.le_of_ble_eq_true rfl) ⟨(Nat.le_of_ble_eq_true rfl), (Nat.le_of_ble_eq_true rfl)⟩ (Nat.le_of_ble_eq_true rfl) ?_
  refine a_if_eq 19 dX8_eat_8 (by decide) rfl h (fun c3 h => ?_) (fun c3 h => ?_)
  · skip
    refine a_iconst dX8_eat_19 ?_
    exact a_iret dX8_eat_20 rfl (p_1 h) (p_S (p_2 h))
  · skip
    refine a_aload_n 0 dX8_eat_11 rfl ?_
    refine a_iload_n 1 dX8_eat_12 rfl ?_
    refine bn_s h (fun r4 σ6 e5 h => ?_)
    refine a_callVI dX8_eat_13 mX8_actIfMay KX8 rfl kv_X8_actIfMay ks_X8_actIfMay rfl km_RX8_175 rfl (T_X8_actIfMay e5) (fun _ => rfl) rfl (Nat.le_of_ble_eq_true rfl) (Nat.le_of_ble_eq_true rfl) ⟨(Nat.le_of_ble_eq_true rfl), (Nat.le_of_ble_eq_true rfl)⟩ (Nat.le_of_ble_eq_true rfl) ?_
    refine a_goto 20 dX8_eat_16 (by decide) ?_
    exact a_iret dX8_eat_20 rfl (p_1 h) (p_S (p_2 h))

def X8_sell (F : Nat) (σ : sM) (a1 : Int) : Option (Int × sM) := bp (X1_isWheel σ a1) (fun r1 => if wi r1 = 0 then some ((-1), σ) else bn (X8_actIfMay F σ (3 + a1)) (fun r4 σ6 => some (r4, σ6)))
set_option maxRecDepth 100000 in
set_option maxHeartbeats 400000 in
theorem T_X8_sell {G : sG} {q_0 : qT} {x_0 : List Nat} {σ s_0 : sM} {r_0 : Int} {a1 : Int} {F : Nat}  (h : X8_sell F σ a1 = some (r_0, s_0)) : aM G yX8_sell cX8_sell 2 (some .int) 5 0 0 [.ref (gP G 0), vI a1] (mkSh q_0 x_0, σ) (r_0, (mkSh q_0 x_0, s_0)) := by
  unfold X8_sell at h
  refine aM_of (by decide) (Nat.le_of_ble_eq_true rfl) ?_
  show aW G cX8_sell RX8 "sell" 2 (some .int) _ _ aX 0 0 _ [(0, .ref (gP G 0)), (1, vI a1)] 0 []
  refine a_aload_n 0 dX8_sell_0 rfl ?_
  refine a_getR (j := 2) dX8_sell_1 KX8 rfl (by decide) rfl kf_RX8_20 ?_
  refine a_iload_n 1 dX8_sell_4 rfl ?_
  refine bp_s h (fun r1 e2 h => ?_)
  refine a_callVI dX8_sell_5 mX1_isWheel KX1 rfl kv_X1_isWheel ks_X1_isWheel rfl km_RX8_124 rfl (T_X1_isWheel e2) (fun _ => rfl) rfl (Nat.le_of_ble_eq_true rfl) (Nat.le_of_ble_eq_true rfl) ⟨(Nat.le_of_ble_eq_true rfl), (Nat.le_of_ble_eq_true rfl)⟩ (Nat.le_of_ble_eq_true rfl) ?_
  refine a_if_eq 21 dX8_sell_8 (by decide) rfl h (fun c3 h => ?_) (fun c3 h => ?_)
  · skip
    refine a_iconst dX8_sell_21 ?_
    exact a_iret dX8_sell_22 rfl (p_1 h) (p_S (p_2 h))
  · skip
    refine a_aload_n 0 dX8_sell_11 rfl ?_
    refine a_iconst dX8_sell_12 ?_
    refine a_iload_n 1 dX8_sell_13 rfl ?_
    refine a_iadd dX8_sell_14 ?_
    refine bn_s h (fun r4 σ6 e5 h => ?_)
    refine a_callVI dX8_sell_15 mX8_actIfMay KX8 rfl kv_X8_actIfMay ks_X8_actIfMay rfl km_RX8_175 rfl (T_X8_actIfMay e5) (fun _ => rfl) rfl (Nat.le_of_ble_eq_true rfl) (Nat.le_of_ble_eq_true rfl) ⟨(Nat.le_of_ble_eq_true rfl), (Nat.le_of_ble_eq_true rfl)⟩ (Nat.le_of_ble_eq_true rfl) ?_
    refine a_goto 22 dX8_sell_18 (by decide) ?_
    exact a_iret dX8_sell_22 rfl (p_1 h) (p_S (p_2 h))

def X8_valueNow (F : Nat) (o1 o1P o1V o1W o1n : Nat) (σ : sM) : Option (Int × sM) := if wi (σ 26 1) = 0 then bn (OUT F o1 o1P o1V o1W o1n 80 0 σ (σ 26 0) (σ 26 2) 0) (fun r2 σ4 => some (r2, σ4)) else bn (OUT F o1 o1P o1V o1W o1n 80 5 σ (σ 26 0) (σ 26 2) 0) (fun r5 σ7 => some (r5, σ7))
set_option maxRecDepth 100000 in
set_option maxHeartbeats 400000 in
theorem T_X8_valueNow {G : sG} {q_0 : qT} {x_0 : List Nat} {σ s_0 : sM} {r_0 : Int} {o1 o1P o1V o1W o1n : Nat} {F : Nat} (h_o1 : (mkSh q_0 x_0)[o1]? = some (.inl (3, [.ref 2, .int 0, .int 0, .ref (shC o1), .int 0, .long 0, .ref o1P, .ref o1V, .ref o1W]))) (g_o1S : (mkSh q_0 x_0)[shC o1]? = some (.inr (.int, 48, gN))) (g_o1P : (mkSh q_0 x_0)[o1P]? = some (.inr (.long, o1n, gN))) (g_o1V : (mkSh q_0 x_0)[o1V]? = some (.inr (.long, o1n, gN))) (g_o1W : (mkSh q_0 x_0)[o1W]? = some (.inr (.long, o1n, gN))) (h : X8_valueNow F o1 o1P o1V o1W o1n σ = some (r_0, s_0)) : aM G yX8_valueNow cX8_valueNow 2 (some .int) 101 0 0 [.ref (gP G 0), .ref (gP G o1)] (mkSh q_0 x_0, σ) (r_0, (mkSh q_0 x_0, s_0)) := by
  unfold X8_valueNow at h
  refine aM_of (by decide) (Nat.le_of_ble_eq_true rfl) ?_
  show aW G cX8_valueNow RX8 "valueNow" 2 (some .int) _ _ aX 0 0 _ [(0, .ref (gP G 0)), (1, .ref (gP G o1))] 0 []
  refine a_aload_n 0 dX8_valueNow_0 rfl ?_
  refine a_getR (j := 5) dX8_valueNow_1 KX8 rfl (by decide) rfl kf_RX8_39 ?_
  refine a_getIN (j := 1) dX8_valueNow_4 KX7 rfl (by decide) rfl kf_RX8_192 ?_
  refine a_if_eq 29 dX8_valueNow_7 (by decide) rfl h (fun c1 h => ?_) (fun c1 h => ?_)
  · skip
    refine a_aload_n 1 dX8_valueNow_29 rfl ?_
    refine a_aload_n 0 dX8_valueNow_30 rfl ?_
    refine a_getR (j := 5) dX8_valueNow_31 KX8 rfl (by decide) rfl kf_RX8_39 ?_
    refine a_getIN (j := 0) dX8_valueNow_34 KX7 rfl (by decide) rfl kf_RX8_155 ?_
    refine a_aload_n 0 dX8_valueNow_37 rfl ?_
    refine a_getR (j := 5) dX8_valueNow_38 KX8 rfl (by decide) rfl kf_RX8_39 ?_
    refine a_getIN (j := 2) dX8_valueNow_41 KX7 rfl (by decide) rfl kf_RX8_133 ?_
    refine bn_s h (fun r2 σ4 e3 h => ?_)
    refine a_callVNI dX8_valueNow_44 mX3_valueAhead KX3 rfl kv_X3_valueAhead ks_X3_valueAhead h_o1 km_RX8_232 rfl ((OUT_ok h_o1 g_o1S g_o1P g_o1V g_o1W 80).1 _ _ _ _ _ e3) (fun _ => rfl) rfl (Nat.le_of_ble_eq_true rfl) (Nat.le_of_ble_eq_true rfl) ⟨(Nat.le_of_ble_eq_true rfl), (Nat.le_of_ble_eq_true rfl)⟩ (Nat.le_of_ble_eq_true rfl) ?_
    exact a_iret dX8_valueNow_47 rfl (p_1 h) (p_S (p_2 h))
  · skip
    refine a_aload_n 1 dX8_valueNow_10 rfl ?_
    refine a_aload_n 0 dX8_valueNow_11 rfl ?_
    refine a_getR (j := 5) dX8_valueNow_12 KX8 rfl (by decide) rfl kf_RX8_39 ?_
    refine a_getIN (j := 0) dX8_valueNow_15 KX7 rfl (by decide) rfl kf_RX8_155 ?_
    refine a_aload_n 0 dX8_valueNow_18 rfl ?_
    refine a_getR (j := 5) dX8_valueNow_19 KX8 rfl (by decide) rfl kf_RX8_39 ?_
    refine a_getIN (j := 2) dX8_valueNow_22 KX7 rfl (by decide) rfl kf_RX8_133 ?_
    refine bn_s h (fun r5 σ7 e6 h => ?_)
    refine a_callVNI dX8_valueNow_25 mX3_valueBehind KX3 rfl kv_X3_valueBehind ks_X3_valueBehind h_o1 km_RX8_229 rfl ((OUT_ok h_o1 g_o1S g_o1P g_o1V g_o1W 80).2.2.2.2.2.1 _ _ _ _ _ e6) (fun _ => rfl) rfl (Nat.le_of_ble_eq_true rfl) (Nat.le_of_ble_eq_true rfl) ⟨(Nat.le_of_ble_eq_true rfl), (Nat.le_of_ble_eq_true rfl)⟩ (Nat.le_of_ble_eq_true rfl) ?_
    exact a_iret dX8_valueNow_28 rfl (p_1 h) (p_S (p_2 h))

def X8_left (F : Nat) (q_0 : qT) (x_0 : List Nat) (σ : sM) (a1 : Int) : Option (Int × qT × List Nat × sM) := bp (X8_isRule σ a1) (fun r1 => if ¬ wi r1 = 0 then if wi (σ 26 1) = 0 then bn (X8_outlookBy q_0 x_0 σ a1) (fun r5 σ7 => if r5 = 29 then if okO σ7.1.1 σ7.1.2.1 σ7.1.2.2.1 σ7.2.1 = true then bn (OUT F 29 σ7.1.1 σ7.1.2.1 σ7.1.2.2.1 (lnA σ7.1.1 σ7.2.1) 80 7 σ7.2.2 (σ7.2.2 26 0) (σ7.2.2 26 2) 0) (fun r10 σ12 => some (r10, (σ7.1, σ7.2.1, σ12))) else none else if r5 = 33 then if okO σ7.1.2.2.2.1 σ7.1.2.2.2.2.1 σ7.1.2.2.2.2.2 σ7.2.1 = true then bn (OUT F 33 σ7.1.2.2.2.1 σ7.1.2.2.2.2.1 σ7.1.2.2.2.2.2 (lnA σ7.1.2.2.2.1 σ7.2.1) 80 7 σ7.2.2 (σ7.2.2 26 0) (σ7.2.2 26 2) 0) (fun r15 σ17 => some (r15, (σ7.1, σ7.2.1, σ17))) else none else none) else bn (X8_outlookBy q_0 x_0 σ a1) (fun r18 σ20 => if r18 = 29 then if okO σ20.1.1 σ20.1.2.1 σ20.1.2.2.1 σ20.2.1 = true then bn (OUT F 29 σ20.1.1 σ20.1.2.1 σ20.1.2.2.1 (lnA σ20.1.1 σ20.2.1) 80 9 σ20.2.2 (σ20.2.2 26 0) (σ20.2.2 26 2) 0) (fun r23 σ25 => some (r23, (σ20.1, σ20.2.1, σ25))) else none else if r18 = 33 then if okO σ20.1.2.2.2.1 σ20.1.2.2.2.2.1 σ20.1.2.2.2.2.2 σ20.2.1 = true then bn (OUT F 33 σ20.1.2.2.2.1 σ20.1.2.2.2.2.1 σ20.1.2.2.2.2.2 (lnA σ20.1.2.2.2.1 σ20.2.1) 80 9 σ20.2.2 (σ20.2.2 26 0) (σ20.2.2 26 2) 0) (fun r28 σ30 => some (r28, (σ20.1, σ20.2.1, σ30))) else none else none) else some ((-1), (q_0, x_0, σ)))
set_option maxRecDepth 100000 in
set_option maxHeartbeats 400000 in
theorem T_X8_left {G : sG} {q_0 : qT} {x_0 : List Nat} {σ : sM} {t_0 : qT × List Nat × sM} {r_0 : Int} {a1 : Int} {F : Nat} (h : X8_left F q_0 x_0 σ a1 = some (r_0, t_0)) : aM G yX8_left cX8_left 2 (some .int) 101 3 98304 [.ref (gP G 0), vI a1] (mkSh q_0 x_0, σ) (r_0, (mkSh t_0.1 t_0.2.1, t_0.2.2)) := by
  unfold X8_left at h
  refine aM_of (by decide) (Nat.le_of_ble_eq_true rfl) ?_
  show aW G cX8_left RX8 "left" 2 (some .int) _ _ aX 0 0 _ [(0, .ref (gP G 0)), (1, vI a1)] 0 []
  refine a_iload_n 1 dX8_left_0 rfl ?_
  refine bp_s h (fun r1 e2 h => ?_)
  refine a_callSI dX8_left_1 mX8_isRule kv_X8_isRule km_RX8_218 rfl (T_X8_isRule e2) (fun _ => rfl) rfl (Nat.le_of_ble_eq_true rfl) (Nat.le_of_ble_eq_true rfl) ⟨show 0 + 0 ≤ 3 by omega, show 0 + 0 ≤ 98304 by omega⟩ (Nat.le_of_ble_eq_true rfl) ?_
  refine a_if_ne 9 dX8_left_4 (by decide) rfl h (fun c3 h => ?_) (fun c3 h => ?_)
  · skip
    refine a_aload_n 0 dX8_left_9 rfl ?_
    refine a_getR (j := 5) dX8_left_10 KX8 rfl (by decide) rfl kf_RX8_39 ?_
    refine a_getIN (j := 1) dX8_left_13 KX7 rfl (by decide) rfl kf_RX8_192 ?_
    refine a_if_eq 42 dX8_left_16 (by decide) rfl h (fun c4 h => ?_) (fun c4 h => ?_)
    · skip
      refine a_aload_n 0 dX8_left_42 rfl ?_
      refine a_iload_n 1 dX8_left_43 rfl ?_
      refine bn_s h (fun r5 σ7 e6 h => ?_)
      refine a_callVR dX8_left_44 mX8_outlookBy KX8 rfl kv_X8_outlookBy ks_X8_outlookBy rfl km_RX8_221 rfl (T_X8_outlookBy e6) (fun _ => rfl) rfl (Nat.le_of_ble_eq_true rfl) (Nat.le_of_ble_eq_true rfl) ⟨show 0 + 0 + 3 ≤ 3 by omega, show 0 + 0 + 98304 ≤ 98304 by omega⟩ (Nat.le_of_ble_eq_true rfl) ?_
      refine a_if h (fun c8 hz => ?_) (fun c8 h => ?_)
      · skip
        subst c8
        have h := hz
        refine a_aload_n 0 dX8_left_47 rfl ?_
        refine a_getR (j := 5) dX8_left_48 KX8 rfl (by decide) rfl kf_RX8_39 ?_
        refine a_getIN (j := 0) dX8_left_51 KX7 rfl (by decide) rfl kf_RX8_155 ?_
        refine a_aload_n 0 dX8_left_54 rfl ?_
        refine a_getR (j := 5) dX8_left_55 KX8 rfl (by decide) rfl kf_RX8_39 ?_
        refine a_getIN (j := 2) dX8_left_58 KX7 rfl (by decide) rfl kf_RX8_133 ?_
        refine a_gd h (fun c9 h => ?_)
        refine bn_s h (fun r10 σ12 e11 h => ?_)
        refine a_callVNI dX8_left_61 mX3_leftAhead KX3 rfl kv_X3_leftAhead ks_X3_leftAhead rfl km_RX8_238 rfl ((OUT_ok rfl rfl (sh_P c9) (sh_V c9) (sh_W c9) 80).2.2.2.2.2.2.2.1 _ _ _ _ _ e11) (fun _ => rfl) rfl (Nat.le_of_ble_eq_true rfl) (Nat.le_of_ble_eq_true rfl) ⟨show 0 + 0 + 3 + 0 ≤ 3 by omega, show 0 + 0 + 98304 + 0 ≤ 98304 by omega⟩ (Nat.le_of_ble_eq_true rfl) ?_
        refine a_widen (k' := 3) (n' := 98304) (by omega) (by omega) ?_
        exact a_iret dX8_left_64 rfl (p_1 h) (p_T (p_2 h))
      · skip
        refine a_if h (fun c13 hz => ?_) (fun c13 h => ?_)
        · skip
          subst c13
          have h := hz
          refine a_aload_n 0 dX8_left_47 rfl ?_
          refine a_getR (j := 5) dX8_left_48 KX8 rfl (by decide) rfl kf_RX8_39 ?_
          refine a_getIN (j := 0) dX8_left_51 KX7 rfl (by decide) rfl kf_RX8_155 ?_
          refine a_aload_n 0 dX8_left_54 rfl ?_
          refine a_getR (j := 5) dX8_left_55 KX8 rfl (by decide) rfl kf_RX8_39 ?_
          refine a_getIN (j := 2) dX8_left_58 KX7 rfl (by decide) rfl kf_RX8_133 ?_
          refine a_gd h (fun c14 h => ?_)
          refine bn_s h (fun r15 σ17 e16 h => ?_)
          refine a_callVNI dX8_left_61 mX3_leftAhead KX3 rfl kv_X3_leftAhead ks_X3_leftAhead rfl km_RX8_238 rfl ((OUT_ok rfl rfl (sh_P c14) (sh_V c14) (sh_W c14) 80).2.2.2.2.2.2.2.1 _ _ _ _ _ e16) (fun _ => rfl) rfl (Nat.le_of_ble_eq_true rfl) (Nat.le_of_ble_eq_true rfl) ⟨show 0 + 0 + 3 + 0 ≤ 3 by omega, show 0 + 0 + 98304 + 0 ≤ 98304 by omega⟩ (Nat.le_of_ble_eq_true rfl) ?_
          refine a_widen (k' := 3) (n' := 98304) (by omega) (by omega) ?_
          exact a_iret dX8_left_64 rfl (p_1 h) (p_T (p_2 h))
        · skip
          cases h
    · skip
      refine a_aload_n 0 dX8_left_19 rfl ?_
      refine a_iload_n 1 dX8_left_20 rfl ?_
      refine bn_s h (fun r18 σ20 e19 h => ?_)
      refine a_callVR dX8_left_21 mX8_outlookBy KX8 rfl kv_X8_outlookBy ks_X8_outlookBy rfl km_RX8_221 rfl (T_X8_outlookBy e19) (fun _ => rfl) rfl (Nat.le_of_ble_eq_true rfl) (Nat.le_of_ble_eq_true rfl) ⟨show 0 + 0 + 3 ≤ 3 by omega, show 0 + 0 + 98304 ≤ 98304 by omega⟩ (Nat.le_of_ble_eq_true rfl) ?_
      refine a_if h (fun c21 hz => ?_) (fun c21 h => ?_)
      · skip
        subst c21
        have h := hz
        refine a_aload_n 0 dX8_left_24 rfl ?_
        refine a_getR (j := 5) dX8_left_25 KX8 rfl (by decide) rfl kf_RX8_39 ?_
        refine a_getIN (j := 0) dX8_left_28 KX7 rfl (by decide) rfl kf_RX8_155 ?_
        refine a_aload_n 0 dX8_left_31 rfl ?_
        refine a_getR (j := 5) dX8_left_32 KX8 rfl (by decide) rfl kf_RX8_39 ?_
        refine a_getIN (j := 2) dX8_left_35 KX7 rfl (by decide) rfl kf_RX8_133 ?_
        refine a_gd h (fun c22 h => ?_)
        refine bn_s h (fun r23 σ25 e24 h => ?_)
        refine a_callVNI dX8_left_38 mX3_leftBehind KX3 rfl kv_X3_leftBehind ks_X3_leftBehind rfl km_RX8_235 rfl ((OUT_ok rfl rfl (sh_P c22) (sh_V c22) (sh_W c22) 80).2.2.2.2.2.2.2.2.2 _ _ _ _ _ e24) (fun _ => rfl) rfl (Nat.le_of_ble_eq_true rfl) (Nat.le_of_ble_eq_true rfl) ⟨show 0 + 0 + 3 + 0 ≤ 3 by omega, show 0 + 0 + 98304 + 0 ≤ 98304 by omega⟩ (Nat.le_of_ble_eq_true rfl) ?_
        refine a_widen (k' := 3) (n' := 98304) (by omega) (by omega) ?_
        exact a_iret dX8_left_41 rfl (p_1 h) (p_T (p_2 h))
      · skip
        refine a_if h (fun c26 hz => ?_) (fun c26 h => ?_)
        · skip
          subst c26
          have h := hz
          refine a_aload_n 0 dX8_left_24 rfl ?_
          refine a_getR (j := 5) dX8_left_25 KX8 rfl (by decide) rfl kf_RX8_39 ?_
          refine a_getIN (j := 0) dX8_left_28 KX7 rfl (by decide) rfl kf_RX8_155 ?_
          refine a_aload_n 0 dX8_left_31 rfl ?_
          refine a_getR (j := 5) dX8_left_32 KX8 rfl (by decide) rfl kf_RX8_39 ?_
          refine a_getIN (j := 2) dX8_left_35 KX7 rfl (by decide) rfl kf_RX8_133 ?_
          refine a_gd h (fun c27 h => ?_)
          refine bn_s h (fun r28 σ30 e29 h => ?_)
          refine a_callVNI dX8_left_38 mX3_leftBehind KX3 rfl kv_X3_leftBehind ks_X3_leftBehind rfl km_RX8_235 rfl ((OUT_ok rfl rfl (sh_P c27) (sh_V c27) (sh_W c27) 80).2.2.2.2.2.2.2.2.2 _ _ _ _ _ e29) (fun _ => rfl) rfl (Nat.le_of_ble_eq_true rfl) (Nat.le_of_ble_eq_true rfl) ⟨show 0 + 0 + 3 + 0 ≤ 3 by omega, show 0 + 0 + 98304 + 0 ≤ 98304 by omega⟩ (Nat.le_of_ble_eq_true rfl) ?_
          refine a_widen (k' := 3) (n' := 98304) (by omega) (by omega) ?_
          exact a_iret dX8_left_41 rfl (p_1 h) (p_T (p_2 h))
        · skip
          cases h
  · skip
    refine a_iconst dX8_left_7 ?_
    refine a_widen (k' := 3) (n' := 98304) (by omega) (by omega) ?_
    exact a_iret dX8_left_8 rfl (p_1 h) (p_T (p_2 h))

def X8_choiceNow (F : Nat) (q_0 : qT) (x_0 : List Nat) (σ : sM) (a1 : Int) : Option (Int × qT × List Nat × sM) := bp (X8_mayActNow σ) (fun r1 => if wi r1 = 0 then some (6, (q_0, x_0, σ)) else bn (X8_outlookBy q_0 x_0 σ a1) (fun r4 σ6 => if r4 = 29 then if okO σ6.1.1 σ6.1.2.1 σ6.1.2.2.1 σ6.2.1 = true then bn (OUT F 29 σ6.1.1 σ6.1.2.1 σ6.1.2.2.1 (lnA σ6.1.1 σ6.2.1) 80 8 σ6.2.2 (σ6.2.2 26 0) (σ6.2.2 26 2) 0) (fun r9 σ11 => some (r9, (σ6.1, σ6.2.1, σ11))) else none else if r4 = 33 then if okO σ6.1.2.2.2.1 σ6.1.2.2.2.2.1 σ6.1.2.2.2.2.2 σ6.2.1 = true then bn (OUT F 33 σ6.1.2.2.2.1 σ6.1.2.2.2.2.1 σ6.1.2.2.2.2.2 (lnA σ6.1.2.2.2.1 σ6.2.1) 80 8 σ6.2.2 (σ6.2.2 26 0) (σ6.2.2 26 2) 0) (fun r14 σ16 => some (r14, (σ6.1, σ6.2.1, σ16))) else none else none))
set_option maxRecDepth 100000 in
set_option maxHeartbeats 400000 in
theorem T_X8_choiceNow {G : sG} {q_0 : qT} {x_0 : List Nat} {σ : sM} {t_0 : qT × List Nat × sM} {r_0 : Int} {a1 : Int} {F : Nat} (h : X8_choiceNow F q_0 x_0 σ a1 = some (r_0, t_0)) : aM G yX8_choiceNow cX8_choiceNow 2 (some .int) 101 3 98304 [.ref (gP G 0), vI a1] (mkSh q_0 x_0, σ) (r_0, (mkSh t_0.1 t_0.2.1, t_0.2.2)) := by
  unfold X8_choiceNow at h
  refine aM_of (by decide) (Nat.le_of_ble_eq_true rfl) ?_
  show aW G cX8_choiceNow RX8 "choiceNow" 2 (some .int) _ _ aX 0 0 _ [(0, .ref (gP G 0)), (1, vI a1)] 0 []
  refine a_aload_n 0 dX8_choiceNow_0 rfl ?_
  refine bp_s h (fun r1 e2 h => ?_)
  refine a_callVI dX8_choiceNow_1 mX8_mayActNow KX8 rfl kv_X8_mayActNow ks_X8_mayActNow rfl km_RX8_178 rfl (T_X8_mayActNow e2) (fun _ => rfl) rfl (Nat.le_of_ble_eq_true rfl) (Nat.le_of_ble_eq_true rfl) ⟨show 0 + 0 ≤ 3 by omega, show 0 + 0 ≤ 98304 by omega⟩ (Nat.le_of_ble_eq_true rfl) ?_
  refine a_if_eq 32 dX8_choiceNow_4 (by decide) rfl h (fun c3 h => ?_) (fun c3 h => ?_)
  · skip
    refine a_bipush dX8_choiceNow_32 (by decide) ?_
    refine a_widen (k' := 3) (n' := 98304) (by omega) (by omega) ?_
    exact a_iret dX8_choiceNow_34 rfl (p_1 h) (p_T (p_2 h))
  · skip
    refine a_aload_n 0 dX8_choiceNow_7 rfl ?_
    refine a_iload_n 1 dX8_choiceNow_8 rfl ?_
    refine bn_s h (fun r4 σ6 e5 h => ?_)
    refine a_callVR dX8_choiceNow_9 mX8_outlookBy KX8 rfl kv_X8_outlookBy ks_X8_outlookBy rfl km_RX8_221 rfl (T_X8_outlookBy e5) (fun _ => rfl) rfl (Nat.le_of_ble_eq_true rfl) (Nat.le_of_ble_eq_true rfl) ⟨show 0 + 0 + 3 ≤ 3 by omega, show 0 + 0 + 98304 ≤ 98304 by omega⟩ (Nat.le_of_ble_eq_true rfl) ?_
    refine a_if h (fun c7 hz => ?_) (fun c7 h => ?_)
    · skip
      subst c7
      have h := hz
      refine a_aload_n 0 dX8_choiceNow_12 rfl ?_
      refine a_getR (j := 5) dX8_choiceNow_13 KX8 rfl (by decide) rfl kf_RX8_39 ?_
      refine a_getIN (j := 0) dX8_choiceNow_16 KX7 rfl (by decide) rfl kf_RX8_155 ?_
      refine a_aload_n 0 dX8_choiceNow_19 rfl ?_
      refine a_getR (j := 5) dX8_choiceNow_20 KX8 rfl (by decide) rfl kf_RX8_39 ?_
      refine a_getIN (j := 2) dX8_choiceNow_23 KX7 rfl (by decide) rfl kf_RX8_133 ?_
      refine a_gd h (fun c8 h => ?_)
      refine bn_s h (fun r9 σ11 e10 h => ?_)
      refine a_callVNI dX8_choiceNow_26 mX3_choiceAt KX3 rfl kv_X3_choiceAt ks_X3_choiceAt rfl km_RX8_244 rfl ((OUT_ok rfl rfl (sh_P c8) (sh_V c8) (sh_W c8) 80).2.2.2.2.2.2.2.2.1 _ _ _ _ _ e10) (fun _ => rfl) rfl (Nat.le_of_ble_eq_true rfl) (Nat.le_of_ble_eq_true rfl) ⟨show 0 + 0 + 3 + 0 ≤ 3 by omega, show 0 + 0 + 98304 + 0 ≤ 98304 by omega⟩ (Nat.le_of_ble_eq_true rfl) ?_
      refine a_goto 34 dX8_choiceNow_29 (by decide) ?_
      refine a_widen (k' := 3) (n' := 98304) (by omega) (by omega) ?_
      exact a_iret dX8_choiceNow_34 rfl (p_1 h) (p_T (p_2 h))
    · skip
      refine a_if h (fun c12 hz => ?_) (fun c12 h => ?_)
      · skip
        subst c12
        have h := hz
        refine a_aload_n 0 dX8_choiceNow_12 rfl ?_
        refine a_getR (j := 5) dX8_choiceNow_13 KX8 rfl (by decide) rfl kf_RX8_39 ?_
        refine a_getIN (j := 0) dX8_choiceNow_16 KX7 rfl (by decide) rfl kf_RX8_155 ?_
        refine a_aload_n 0 dX8_choiceNow_19 rfl ?_
        refine a_getR (j := 5) dX8_choiceNow_20 KX8 rfl (by decide) rfl kf_RX8_39 ?_
        refine a_getIN (j := 2) dX8_choiceNow_23 KX7 rfl (by decide) rfl kf_RX8_133 ?_
        refine a_gd h (fun c13 h => ?_)
        refine bn_s h (fun r14 σ16 e15 h => ?_)
        refine a_callVNI dX8_choiceNow_26 mX3_choiceAt KX3 rfl kv_X3_choiceAt ks_X3_choiceAt rfl km_RX8_244 rfl ((OUT_ok rfl rfl (sh_P c13) (sh_V c13) (sh_W c13) 80).2.2.2.2.2.2.2.2.1 _ _ _ _ _ e15) (fun _ => rfl) rfl (Nat.le_of_ble_eq_true rfl) (Nat.le_of_ble_eq_true rfl) ⟨show 0 + 0 + 3 + 0 ≤ 3 by omega, show 0 + 0 + 98304 + 0 ≤ 98304 by omega⟩ (Nat.le_of_ble_eq_true rfl) ?_
        refine a_goto 34 dX8_choiceNow_29 (by decide) ?_
        refine a_widen (k' := 3) (n' := 98304) (by omega) (by omega) ?_
        exact a_iret dX8_choiceNow_34 rfl (p_1 h) (p_T (p_2 h))
      · skip
        cases h

def X8_brings (F : Nat) (q_0 : qT) (x_0 : List Nat) (σ : sM) (a1 : Int) : Option (Int × qT × List Nat × sM) := jn (fun q1 : Unit => some ((-1000000), (q_0, x_0, σ))) (fun K2 => if wi a1 < 0 then K2 () else if wi a1 ≤ 6 then jn (fun q5 : Unit => bn (X8_outlookBy q_0 x_0 σ 4) (fun r7 σ9 => if r7 = 29 then if okO σ9.1.1 σ9.1.2.1 σ9.1.2.2.1 σ9.2.1 = true then bn (OUT F 29 σ9.1.1 σ9.1.2.1 σ9.1.2.2.1 (lnA σ9.1.1 σ9.2.1) 80 4 σ9.2.2 (σ9.2.2 26 0) (σ9.2.2 26 2) a1) (fun r12 σ14 => some (r12, (σ9.1, σ9.2.1, σ14))) else none else if r7 = 33 then if okO σ9.1.2.2.2.1 σ9.1.2.2.2.2.1 σ9.1.2.2.2.2.2 σ9.2.1 = true then bn (OUT F 33 σ9.1.2.2.2.1 σ9.1.2.2.2.2.1 σ9.1.2.2.2.2.2 (lnA σ9.1.2.2.2.1 σ9.2.1) 80 4 σ9.2.2 (σ9.2.2 26 0) (σ9.2.2 26 2) a1) (fun r17 σ19 => some (r17, (σ9.1, σ9.2.1, σ19))) else none else none)) (fun K6 => if wi a1 = 6 then K6 () else bp (X8_mayActNow σ) (fun r21 => jn (fun q23 : Unit => some ((-1000000), (q_0, x_0, σ))) (fun K24 => if wi r21 = 0 then K24 () else bp (X1_mayBe F σ (σ 26 2) a1) (fun r26 => if ¬ wi r26 = 0 then K6 () else K24 ())))) else K2 ())
set_option maxRecDepth 100000 in
set_option maxHeartbeats 400000 in
theorem T_X8_brings {G : sG} {q_0 : qT} {x_0 : List Nat} {σ : sM} {t_0 : qT × List Nat × sM} {r_0 : Int} {a1 : Int} {F : Nat} (h : X8_brings F q_0 x_0 σ a1 = some (r_0, t_0)) : aM G yX8_brings cX8_brings 2 (some .int) 101 3 98304 [.ref (gP G 0), vI a1] (mkSh q_0 x_0, σ) (r_0, (mkSh t_0.1 t_0.2.1, t_0.2.2)) := by
  unfold X8_brings at h
  refine aM_of (by decide) (Nat.le_of_ble_eq_true rfl) ?_
  show aW G cX8_brings RX8 "brings" 2 (some .int) _ _ aX 0 0 _ [(0, .ref (gP G 0)), (1, vI a1)] 0 []
  refine a_iload_n 1 dX8_brings_0 rfl ?_
  refine jn_s (fun q1 : Unit => aW G cX8_brings RX8 "brings" 2 (some .int) (sR 101 3 98304) (aQ G (some .int) 3 98304 (r_0, (mkSh t_0.1 t_0.2.1, t_0.2.2))) aX 0 0 (mkSh q_0 x_0, σ) [] 10 []) h (fun q1 h => ?_) (fun K2 hK2 h => ?_)
  · skip
    refine a_ldc (z := -1000000) dX8_brings_10 kc_RX8_247 (by decide) ?_
    refine a_widen (k' := 3) (n' := 98304) (by omega) (by omega) ?_
    exact a_iret dX8_brings_12 rfl (p_1 h) (p_T (p_2 h))
  · skip
    refine a_if_lt 10 dX8_brings_1 (by decide) rfl h (fun c3 h => ?_) (fun c3 h => ?_)
    · skip
      have hh := hK2 _ h
      exact a_sub [] rfl hh
    · skip
      refine a_iload_n 1 dX8_brings_4 rfl ?_
      refine a_bipush dX8_brings_5 (by decide) ?_
      refine a_icmp_le 13 dX8_brings_7 (by decide) rfl (by decide) h (fun c4 h => ?_) (fun c4 h => ?_)
      · skip
        refine a_iload_n 1 dX8_brings_13 rfl ?_
        refine a_bipush dX8_brings_14 (by decide) ?_
        refine jn_s (fun q5 : Unit => aW G cX8_brings RX8 "brings" 2 (some .int) (sR 101 3 98304) (aQ G (some .int) 3 98304 (r_0, (mkSh t_0.1 t_0.2.1, t_0.2.2))) aX 0 0 (mkSh q_0 x_0, σ) [(0, .ref (gP G 0)), (1, vI a1)] 47 []) h (fun q5 h => ?_) (fun K6 hK6 h => ?_)
        · skip
          refine a_aload_n 0 dX8_brings_47 rfl ?_
          refine a_iconst dX8_brings_48 ?_
          refine bn_s h (fun r7 σ9 e8 h => ?_)
          refine a_callVR dX8_brings_49 mX8_outlookBy KX8 rfl kv_X8_outlookBy ks_X8_outlookBy rfl km_RX8_221 rfl (T_X8_outlookBy e8) (fun _ => rfl) rfl (Nat.le_of_ble_eq_true rfl) (Nat.le_of_ble_eq_true rfl) ⟨show 0 + 3 ≤ 3 by omega, show 0 + 98304 ≤ 98304 by omega⟩ (Nat.le_of_ble_eq_true rfl) ?_
          refine a_if h (fun c10 hz => ?_) (fun c10 h => ?_)
          · skip
            subst c10
            have h := hz
            refine a_aload_n 0 dX8_brings_52 rfl ?_
            refine a_getR (j := 5) dX8_brings_53 KX8 rfl (by decide) rfl kf_RX8_39 ?_
            refine a_getIN (j := 0) dX8_brings_56 KX7 rfl (by decide) rfl kf_RX8_155 ?_
            refine a_aload_n 0 dX8_brings_59 rfl ?_
            refine a_getR (j := 5) dX8_brings_60 KX8 rfl (by decide) rfl kf_RX8_39 ?_
            refine a_getIN (j := 2) dX8_brings_63 KX7 rfl (by decide) rfl kf_RX8_133 ?_
            refine a_iload_n 1 dX8_brings_66 rfl ?_
            refine a_gd h (fun c11 h => ?_)
            refine bn_s h (fun r12 σ14 e13 h => ?_)
            refine a_callVNI dX8_brings_67 mX3_broughtBy KX3 rfl kv_X3_broughtBy ks_X3_broughtBy rfl km_RX8_248 rfl ((OUT_ok rfl rfl (sh_P c11) (sh_V c11) (sh_W c11) 80).2.2.2.2.1 _ _ _ _ _ _ e13) (fun _ => rfl) rfl (Nat.le_of_ble_eq_true rfl) (Nat.le_of_ble_eq_true rfl) ⟨show 0 + 3 + 0 ≤ 3 by omega, show 0 + 98304 + 0 ≤ 98304 by omega⟩ (Nat.le_of_ble_eq_true rfl) ?_
            refine a_widen (k' := 3) (n' := 98304) (by omega) (by omega) ?_
            exact a_iret dX8_brings_70 rfl (p_1 h) (p_T (p_2 h))
          · skip
            refine a_if h (fun c15 hz => ?_) (fun c15 h => ?_)
            · skip
              subst c15
              have h := hz
              refine a_aload_n 0 dX8_brings_52 rfl ?_
              refine a_getR (j := 5) dX8_brings_53 KX8 rfl (by decide) rfl kf_RX8_39 ?_
              refine a_getIN (j := 0) dX8_brings_56 KX7 rfl (by decide) rfl kf_RX8_155 ?_
              refine a_aload_n 0 dX8_brings_59 rfl ?_
              refine a_getR (j := 5) dX8_brings_60 KX8 rfl (by decide) rfl kf_RX8_39 ?_
              refine a_getIN (j := 2) dX8_brings_63 KX7 rfl (by decide) rfl kf_RX8_133 ?_
              refine a_iload_n 1 dX8_brings_66 rfl ?_
              refine a_gd h (fun c16 h => ?_)
              refine bn_s h (fun r17 σ19 e18 h => ?_)
              refine a_callVNI dX8_brings_67 mX3_broughtBy KX3 rfl kv_X3_broughtBy ks_X3_broughtBy rfl km_RX8_248 rfl ((OUT_ok rfl rfl (sh_P c16) (sh_V c16) (sh_W c16) 80).2.2.2.2.1 _ _ _ _ _ _ e18) (fun _ => rfl) rfl (Nat.le_of_ble_eq_true rfl) (Nat.le_of_ble_eq_true rfl) ⟨show 0 + 3 + 0 ≤ 3 by omega, show 0 + 98304 + 0 ≤ 98304 by omega⟩ (Nat.le_of_ble_eq_true rfl) ?_
              refine a_widen (k' := 3) (n' := 98304) (by omega) (by omega) ?_
              exact a_iret dX8_brings_70 rfl (p_1 h) (p_T (p_2 h))
            · skip
              cases h
        · skip
          refine a_icmp_eq 47 dX8_brings_16 (by decide) rfl (by decide) h (fun c20 h => ?_) (fun c20 h => ?_)
          · skip
            have hh := hK6 _ h
            exact a_sub [0, 1] rfl hh
          · skip
            refine a_aload_n 0 dX8_brings_19 rfl ?_
            refine bp_s h (fun r21 e22 h => ?_)
            refine a_callVI dX8_brings_20 mX8_mayActNow KX8 rfl kv_X8_mayActNow ks_X8_mayActNow rfl km_RX8_178 rfl (T_X8_mayActNow e22) (fun _ => rfl) rfl (Nat.le_of_ble_eq_true rfl) (Nat.le_of_ble_eq_true rfl) ⟨show 0 + 0 ≤ 3 by omega, show 0 + 0 ≤ 98304 by omega⟩ (Nat.le_of_ble_eq_true rfl) ?_
            refine jn_s (fun q23 : Unit => aW G cX8_brings RX8 "brings" 2 (some .int) (sR 101 3 98304) (aQ G (some .int) 3 98304 (r_0, (mkSh t_0.1 t_0.2.1, t_0.2.2))) aX (0 + 0) (0 + 0) (mkSh q_0 x_0, σ) [] 44 []) h (fun q23 h => ?_) (fun K24 hK24 h => ?_)
            · skip
              refine a_ldc (z := -1000000) dX8_brings_44 kc_RX8_247 (by decide) ?_
              refine a_widen (k' := 3) (n' := 98304) (by omega) (by omega) ?_
              exact a_iret dX8_brings_46 rfl (p_1 h) (p_T (p_2 h))
            · skip
              refine a_if_eq 44 dX8_brings_23 (by decide) rfl h (fun c25 h => ?_) (fun c25 h => ?_)
              · skip
                have hh := hK24 _ h
                exact a_sub [] rfl hh
              · skip
                refine a_aload_n 0 dX8_brings_26 rfl ?_
                refine a_getR (j := 2) dX8_brings_27 KX8 rfl (by decide) rfl kf_RX8_20 ?_
                refine a_aload_n 0 dX8_brings_30 rfl ?_
                refine a_getR (j := 5) dX8_brings_31 KX8 rfl (by decide) rfl kf_RX8_39 ?_
                refine a_getIN (j := 2) dX8_brings_34 KX7 rfl (by decide) rfl kf_RX8_133 ?_
                refine a_iload_n 1 dX8_brings_37 rfl ?_
                refine bp_s h (fun r26 e27 h => ?_)
                refine a_callVI dX8_brings_38 mX1_mayBe KX1 rfl kv_X1_mayBe ks_X1_mayBe rfl km_RX8_182 rfl (T_X1_mayBe e27) (fun _ => rfl) rfl (Nat.le_of_ble_eq_true rfl) (Nat.le_of_ble_eq_true rfl) ⟨show 0 + 0 + 0 ≤ 3 by omega, show 0 + 0 + 0 ≤ 98304 by omega⟩ (Nat.le_of_ble_eq_true rfl) ?_
                refine a_if_ne 47 dX8_brings_41 (by decide) rfl h (fun c28 h => ?_) (fun c28 h => ?_)
                · skip
                  have hh := hK6 _ h
                  exact a_sub [0, 1] rfl hh
                · skip
                  have hh := hK24 _ h
                  exact a_sub [] rfl hh
      · skip
        have hh := hK2 _ h
        exact a_sub [] rfl hh

def X8_play (F : Nat) (q_0 : qT) (x_0 : List Nat) (σ : sM) (a1 : Int) : Option (Int × qT × List Nat × sM) := bp (X8_isRule σ a1) (fun r1 => if ¬ wi r1 = 0 then lp (fun K5 (q4 : (qT × List Nat × sM) × Int × Int) => if 0 ≤ q4.2.2 ∧ q4.2.2 ≤ 8 then if 8 ≤ wi q4.2.2 then some (q4.2.1, (q4.1.1, q4.1.2.1, q4.1.2.2)) else bp (X8_isOver q4.1.2.2) (fun r8 => if ¬ wi r8 = 0 then some (q4.2.1, (q4.1.1, q4.1.2.1, q4.1.2.2)) else bn (X8_choiceNow F q4.1.1 q4.1.2.1 q4.1.2.2 a1) (fun r11 σ13 => bn (X7_act σ13.2.2 r11) (fun r14 σ16 => bn (X7_goOn F σ16) (fun r17 σ19 => K5 ((σ13.1, σ13.2.1, σ19), q4.2.1 + r14, q4.2.2 + 1))))) else none) F ((q_0, x_0, σ), 0, 0) else some ((-1), (q_0, x_0, σ)))
set_option maxRecDepth 100000 in
set_option maxHeartbeats 400000 in
theorem T_X8_play {G : sG} {q_0 : qT} {x_0 : List Nat} {σ : sM} {t_0 : qT × List Nat × sM} {r_0 : Int} {a1 : Int} {F : Nat} (h : X8_play F q_0 x_0 σ a1 = some (r_0, t_0)) : aM G yX8_play cX8_play 4 (some .int) 102 24 786432 [.ref (gP G 0), vI a1] (mkSh q_0 x_0, σ) (r_0, (mkSh t_0.1 t_0.2.1, t_0.2.2)) := by
  unfold X8_play at h
  refine aM_of (by decide) (Nat.le_of_ble_eq_true rfl) ?_
  show aW G cX8_play RX8 "play" 4 (some .int) _ _ aX 0 0 _ [(0, .ref (gP G 0)), (1, vI a1)] 0 []
  refine a_iload_n 1 dX8_play_0 rfl ?_
  refine bp_s h (fun r1 e2 h => ?_)
  refine a_callSI dX8_play_1 mX8_isRule kv_X8_isRule km_RX8_218 rfl (T_X8_isRule e2) (fun _ => rfl) rfl (Nat.le_of_ble_eq_true rfl) (Nat.le_of_ble_eq_true rfl) ⟨show 0 + 0 ≤ 24 by omega, show 0 + 0 ≤ 786432 by omega⟩ (Nat.le_of_ble_eq_true rfl) ?_
  refine a_if_ne 9 dX8_play_4 (by decide) rfl h (fun c3 h => ?_) (fun c3 h => ?_)
  · skip
    refine a_iconst dX8_play_9 ?_
    refine a_istore_n (L' := [(2, vI 0), (0, .ref (gP G 0)), (1, vI a1)]) dX8_play_10 (by decide) rfl ?_
    refine a_iconst dX8_play_11 ?_
    refine a_istore_n (L' := [(3, vI 0), (2, vI 0), (0, .ref (gP G 0)), (1, vI a1)]) dX8_play_12 (by decide) rfl ?_
    refine a_sub (L' := [(0, .ref (gP G 0)), (1, vI a1), (2, vI 0), (3, vI 0)]) [2, 3, 1, 0] rfl (lp_s (x := ((q_0, x_0, σ), 0, 0)) (fun q4 : (qT × List Nat × sM) × Int × Int => aW G cX8_play RX8 "play" 4 (some .int) (sR 102 24 786432) (aQ G (some .int) 24 786432 (r_0, (mkSh t_0.1 t_0.2.1, t_0.2.2))) aX (3 * (q4.2.2).toNat) (98304 * (q4.2.2).toNat) (mkSh q4.1.1 q4.1.2.1, q4.1.2.2) [(0, .ref (gP G 0)), (1, vI a1), (2, vI q4.2.1), (3, vI q4.2.2)] 13 []) h (fun K5 hK5 q4 h => ?_))
    refine a_gd h (fun c6 h => ?_)
    refine a_iload_n 3 dX8_play_13 rfl ?_
    refine a_bipush dX8_play_14 (by decide) ?_
    refine a_icmp_ge 63 dX8_play_16 (by decide) rfl (by decide) h (fun c7 h => ?_) (fun c7 h => ?_)
    · skip
      refine a_iload_n 2 dX8_play_63 rfl ?_
      refine a_widen (k' := 24) (n' := 786432) (by omega) (by omega) ?_
      exact a_iret dX8_play_64 rfl (p_1 h) (p_T (p_2 h))
    · have c7w : wi q4.2.2 = q4.2.2 := wi_id (by omega) (by omega)
      refine a_aload_n 0 dX8_play_19 rfl ?_
      refine bp_s h (fun r8 e9 h => ?_)
      refine a_callVI dX8_play_20 mX8_isOver KX8 rfl kv_X8_isOver ks_X8_isOver rfl km_RX8_195 rfl (T_X8_isOver e9) (fun _ => rfl) rfl (Nat.le_of_ble_eq_true rfl) (Nat.le_of_ble_eq_true rfl) ⟨show 3 * (q4.2.2).toNat + 0 ≤ 24 by omega, show 98304 * (q4.2.2).toNat + 0 ≤ 786432 by omega⟩ (Nat.le_of_ble_eq_true rfl) ?_
      refine a_if_ne 63 dX8_play_23 (by decide) rfl h (fun c10 h => ?_) (fun c10 h => ?_)
      · skip
        refine a_iload_n 2 dX8_play_63 rfl ?_
        refine a_widen (k' := 24) (n' := 786432) (by omega) (by omega) ?_
        exact a_iret dX8_play_64 rfl (p_1 h) (p_T (p_2 h))
      · skip
        refine a_iload_n 2 dX8_play_26 rfl ?_
        refine a_aload_n 0 dX8_play_27 rfl ?_
        refine a_getR (j := 5) dX8_play_28 KX8 rfl (by decide) rfl kf_RX8_39 ?_
        refine a_aload_n 0 dX8_play_31 rfl ?_
        refine a_getR (j := 2) dX8_play_32 KX8 rfl (by decide) rfl kf_RX8_20 ?_
        refine a_aload_n 0 dX8_play_35 rfl ?_
        refine a_iload_n 1 dX8_play_36 rfl ?_
        refine bn_s h (fun r11 σ13 e12 h => ?_)
        refine a_callVI dX8_play_37 mX8_choiceNow KX8 rfl kv_X8_choiceNow ks_X8_choiceNow rfl km_RX8_241 rfl (T_X8_choiceNow e12) (fun _ => rfl) rfl (Nat.le_of_ble_eq_true rfl) (Nat.le_of_ble_eq_true rfl) ⟨show 3 * (q4.2.2).toNat + 0 + 3 ≤ 24 by omega, show 98304 * (q4.2.2).toNat + 0 + 98304 ≤ 786432 by omega⟩ (Nat.le_of_ble_eq_true rfl) ?_
        refine bn_s h (fun r14 σ16 e15 h => ?_)
        refine a_callVI dX8_play_40 mX7_act KX7 rfl kv_X7_act ks_X7_act rfl km_RX8_185 rfl (T_X7_act e15) (fun _ => rfl) rfl (Nat.le_of_ble_eq_true rfl) (Nat.le_of_ble_eq_true rfl) ⟨show 3 * (q4.2.2).toNat + 0 + 3 + 0 ≤ 24 by omega, show 98304 * (q4.2.2).toNat + 0 + 98304 + 0 ≤ 786432 by omega⟩ (Nat.le_of_ble_eq_true rfl) ?_
        refine a_iadd dX8_play_43 ?_
        refine a_istore_n (L' := [(2, vI (q4.2.1 + r14)), (0, .ref (gP G 0)), (1, vI a1), (3, vI q4.2.2)]) dX8_play_44 (by decide) rfl ?_
        refine a_aload_n 1 dX8_play_45 rfl ?_
        refine a_getR (j := 5) dX8_play_46 KX8 rfl (by decide) rfl kf_RX8_39 ?_
        refine a_aload_n 1 dX8_play_49 rfl ?_
        refine a_getR (j := 2) dX8_play_50 KX8 rfl (by decide) rfl kf_RX8_20 ?_
        refine bn_s h (fun r17 σ19 e18 h => ?_)
        refine a_callVI dX8_play_53 mX7_goOn KX7 rfl kv_X7_goOn ks_X7_goOn rfl km_RX8_198 rfl (T_X7_goOn e18) (fun _ => rfl) rfl (Nat.le_of_ble_eq_true rfl) (Nat.le_of_ble_eq_true rfl) ⟨show 3 * (q4.2.2).toNat + 0 + 3 + 0 + 0 ≤ 24 by omega, show 98304 * (q4.2.2).toNat + 0 + 98304 + 0 + 0 ≤ 786432 by omega⟩ (Nat.le_of_ble_eq_true rfl) ?_
        refine a_popI dX8_play_56 ?_
        refine a_iinc (L' := [(3, vI (q4.2.2 + 1)), (2, vI (q4.2.1 + r14)), (0, .ref (gP G 0)), (1, vI a1)]) 3 dX8_play_57 rfl (by decide) rfl ?_
        refine a_goto 13 dX8_play_60 (by decide) ?_
        have hh := hK5 _ h
        refine a_widen (k' := 3 * (q4.2.2 + 1).toNat) (n' := 98304 * (q4.2.2 + 1).toNat) (by omega) (by omega) ?_
        exact a_sub [2, 3, 1, 0] rfl hh
  · skip
    refine a_iconst dX8_play_7 ?_
    refine a_widen (k' := 24) (n' := 786432) (by omega) (by omega) ?_
    exact a_iret dX8_play_8 rfl (p_1 h) (p_T (p_2 h))

def X8_spare (F : Nat) (q_0 : qT) (x_0 : List Nat) (σ : sM) (a1 : Int) : Option (Int × qT × List Nat × sM) := bp (X1_isWheel σ a1) (fun r1 => if ¬ wi r1 = 0 then bn (X3_lookBy33 q_0 x_0 σ 4 (q_or (σ 26 3) (q_shl 1 a1))) (fun r4 σ6 => if okO σ6.1.2.2.2.1 σ6.1.2.2.2.2.1 σ6.1.2.2.2.2.2 σ6.2.1 = true then bn (X8_valueNow F 33 σ6.1.2.2.2.1 σ6.1.2.2.2.2.1 σ6.1.2.2.2.2.2 (lnA σ6.1.2.2.2.1 σ6.2.1) σ6.2.2) (fun r8 σ10 => bn (X8_outlookBy σ6.1 σ6.2.1 σ10 4) (fun r11 σ13 => if r11 = 29 then if okO σ13.1.1 σ13.1.2.1 σ13.1.2.2.1 σ13.2.1 = true then bn (X8_valueNow F 29 σ13.1.1 σ13.1.2.1 σ13.1.2.2.1 (lnA σ13.1.1 σ13.2.1) σ13.2.2) (fun r16 σ18 => some (r8 - r16, (σ13.1, σ13.2.1, σ18))) else none else if r11 = 33 then if okO σ13.1.2.2.2.1 σ13.1.2.2.2.2.1 σ13.1.2.2.2.2.2 σ13.2.1 = true then bn (X8_valueNow F 33 σ13.1.2.2.2.1 σ13.1.2.2.2.2.1 σ13.1.2.2.2.2.2 (lnA σ13.1.2.2.2.1 σ13.2.1) σ13.2.2) (fun r21 σ23 => some (r8 - r21, (σ13.1, σ13.2.1, σ23))) else none else none)) else none) else some ((-1000000), (q_0, x_0, σ)))
set_option maxRecDepth 100000 in
set_option maxHeartbeats 400000 in
theorem T_X8_spare {G : sG} {q_0 : qT} {x_0 : List Nat} {σ : sM} {t_0 : qT × List Nat × sM} {r_0 : Int} {a1 : Int} {F : Nat} (h : X8_spare F q_0 x_0 σ a1 = some (r_0, t_0)) : aM G yX8_spare cX8_spare 2 (some .int) 102 6 196608 [.ref (gP G 0), vI a1] (mkSh q_0 x_0, σ) (r_0, (mkSh t_0.1 t_0.2.1, t_0.2.2)) := by
  unfold X8_spare at h
  refine aM_of (by decide) (Nat.le_of_ble_eq_true rfl) ?_
  show aW G cX8_spare RX8 "spare" 2 (some .int) _ _ aX 0 0 _ [(0, .ref (gP G 0)), (1, vI a1)] 0 []
  refine a_aload_n 0 dX8_spare_0 rfl ?_
  refine a_getR (j := 2) dX8_spare_1 KX8 rfl (by decide) rfl kf_RX8_20 ?_
  refine a_iload_n 1 dX8_spare_4 rfl ?_
  refine bp_s h (fun r1 e2 h => ?_)
  refine a_callVI dX8_spare_5 mX1_isWheel KX1 rfl kv_X1_isWheel ks_X1_isWheel rfl km_RX8_124 rfl (T_X1_isWheel e2) (fun _ => rfl) rfl (Nat.le_of_ble_eq_true rfl) (Nat.le_of_ble_eq_true rfl) ⟨show 0 + 0 ≤ 6 by omega, show 0 + 0 ≤ 196608 by omega⟩ (Nat.le_of_ble_eq_true rfl) ?_
  refine a_if_ne 14 dX8_spare_8 (by decide) rfl h (fun c3 h => ?_) (fun c3 h => ?_)
  · skip
    refine a_aload_n 0 dX8_spare_14 rfl ?_
    refine a_getR (j := 9) dX8_spare_15 KX8 rfl (by decide) rfl kf_RX8_58 ?_
    refine a_iconst dX8_spare_18 ?_
    refine a_aload_n 0 dX8_spare_19 rfl ?_
    refine a_getR (j := 5) dX8_spare_20 KX8 rfl (by decide) rfl kf_RX8_39 ?_
    refine a_getIN (j := 3) dX8_spare_23 KX7 rfl (by decide) rfl kf_RX8_146 ?_
    refine a_iconst dX8_spare_26 ?_
    refine a_iload_n 1 dX8_spare_27 rfl ?_
    refine a_ishl dX8_spare_28 ?_
    refine a_ior dX8_spare_29 ?_
    refine bn_s h (fun r4 σ6 e5 h => ?_)
    refine a_callVV dX8_spare_30 mX3_lookBy KX3 rfl kv_X3_lookBy ks_X3_lookBy rfl km_RX8_214 rfl (T_X3_lookBy33 e5) (fun _ => rfl) rfl (Nat.le_of_ble_eq_true rfl) (Nat.le_of_ble_eq_true rfl) ⟨show 0 + 0 + 3 ≤ 6 by omega, show 0 + 0 + 98304 ≤ 196608 by omega⟩ (Nat.le_of_ble_eq_true rfl) ?_
    refine a_aload_n 0 dX8_spare_33 rfl ?_
    refine a_aload_n 0 dX8_spare_34 rfl ?_
    refine a_getR (j := 9) dX8_spare_35 KX8 rfl (by decide) rfl kf_RX8_58 ?_
    refine a_gd h (fun c7 h => ?_)
    refine bn_s h (fun r8 σ10 e9 h => ?_)
    refine a_callVI dX8_spare_38 mX8_valueNow KX8 rfl kv_X8_valueNow ks_X8_valueNow rfl km_RX8_225 rfl (T_X8_valueNow rfl rfl (sh_P c7) (sh_V c7) (sh_W c7) e9) (fun _ => rfl) rfl (Nat.le_of_ble_eq_true rfl) (Nat.le_of_ble_eq_true rfl) ⟨show 0 + 0 + 3 + 0 ≤ 6 by omega, show 0 + 0 + 98304 + 0 ≤ 196608 by omega⟩ (Nat.le_of_ble_eq_true rfl) ?_
    refine a_aload_n 0 dX8_spare_41 rfl ?_
    refine a_aload_n 0 dX8_spare_42 rfl ?_
    refine a_iconst dX8_spare_43 ?_
    refine bn_s h (fun r11 σ13 e12 h => ?_)
    refine a_callVR dX8_spare_44 mX8_outlookBy KX8 rfl kv_X8_outlookBy ks_X8_outlookBy rfl km_RX8_221 rfl (T_X8_outlookBy e12) (fun _ => rfl) rfl (Nat.le_of_ble_eq_true rfl) (Nat.le_of_ble_eq_true rfl) ⟨show 0 + 0 + 3 + 0 + 3 ≤ 6 by omega, show 0 + 0 + 98304 + 0 + 98304 ≤ 196608 by omega⟩ (Nat.le_of_ble_eq_true rfl) ?_
    refine a_if h (fun c14 hz => ?_) (fun c14 h => ?_)
    · skip
      subst c14
      have h := hz
      refine a_gd h (fun c15 h => ?_)
      refine bn_s h (fun r16 σ18 e17 h => ?_)
      refine a_callVI dX8_spare_47 mX8_valueNow KX8 rfl kv_X8_valueNow ks_X8_valueNow rfl km_RX8_225 rfl (T_X8_valueNow rfl rfl (sh_P c15) (sh_V c15) (sh_W c15) e17) (fun _ => rfl) rfl (Nat.le_of_ble_eq_true rfl) (Nat.le_of_ble_eq_true rfl) ⟨show 0 + 0 + 3 + 0 + 3 + 0 ≤ 6 by omega, show 0 + 0 + 98304 + 0 + 98304 + 0 ≤ 196608 by omega⟩ (Nat.le_of_ble_eq_true rfl) ?_
      refine a_isub dX8_spare_50 ?_
      refine a_widen (k' := 6) (n' := 196608) (by omega) (by omega) ?_
      exact a_iret dX8_spare_51 rfl (p_1 h) (p_T (p_2 h))
    · skip
      refine a_if h (fun c19 hz => ?_) (fun c19 h => ?_)
      · skip
        subst c19
        have h := hz
        refine a_gd h (fun c20 h => ?_)
        refine bn_s h (fun r21 σ23 e22 h => ?_)
        refine a_callVI dX8_spare_47 mX8_valueNow KX8 rfl kv_X8_valueNow ks_X8_valueNow rfl km_RX8_225 rfl (T_X8_valueNow rfl rfl (sh_P c20) (sh_V c20) (sh_W c20) e22) (fun _ => rfl) rfl (Nat.le_of_ble_eq_true rfl) (Nat.le_of_ble_eq_true rfl) ⟨show 0 + 0 + 3 + 0 + 3 + 0 ≤ 6 by omega, show 0 + 0 + 98304 + 0 + 98304 + 0 ≤ 196608 by omega⟩ (Nat.le_of_ble_eq_true rfl) ?_
        refine a_isub dX8_spare_50 ?_
        refine a_widen (k' := 6) (n' := 196608) (by omega) (by omega) ?_
        exact a_iret dX8_spare_51 rfl (p_1 h) (p_T (p_2 h))
      · skip
        cases h
  · skip
    refine a_ldc (z := -1000000) dX8_spare_11 kc_RX8_247 (by decide) ?_
    refine a_widen (k' := 6) (n' := 196608) (by omega) (by omega) ?_
    exact a_iret dX8_spare_13 rfl (p_1 h) (p_T (p_2 h))

def X8_aged (F : Nat) (σ : sM) : Option (Int × sM) := bn (X6_age F σ) (fun r1 σ3 => some (r1, σ3))
set_option maxRecDepth 100000 in
set_option maxHeartbeats 400000 in
theorem T_X8_aged {G : sG} {q_0 : qT} {x_0 : List Nat} {σ s_0 : sM} {r_0 : Int} {F : Nat}  (h : X8_aged F σ = some (r_0, s_0)) : aM G yX8_aged cX8_aged 1 (some .int) 4 0 0 [.ref (gP G 0)] (mkSh q_0 x_0, σ) (r_0, (mkSh q_0 x_0, s_0)) := by
  unfold X8_aged at h
  refine aM_of (by decide) (Nat.le_of_ble_eq_true rfl) ?_
  show aW G cX8_aged RX8 "aged" 1 (some .int) _ _ aX 0 0 _ [(0, .ref (gP G 0))] 0 []
  refine a_aload_n 0 dX8_aged_0 rfl ?_
  refine a_getR (j := 12) dX8_aged_1 KX8 rfl (by decide) rfl kf_RX8_78 ?_
  refine bn_s h (fun r1 σ3 e2 h => ?_)
  refine a_callVI dX8_aged_4 mX6_age KX6 rfl kv_X6_age ks_X6_age rfl km_RX8_291 rfl (T_X6_age e2) (fun _ => rfl) rfl (Nat.le_of_ble_eq_true rfl) (Nat.le_of_ble_eq_true rfl) ⟨(Nat.le_of_ble_eq_true rfl), (Nat.le_of_ble_eq_true rfl)⟩ (Nat.le_of_ble_eq_true rfl) ?_
  exact a_iret dX8_aged_7 rfl (p_1 h) (p_S (p_2 h))

def X8_shown (F : Nat) (σ : sM) (a1 : Int) : Option (Int × sM) := if wi a1 < 0 then some ((-1), σ) else if wi a1 ≤ 1 then jn (fun q3 : Int => bn (X6_see F σ q3) (fun r5 σ7 => some (r5, σ7))) (fun K4 => if ¬ wi a1 = 1 then K4 0 else K4 1) else some ((-1), σ)
set_option maxRecDepth 100000 in
set_option maxHeartbeats 400000 in
theorem T_X8_shown {G : sG} {q_0 : qT} {x_0 : List Nat} {σ s_0 : sM} {r_0 : Int} {a1 : Int} {F : Nat}  (h : X8_shown F σ a1 = some (r_0, s_0)) : aM G yX8_shown cX8_shown 2 (some .int) 4 0 0 [.ref (gP G 0), vI a1] (mkSh q_0 x_0, σ) (r_0, (mkSh q_0 x_0, s_0)) := by
  unfold X8_shown at h
  refine aM_of (by decide) (Nat.le_of_ble_eq_true rfl) ?_
  show aW G cX8_shown RX8 "shown" 2 (some .int) _ _ aX 0 0 _ [(0, .ref (gP G 0)), (1, vI a1)] 0 []
  refine a_iload_n 1 dX8_shown_0 rfl ?_
  refine a_if_lt 9 dX8_shown_1 (by decide) rfl h (fun c1 h => ?_) (fun c1 h => ?_)
  · skip
    refine a_iconst dX8_shown_9 ?_
    refine a_goto 30 dX8_shown_10 (by decide) ?_
    exact a_iret dX8_shown_30 rfl (p_1 h) (p_S (p_2 h))
  · skip
    refine a_iload_n 1 dX8_shown_4 rfl ?_
    refine a_iconst dX8_shown_5 ?_
    refine a_icmp_le 13 dX8_shown_6 (by decide) rfl (by decide) h (fun c2 h => ?_) (fun c2 h => ?_)
    · skip
      refine a_aload_n 0 dX8_shown_13 rfl ?_
      refine a_getR (j := 12) dX8_shown_14 KX8 rfl (by decide) rfl kf_RX8_78 ?_
      refine a_iload_n 1 dX8_shown_17 rfl ?_
      refine a_iconst dX8_shown_18 ?_
      refine jn_s (fun q3 : Int => aW G cX8_shown RX8 "shown" 2 (some .int) (sR 4 0 0) (aQ G (some .int) 0 0 (r_0, (mkSh q_0 x_0, s_0))) aX 0 0 (mkSh q_0 x_0, σ) [] 27 [vI q3, .ref (gP G 49)]) h (fun q3 h => ?_) (fun K4 hK4 h => ?_)
      · skip
        refine bn_s h (fun r5 σ7 e6 h => ?_)
        refine a_callVI dX8_shown_27 mX6_see KX6 rfl kv_X6_see ks_X6_see rfl km_RX8_294 rfl (T_X6_see e6) (fun _ => rfl) rfl (Nat.le_of_ble_eq_true rfl) (Nat.le_of_ble_eq_true rfl) ⟨(Nat.le_of_ble_eq_true rfl), (Nat.le_of_ble_eq_true rfl)⟩ (Nat.le_of_ble_eq_true rfl) ?_
        exact a_iret dX8_shown_30 rfl (p_1 h) (p_S (p_2 h))
      · skip
        refine a_icmp_ne 26 dX8_shown_19 (by decide) rfl (by decide) h (fun c8 h => ?_) (fun c8 h => ?_)
        · skip
          refine a_iconst dX8_shown_26 ?_
          have hh := hK4 _ h
          exact a_sub [] rfl hh
        · skip
          refine a_iconst dX8_shown_22 ?_
          refine a_goto 27 dX8_shown_23 (by decide) ?_
          have hh := hK4 _ h
          exact a_sub [] rfl hh
    · skip
      refine a_iconst dX8_shown_9 ?_
      refine a_goto 30 dX8_shown_10 (by decide) ?_
      exact a_iret dX8_shown_30 rfl (p_1 h) (p_S (p_2 h))

def X8_note (σ : sM) (a1 a2 : Int) : Option (Int × sM) := bp (X1_isWheel σ a2) (fun r1 => if wi r1 = 0 then some ((-1000000), σ) else bn (X2_byKind σ a1 (σ 26 2) a2) (fun r4 σ6 => some (r4, σ6)))
set_option maxRecDepth 100000 in
set_option maxHeartbeats 400000 in
theorem T_X8_note {G : sG} {q_0 : qT} {x_0 : List Nat} {σ s_0 : sM} {r_0 : Int} {a1 a2 : Int}  (h : X8_note σ a1 a2 = some (r_0, s_0)) : aM G yX8_note cX8_note 3 (some .int) 5 0 0 [.ref (gP G 0), vI a1, vI a2] (mkSh q_0 x_0, σ) (r_0, (mkSh q_0 x_0, s_0)) := by
  unfold X8_note at h
  refine aM_of (by decide) (Nat.le_of_ble_eq_true rfl) ?_
  show aW G cX8_note RX8 "note" 3 (some .int) _ _ aX 0 0 _ [(0, .ref (gP G 0)), (1, vI a1), (2, vI a2)] 0 []
  refine a_aload_n 0 dX8_note_0 rfl ?_
  refine a_getR (j := 2) dX8_note_1 KX8 rfl (by decide) rfl kf_RX8_20 ?_
  refine a_iload_n 2 dX8_note_4 rfl ?_
  refine bp_s h (fun r1 e2 h => ?_)
  refine a_callVI dX8_note_5 mX1_isWheel KX1 rfl kv_X1_isWheel ks_X1_isWheel rfl km_RX8_124 rfl (T_X1_isWheel e2) (fun _ => rfl) rfl (Nat.le_of_ble_eq_true rfl) (Nat.le_of_ble_eq_true rfl) ⟨(Nat.le_of_ble_eq_true rfl), (Nat.le_of_ble_eq_true rfl)⟩ (Nat.le_of_ble_eq_true rfl) ?_
  refine a_if_eq 30 dX8_note_8 (by decide) rfl h (fun c3 h => ?_) (fun c3 h => ?_)
  · skip
    refine a_ldc (z := -1000000) dX8_note_30 kc_RX8_247 (by decide) ?_
    exact a_iret dX8_note_32 rfl (p_1 h) (p_S (p_2 h))
  · skip
    refine a_aload_n 0 dX8_note_11 rfl ?_
    refine a_getR (j := 13) dX8_note_12 KX8 rfl (by decide) rfl kf_RX8_85 ?_
    refine a_iload_n 1 dX8_note_15 rfl ?_
    refine a_aload_n 0 dX8_note_16 rfl ?_
    refine a_getR (j := 5) dX8_note_17 KX8 rfl (by decide) rfl kf_RX8_39 ?_
    refine a_getIN (j := 2) dX8_note_20 KX7 rfl (by decide) rfl kf_RX8_133 ?_
    refine a_iload_n 2 dX8_note_23 rfl ?_
    refine bn_s h (fun r4 σ6 e5 h => ?_)
    refine a_callVI dX8_note_24 mX2_byKind KX2 rfl kv_X2_byKind ks_X2_byKind rfl km_RX8_302 rfl (T_X2_byKind e5) (fun _ => rfl) rfl (Nat.le_of_ble_eq_true rfl) (Nat.le_of_ble_eq_true rfl) ⟨(Nat.le_of_ble_eq_true rfl), (Nat.le_of_ble_eq_true rfl)⟩ (Nat.le_of_ble_eq_true rfl) ?_
    refine a_goto 32 dX8_note_27 (by decide) ?_
    exact a_iret dX8_note_32 rfl (p_1 h) (p_S (p_2 h))

def X9_know (F : Nat) (σ : sM) : Option (Int × sM) := bn (X9_valueNow F σ 4) (fun r1 σ3 => bn (X9_blindNow F σ3) (fun r4 σ6 => some (r1 - r4, σ6)))
set_option maxRecDepth 100000 in
set_option maxHeartbeats 400000 in
theorem T_X9_know {G : sG} {q_0 : qT} {x_0 : List Nat} {σ s_0 : sM} {r_0 : Int} {F : Nat}  (h : X9_know F σ = some (r_0, s_0)) : aM G yX9_know cX9_know 1 (some .int) 9 0 0 [.ref (gP G 55)] (mkSh q_0 x_0, σ) (r_0, (mkSh q_0 x_0, s_0)) := by
  unfold X9_know at h
  refine aM_of (by decide) (Nat.le_of_ble_eq_true rfl) ?_
  show aW G cX9_know RX9 "know" 1 (some .int) _ _ aX 0 0 _ [(0, .ref (gP G 55))] 0 []
  refine a_aload_n 0 dX9_know_0 rfl ?_
  refine a_iconst dX9_know_1 ?_
  refine bn_s h (fun r1 σ3 e2 h => ?_)
  refine a_callVI dX9_know_2 mX9_valueNow KX9 rfl kv_X9_valueNow ks_X9_valueNow rfl km_RX9_236 rfl (T_X9_valueNow e2) (fun _ => rfl) rfl (Nat.le_of_ble_eq_true rfl) (Nat.le_of_ble_eq_true rfl) ⟨(Nat.le_of_ble_eq_true rfl), (Nat.le_of_ble_eq_true rfl)⟩ (Nat.le_of_ble_eq_true rfl) ?_
  refine a_aload_n 0 dX9_know_5 rfl ?_
  refine bn_s h (fun r4 σ6 e5 h => ?_)
  refine a_callVI dX9_know_6 mX9_blindNow KX9 rfl kv_X9_blindNow ks_X9_blindNow rfl km_RX9_276 rfl (T_X9_blindNow e5) (fun _ => rfl) rfl (Nat.le_of_ble_eq_true rfl) (Nat.le_of_ble_eq_true rfl) ⟨(Nat.le_of_ble_eq_true rfl), (Nat.le_of_ble_eq_true rfl)⟩ (Nat.le_of_ble_eq_true rfl) ?_
  refine a_isub dX9_know_9 ?_
  exact a_iret dX9_know_10 rfl (p_1 h) (p_S (p_2 h))

def X0_lookFrom (F : Nat) (σ : sM) : Option (Int × sM) := jn (fun q1 : Unit => if wi ((sU (sU σ 37 11 1) 37 12 ((sU σ 37 11 1) 26 0)) 26 1) = 0 ∨ wi ((sU (sU σ 37 11 1) 37 12 ((sU σ 37 11 1) 26 0)) 26 1) = 1 then nm (sU (sU (sU σ 37 11 1) 37 12 ((sU σ 37 11 1) 26 0)) 37 13 ((sU (sU σ 37 11 1) 37 12 ((sU σ 37 11 1) 26 0)) 26 1)) (fun σ4 => jn (fun q6 : Int => nm (sU (sU (sU (sU σ4 37 14 (σ4 26 2)) 37 15 ((sU σ4 37 14 (σ4 26 2)) 26 3)) 37 10 q6) 37 9 (if wi 0 < wi (((sU (sU (sU σ4 37 14 (σ4 26 2)) 37 15 ((sU σ4 37 14 (σ4 26 2)) 26 3)) 37 10 q6) 2 7) - ((sU (sU (sU σ4 37 14 (σ4 26 2)) 37 15 ((sU σ4 37 14 (σ4 26 2)) 26 3)) 37 10 q6) 37 10)) then ((sU (sU (sU σ4 37 14 (σ4 26 2)) 37 15 ((sU σ4 37 14 (σ4 26 2)) 26 3)) 37 10 q6) 2 7) - ((sU (sU (sU σ4 37 14 (σ4 26 2)) 37 15 ((sU σ4 37 14 (σ4 26 2)) 26 3)) 37 10 q6) 37 10) else 0)) (fun σ8 => bn (J7_fill_53178 F 42 192 σ8 0) (fun r10 σ12 => lp (fun K14 (q13 : sM × Int) => jn (fun q15 : Unit => bn (X0_tellMost F q13.1) (fun r17 σ19 => bn (SEA F 12 0 (sU σ19 37 8 (-1)) ((sU σ19 37 8 (-1)) 37 10) ((sU σ19 37 8 (-1)) 26 2) 0) (fun r20 σ22 => some (0, σ22)))) (fun K16 => if wi (q13.1 2 6) ≤ wi q13.2 then K16 () else if 3 ≤ wi q13.2 then K16 () else bn (X0_tellMeans F q13.1 q13.2) (fun r25 σ27 => K14 (σ27, q13.2 + 1)))) F (σ12, 0)))) (fun K7 => if wi ((sU (sU σ4 37 14 (σ4 26 2)) 37 15 ((sU σ4 37 14 (σ4 26 2)) 26 3)) 26 1) = 0 then K7 ((sU (sU σ4 37 14 (σ4 26 2)) 37 15 ((sU σ4 37 14 (σ4 26 2)) 26 3)) 26 0) else K7 (((sU (sU σ4 37 14 (σ4 26 2)) 37 15 ((sU σ4 37 14 (σ4 26 2)) 26 3)) 26 0) + 1))) else none) (fun K2 => if wi (σ 37 11) = 0 then K2 () else if ¬ wi (σ 37 12) = wi (σ 26 0) then K2 () else if ¬ wi (σ 37 13) = wi (σ 26 1) then K2 () else if ¬ wi (σ 37 14) = wi (σ 26 2) then K2 () else if ¬ wi (σ 37 15) = wi (σ 26 3) then K2 () else some (0, σ))
set_option maxRecDepth 100000 in
set_option maxHeartbeats 400000 in
theorem T_X0_lookFrom {G : sG} {q_0 : qT} {x_0 : List Nat} {σ s_0 : sM} {r_0 : Int} {F : Nat}  (h : X0_lookFrom F σ = some (r_0, s_0)) : aM G yX0_lookFrom cX0_lookFrom 3 none 33 0 0 [.ref (gP G 37), .ref (gP G 26)] (mkSh q_0 x_0, σ) (r_0, (mkSh q_0 x_0, s_0)) := by
  unfold X0_lookFrom at h
  refine aM_of (by decide) (Nat.le_of_ble_eq_true rfl) ?_
  show aW G cX0_lookFrom RX0 "lookFrom" 3 none _ _ aX 0 0 _ [(0, .ref (gP G 37)), (1, .ref (gP G 26))] 0 []
  refine a_aload_n 0 dX0_lookFrom_0 rfl ?_
  refine a_getI (j := 11) dX0_lookFrom_1 KX0 rfl (by decide) rfl kf_RX0_47 ?_
  refine jn_s (fun q1 : Unit => aW G cX0_lookFrom RX0 "lookFrom" 3 none (sR 33 0 0) (aQ G none 0 0 (r_0, (mkSh q_0 x_0, s_0))) aX 0 0 (mkSh q_0 x_0, σ) [(0, .ref (gP G 37)), (1, .ref (gP G 26))] 52 []) h (fun q1 h => ?_) (fun K2 hK2 h => ?_)
  · skip
    refine a_aload_n 0 dX0_lookFrom_52 rfl ?_
    refine a_iconst dX0_lookFrom_53 ?_
    refine a_putZ (j := 11) dX0_lookFrom_54 KX0 rfl (by decide) rfl rfl rfl kf_RX0_47 (by decide) ?_
    refine a_aload_n 0 dX0_lookFrom_57 rfl ?_
    refine a_aload_n 1 dX0_lookFrom_58 rfl ?_
    refine a_getIN (j := 0) dX0_lookFrom_59 KX7 rfl (by decide) rfl kf_RX0_67 ?_
    refine a_putI (j := 12) dX0_lookFrom_62 KX0 rfl (by decide) rfl rfl rfl kf_RX0_51 ?_
    refine a_aload_n 0 dX0_lookFrom_65 rfl ?_
    refine a_aload_n 1 dX0_lookFrom_66 rfl ?_
    refine a_getIN (j := 1) dX0_lookFrom_67 KX7 rfl (by decide) rfl kf_RX0_72 ?_
    refine a_gd h (fun c3 h => ?_)
    refine a_putZ (j := 13) dX0_lookFrom_70 KX0 rfl (by decide) rfl rfl rfl kf_RX0_54 (nz_01 c3) ?_
    refine a_nmS h (fun σ4 w5 h => ?_)
    refine a_aload_n 0 dX0_lookFrom_73 rfl ?_
    refine a_aload_n 1 dX0_lookFrom_74 rfl ?_
    refine a_getIN (j := 2) dX0_lookFrom_75 KX7 rfl (by decide) rfl kf_RX0_75 ?_
    refine a_putI (j := 14) dX0_lookFrom_78 KX0 rfl (by decide) rfl rfl rfl kf_RX0_57 ?_
    refine a_aload_n 0 dX0_lookFrom_81 rfl ?_
    refine a_aload_n 1 dX0_lookFrom_82 rfl ?_
    refine a_getIN (j := 3) dX0_lookFrom_83 KX7 rfl (by decide) rfl kf_RX0_78 ?_
    refine a_putI (j := 15) dX0_lookFrom_86 KX0 rfl (by decide) rfl rfl rfl kf_RX0_60 ?_
    refine a_aload_n 0 dX0_lookFrom_89 rfl ?_
    refine a_aload_n 1 dX0_lookFrom_90 rfl ?_
    refine a_getIN (j := 1) dX0_lookFrom_91 KX7 rfl (by decide) rfl kf_RX0_72 ?_
    refine jn_s (fun q6 : Int => aW G cX0_lookFrom RX0 "lookFrom" 3 none (sR 33 0 0) (aQ G none 0 0 (r_0, (mkSh q_0 x_0, s_0))) aX 0 0 (mkSh q_0 x_0, (sU (sU σ4 37 14 (σ4 26 2)) 37 15 ((sU σ4 37 14 (σ4 26 2)) 26 3))) [(0, .ref (gP G 37)), (1, .ref (gP G 26))] 110 [vI q6, .ref (gP G 37)]) h (fun q6 h => ?_) (fun K7 hK7 h => ?_)
    · skip
      refine a_putI (j := 10) dX0_lookFrom_110 KX0 rfl (by decide) rfl rfl rfl kf_RX0_44 ?_
      refine a_aload_n 0 dX0_lookFrom_113 rfl ?_
      refine a_iconst dX0_lookFrom_114 ?_
      refine a_aload_n 0 dX0_lookFrom_115 rfl ?_
      refine a_getR (j := 0) dX0_lookFrom_116 KX0 rfl (by decide) rfl kf_RX0_63 ?_
      refine a_getIN (j := 7) dX0_lookFrom_119 KX1 rfl (by decide) rfl kf_RX0_81 ?_
      refine a_aload_n 0 dX0_lookFrom_122 rfl ?_
      refine a_getI (j := 10) dX0_lookFrom_123 KX0 rfl (by decide) rfl kf_RX0_44 ?_
      refine a_isub dX0_lookFrom_126 ?_
      refine a_mmax dX0_lookFrom_127 km_RX0_86 kv_J9_max_7cf53 ki_RJ9 kx_max ⟨Nat.le_of_ble_eq_true rfl, Nat.le_of_ble_eq_true rfl⟩ ⟨Nat.zero_le _, Nat.zero_le _⟩ (Nat.le_of_ble_eq_true rfl) ?_
      refine a_putI (j := 9) dX0_lookFrom_130 KX0 rfl (by decide) rfl rfl rfl kf_RX0_41 ?_
      refine a_nmS h (fun σ8 w9 h => ?_)
      refine a_aload_n 0 dX0_lookFrom_133 rfl ?_
      refine a_getR (j := 3) dX0_lookFrom_134 KX0 rfl (by decide) rfl kf_RX0_21 ?_
      refine a_iconst dX0_lookFrom_137 ?_
      refine bn_s h (fun r10 σ12 e11 h => ?_)
      refine a_callSV dX0_lookFrom_138 mJ7_fill_53178 kv_J7_fill_53178 km_RX0_92 rfl (T_J7_fill_53178 rfl e11) (fun _ => rfl) rfl (Nat.le_of_ble_eq_true rfl) (Nat.le_of_ble_eq_true rfl) ⟨(Nat.le_of_ble_eq_true rfl), (Nat.le_of_ble_eq_true rfl)⟩ (Nat.le_of_ble_eq_true rfl) ?_
      refine a_iconst dX0_lookFrom_141 ?_
      refine a_istore_n (L' := [(2, vI 0), (0, .ref (gP G 37)), (1, .ref (gP G 26))]) dX0_lookFrom_142 (by decide) rfl ?_
      refine a_sub (L' := [(0, .ref (gP G 37)), (1, .ref (gP G 26)), (2, vI 0)]) [1, 2, 0] rfl (lp_s (x := (σ12, 0)) (fun q13 : sM × Int => aW G cX0_lookFrom RX0 "lookFrom" 3 none (sR 33 0 0) (aQ G none 0 0 (r_0, (mkSh q_0 x_0, s_0))) aX 0 0 (mkSh q_0 x_0, q13.1) [(0, .ref (gP G 37)), (1, .ref (gP G 26)), (2, vI q13.2)] 143 []) h (fun K14 hK14 q13 h => ?_))
      refine a_iload_n 2 dX0_lookFrom_143 rfl ?_
      refine a_aload_n 0 dX0_lookFrom_144 rfl ?_
      refine a_getR (j := 0) dX0_lookFrom_145 KX0 rfl (by decide) rfl kf_RX0_63 ?_
      refine a_getIN (j := 6) dX0_lookFrom_148 KX1 rfl (by decide) rfl kf_RX0_98 ?_
      refine jn_s (fun q15 : Unit => aW G cX0_lookFrom RX0 "lookFrom" 3 none (sR 33 0 0) (aQ G none 0 0 (r_0, (mkSh q_0 x_0, s_0))) aX 0 0 (mkSh q_0 x_0, q13.1) [(0, .ref (gP G 37)), (1, .ref (gP G 26))] 170 []) h (fun q15 h => ?_) (fun K16 hK16 h => ?_)
      · skip
        refine a_aload_n 0 dX0_lookFrom_170 rfl ?_
        refine bn_s h (fun r17 σ19 e18 h => ?_)
        refine a_callVV dX0_lookFrom_171 mX0_tellMost KX0 rfl kv_X0_tellMost ks_X0_tellMost rfl km_RX0_105 rfl (T_X0_tellMost e18) (fun _ => rfl) rfl (Nat.le_of_ble_eq_true rfl) (Nat.le_of_ble_eq_true rfl) ⟨(Nat.le_of_ble_eq_true rfl), (Nat.le_of_ble_eq_true rfl)⟩ (Nat.le_of_ble_eq_true rfl) ?_
        refine a_aload_n 0 dX0_lookFrom_174 rfl ?_
        refine a_iconst dX0_lookFrom_175 ?_
        refine a_putI (j := 8) dX0_lookFrom_176 KX0 rfl (by decide) rfl rfl rfl kf_RX0_37 ?_
        refine a_aload_n 0 dX0_lookFrom_179 rfl ?_
        refine a_aload_n 0 dX0_lookFrom_180 rfl ?_
        refine a_getI (j := 10) dX0_lookFrom_181 KX0 rfl (by decide) rfl kf_RX0_44 ?_
        refine a_aload_n 1 dX0_lookFrom_184 rfl ?_
        refine a_getIN (j := 2) dX0_lookFrom_185 KX7 rfl (by decide) rfl kf_RX0_75 ?_
        refine a_iconst dX0_lookFrom_188 ?_
        refine bn_s h (fun r20 σ22 e21 h => ?_)
        refine a_callVV dX0_lookFrom_189 mX0_search KX0 rfl kv_X0_search ks_X0_search rfl km_RX0_108 rfl ((SEA_ok  12) _ _ _ _ _ _ e21) (fun _ => rfl) rfl (Nat.le_of_ble_eq_true rfl) (Nat.le_of_ble_eq_true rfl) ⟨(Nat.le_of_ble_eq_true rfl), (Nat.le_of_ble_eq_true rfl)⟩ (Nat.le_of_ble_eq_true rfl) ?_
        exact a_vret dX0_lookFrom_192 rfl (p_S (p_2 h))
      · skip
        refine a_icmp_ge 170 dX0_lookFrom_151 (by decide) rfl rfl h (fun c23 h => ?_) (fun c23 h => ?_)
        · skip
          have hh := hK16 _ h
          exact a_sub [0, 1] rfl hh
        · skip
          refine a_iload_n 2 dX0_lookFrom_154 rfl ?_
          refine a_iconst dX0_lookFrom_155 ?_
          refine a_icmp_ge 170 dX0_lookFrom_156 (by decide) rfl (by decide) h (fun c24 h => ?_) (fun c24 h => ?_)
          · skip
            have hh := hK16 _ h
            exact a_sub [0, 1] rfl hh
          · skip
            refine a_aload_n 0 dX0_lookFrom_159 rfl ?_
            refine a_iload_n 2 dX0_lookFrom_160 rfl ?_
            refine bn_s h (fun r25 σ27 e26 h => ?_)
            refine a_callVV dX0_lookFrom_161 mX0_tellMeans KX0 rfl kv_X0_tellMeans ks_X0_tellMeans rfl km_RX0_101 rfl (T_X0_tellMeans e26) (fun _ => rfl) rfl (Nat.le_of_ble_eq_true rfl) (Nat.le_of_ble_eq_true rfl) ⟨(Nat.le_of_ble_eq_true rfl), (Nat.le_of_ble_eq_true rfl)⟩ (Nat.le_of_ble_eq_true rfl) ?_
            refine a_iinc (L' := [(2, vI (q13.2 + 1)), (0, .ref (gP G 37)), (1, .ref (gP G 26))]) 2 dX0_lookFrom_164 rfl (by decide) rfl ?_
            refine a_goto 143 dX0_lookFrom_167 (by decide) ?_
            have hh := hK14 _ h
            exact a_sub [1, 2, 0] rfl hh
    · skip
      refine a_if_eq 106 dX0_lookFrom_94 (by decide) rfl h (fun c28 h => ?_) (fun c28 h => ?_)
      · skip
        refine a_aload_n 1 dX0_lookFrom_106 rfl ?_
        refine a_getIN (j := 0) dX0_lookFrom_107 KX7 rfl (by decide) rfl kf_RX0_67 ?_
        have hh := hK7 _ h
        exact a_sub [0, 1] rfl hh
      · skip
        refine a_aload_n 1 dX0_lookFrom_97 rfl ?_
        refine a_getIN (j := 0) dX0_lookFrom_98 KX7 rfl (by decide) rfl kf_RX0_67 ?_
        refine a_iconst dX0_lookFrom_101 ?_
        refine a_iadd dX0_lookFrom_102 ?_
        refine a_goto 110 dX0_lookFrom_103 (by decide) ?_
        have hh := hK7 _ h
        exact a_sub [0, 1] rfl hh
  · skip
    refine a_if_eq 52 dX0_lookFrom_4 (by decide) rfl h (fun c29 h => ?_) (fun c29 h => ?_)
    · skip
      have hh := hK2 _ h
      exact a_sub [0, 1] rfl hh
    · skip
      refine a_aload_n 0 dX0_lookFrom_7 rfl ?_
      refine a_getI (j := 12) dX0_lookFrom_8 KX0 rfl (by decide) rfl kf_RX0_51 ?_
      refine a_aload_n 1 dX0_lookFrom_11 rfl ?_
      refine a_getIN (j := 0) dX0_lookFrom_12 KX7 rfl (by decide) rfl kf_RX0_67 ?_
      refine a_icmp_ne 52 dX0_lookFrom_15 (by decide) rfl rfl h (fun c30 h => ?_) (fun c30 h => ?_)
      · skip
        have hh := hK2 _ h
        exact a_sub [0, 1] rfl hh
      · skip
        refine a_aload_n 0 dX0_lookFrom_18 rfl ?_
        refine a_getI (j := 13) dX0_lookFrom_19 KX0 rfl (by decide) rfl kf_RX0_54 ?_
        refine a_aload_n 1 dX0_lookFrom_22 rfl ?_
        refine a_getIN (j := 1) dX0_lookFrom_23 KX7 rfl (by decide) rfl kf_RX0_72 ?_
        refine a_icmp_ne 52 dX0_lookFrom_26 (by decide) rfl rfl h (fun c31 h => ?_) (fun c31 h => ?_)
        · skip
          have hh := hK2 _ h
          exact a_sub [0, 1] rfl hh
        · skip
          refine a_aload_n 0 dX0_lookFrom_29 rfl ?_
          refine a_getI (j := 14) dX0_lookFrom_30 KX0 rfl (by decide) rfl kf_RX0_57 ?_
          refine a_aload_n 1 dX0_lookFrom_33 rfl ?_
          refine a_getIN (j := 2) dX0_lookFrom_34 KX7 rfl (by decide) rfl kf_RX0_75 ?_
          refine a_icmp_ne 52 dX0_lookFrom_37 (by decide) rfl rfl h (fun c32 h => ?_) (fun c32 h => ?_)
          · skip
            have hh := hK2 _ h
            exact a_sub [0, 1] rfl hh
          · skip
            refine a_aload_n 0 dX0_lookFrom_40 rfl ?_
            refine a_getI (j := 15) dX0_lookFrom_41 KX0 rfl (by decide) rfl kf_RX0_60 ?_
            refine a_aload_n 1 dX0_lookFrom_44 rfl ?_
            refine a_getIN (j := 3) dX0_lookFrom_45 KX7 rfl (by decide) rfl kf_RX0_78 ?_
            refine a_icmp_ne 52 dX0_lookFrom_48 (by decide) rfl rfl h (fun c33 h => ?_) (fun c33 h => ?_)
            · skip
              have hh := hK2 _ h
              exact a_sub [0, 1] rfl hh
            · skip
              exact a_vret dX0_lookFrom_51 rfl (p_S (p_2 h))

def X4_readItem (F : Nat) (σ : sM) (a1 : Int) : Option (Int × sM) := if wi (σ 22 7) = 4 then if wi a1 = 0 then some (0, σ) else bn (X4_readWeeks σ) (fun r3 σ5 => if wi r3 = 0 then some (0, σ5) else some (1, σ5)) else if wi (σ 22 7) = 5 then if 4 ≤ wi (σ 12 5) then some (0, σ) else bn (X4_readSort F σ) (fun r9 σ11 => if wi r9 = 0 then some (0, σ11) else some (1, σ11)) else if wi (σ 22 7) = 6 then some (0, σ) else if wi (σ 22 7) = 7 then some (0, σ) else if wi (σ 22 7) = 8 then some (0, σ) else if wi (σ 22 7) = 9 then if 3 ≤ wi (σ 12 6) then some (0, σ) else bn (X4_readWheel σ) (fun r18 σ20 => if wi r18 = 0 then some (0, σ20) else some (1, σ20)) else if wi (σ 22 7) = 10 then bn (X4_readOpen σ) (fun r23 σ25 => if wi r23 = 0 ∨ wi r23 = 1 then some (r23, σ25) else none) else if wi (σ 22 7) = 11 then bn (X4_readOfWeek 20 8 σ 5) (fun r28 σ30 => if wi r28 = 0 ∨ wi r28 = 1 then some (r28, σ30) else none) else if wi (σ 22 7) = 12 then bn (X4_readOfWeek 21 8 σ 99) (fun r33 σ35 => if wi r33 = 0 ∨ wi r33 = 1 then some (r33, σ35) else none) else some (0, σ)
set_option maxRecDepth 100000 in
set_option maxHeartbeats 400000 in
theorem T_X4_readItem {G : sG} {q_0 : qT} {x_0 : List Nat} {σ s_0 : sM} {r_0 : Int} {a1 : Int} {F : Nat}  (h : X4_readItem F σ a1 = some (r_0, s_0)) : aM G yX4_readItem cX4_readItem 2 (some .boolean) 3 0 0 [.ref (gP G 22), vI a1] (mkSh q_0 x_0, σ) (r_0, (mkSh q_0 x_0, s_0)) := by
  unfold X4_readItem at h
  refine aM_of (by decide) (Nat.le_of_ble_eq_true rfl) ?_
  show aW G cX4_readItem RX4 "readItem" 2 (some .boolean) _ _ aX 0 0 _ [(0, .ref (gP G 22)), (1, vI a1)] 0 []
  refine a_aload_n 0 dX4_readItem_0 rfl ?_
  refine a_getI (j := 7) dX4_readItem_1 KX4 rfl (by decide) rfl kf_RX4_28 ?_
  refine a_if h (fun c1 h => ?_) (fun c1 h => ?_)
  · skip
    refine a_tsIn (off := 52) 56 dX4_readItem_4 c1 (by decide) (by decide) (by decide) ?_
    refine a_iload_n 1 dX4_readItem_56 rfl ?_
    refine a_if_eq 71 dX4_readItem_57 (by decide) rfl h (fun c2 h => ?_) (fun c2 h => ?_)
    · skip
      refine a_iconst dX4_readItem_71 ?_
      exact a_zret dX4_readItem_72 rfl (by decide) (p_1 h) (p_S (p_2 h))
    · skip
      refine a_aload_n 0 dX4_readItem_60 rfl ?_
      refine bn_s h (fun r3 σ5 e4 h => ?_)
      refine a_callVI dX4_readItem_61 mX4_readWeeks KX4 rfl kv_X4_readWeeks ks_X4_readWeeks rfl km_RX4_67 rfl (T_X4_readWeeks e4) (fun _ => rfl) rfl (Nat.le_of_ble_eq_true rfl) (Nat.le_of_ble_eq_true rfl) ⟨(Nat.le_of_ble_eq_true rfl), (Nat.le_of_ble_eq_true rfl)⟩ (Nat.le_of_ble_eq_true rfl) ?_
      refine a_if_eq 71 dX4_readItem_64 (by decide) rfl h (fun c6 h => ?_) (fun c6 h => ?_)
      · skip
        refine a_iconst dX4_readItem_71 ?_
        exact a_zret dX4_readItem_72 rfl (by decide) (p_1 h) (p_S (p_2 h))
      · skip
        refine a_iconst dX4_readItem_67 ?_
        refine a_goto 72 dX4_readItem_68 (by decide) ?_
        exact a_zret dX4_readItem_72 rfl (by decide) (p_1 h) (p_S (p_2 h))
  · skip
    refine a_if h (fun c7 h => ?_) (fun c7 h => ?_)
    · skip
      refine a_tsIn (off := 69) 73 dX4_readItem_4 c7 (by decide) (by decide) (by decide) ?_
      refine a_aload_n 0 dX4_readItem_73 rfl ?_
      refine a_getR (j := 1) dX4_readItem_74 KX4 rfl (by decide) rfl kf_RX4_38 ?_
      refine a_getIN (j := 5) dX4_readItem_77 KX1 rfl (by decide) rfl kf_RX4_71 ?_
      refine a_iconst dX4_readItem_80 ?_
      refine a_icmp_ge 95 dX4_readItem_81 (by decide) rfl (by decide) h (fun c8 h => ?_) (fun c8 h => ?_)
      · skip
        refine a_iconst dX4_readItem_95 ?_
        exact a_zret dX4_readItem_96 rfl (by decide) (p_1 h) (p_S (p_2 h))
      · skip
        refine a_aload_n 0 dX4_readItem_84 rfl ?_
        refine bn_s h (fun r9 σ11 e10 h => ?_)
        refine a_callVI dX4_readItem_85 mX4_readSort KX4 rfl kv_X4_readSort ks_X4_readSort rfl km_RX4_74 rfl (T_X4_readSort e10) (fun _ => rfl) rfl (Nat.le_of_ble_eq_true rfl) (Nat.le_of_ble_eq_true rfl) ⟨(Nat.le_of_ble_eq_true rfl), (Nat.le_of_ble_eq_true rfl)⟩ (Nat.le_of_ble_eq_true rfl) ?_
        refine a_if_eq 95 dX4_readItem_88 (by decide) rfl h (fun c12 h => ?_) (fun c12 h => ?_)
        · skip
          refine a_iconst dX4_readItem_95 ?_
          exact a_zret dX4_readItem_96 rfl (by decide) (p_1 h) (p_S (p_2 h))
        · skip
          refine a_iconst dX4_readItem_91 ?_
          refine a_goto 96 dX4_readItem_92 (by decide) ?_
          exact a_zret dX4_readItem_96 rfl (by decide) (p_1 h) (p_S (p_2 h))
    · skip
      refine a_if h (fun c13 h => ?_) (fun c13 h => ?_)
      · skip
        refine a_tsIn (off := 149) 153 dX4_readItem_4 c13 (by decide) (by decide) (by decide) ?_
        refine a_iconst dX4_readItem_153 ?_
        exact a_zret dX4_readItem_154 rfl (by decide) (p_1 h) (p_S (p_2 h))
      · skip
        refine a_if h (fun c14 h => ?_) (fun c14 h => ?_)
        · skip
          refine a_tsIn (off := 149) 153 dX4_readItem_4 c14 (by decide) (by decide) (by decide) ?_
          refine a_iconst dX4_readItem_153 ?_
          exact a_zret dX4_readItem_154 rfl (by decide) (p_1 h) (p_S (p_2 h))
        · skip
          refine a_if h (fun c15 h => ?_) (fun c15 h => ?_)
          · skip
            refine a_tsIn (off := 149) 153 dX4_readItem_4 c15 (by decide) (by decide) (by decide) ?_
            refine a_iconst dX4_readItem_153 ?_
            exact a_zret dX4_readItem_154 rfl (by decide) (p_1 h) (p_S (p_2 h))
          · skip
            refine a_if h (fun c16 h => ?_) (fun c16 h => ?_)
            · skip
              refine a_tsIn (off := 93) 97 dX4_readItem_4 c16 (by decide) (by decide) (by decide) ?_
              refine a_aload_n 0 dX4_readItem_97 rfl ?_
              refine a_getR (j := 1) dX4_readItem_98 KX4 rfl (by decide) rfl kf_RX4_38 ?_
              refine a_getIN (j := 6) dX4_readItem_101 KX1 rfl (by decide) rfl kf_RX4_77 ?_
              refine a_iconst dX4_readItem_104 ?_
              refine a_icmp_ge 119 dX4_readItem_105 (by decide) rfl (by decide) h (fun c17 h => ?_) (fun c17 h => ?_)
              · skip
                refine a_iconst dX4_readItem_119 ?_
                exact a_zret dX4_readItem_120 rfl (by decide) (p_1 h) (p_S (p_2 h))
              · skip
                refine a_aload_n 0 dX4_readItem_108 rfl ?_
                refine bn_s h (fun r18 σ20 e19 h => ?_)
                refine a_callVI dX4_readItem_109 mX4_readWheel KX4 rfl kv_X4_readWheel ks_X4_readWheel rfl km_RX4_80 rfl (T_X4_readWheel e19) (fun _ => rfl) rfl (Nat.le_of_ble_eq_true rfl) (Nat.le_of_ble_eq_true rfl) ⟨(Nat.le_of_ble_eq_true rfl), (Nat.le_of_ble_eq_true rfl)⟩ (Nat.le_of_ble_eq_true rfl) ?_
                refine a_if_eq 119 dX4_readItem_112 (by decide) rfl h (fun c21 h => ?_) (fun c21 h => ?_)
                · skip
                  refine a_iconst dX4_readItem_119 ?_
                  exact a_zret dX4_readItem_120 rfl (by decide) (p_1 h) (p_S (p_2 h))
                · skip
                  refine a_iconst dX4_readItem_115 ?_
                  refine a_goto 120 dX4_readItem_116 (by decide) ?_
                  exact a_zret dX4_readItem_120 rfl (by decide) (p_1 h) (p_S (p_2 h))
            · skip
              refine a_if h (fun c22 h => ?_) (fun c22 h => ?_)
              · skip
                refine a_tsIn (off := 117) 121 dX4_readItem_4 c22 (by decide) (by decide) (by decide) ?_
                refine a_aload_n 0 dX4_readItem_121 rfl ?_
                refine bn_s h (fun r23 σ25 e24 h => ?_)
                refine a_callVI dX4_readItem_122 mX4_readOpen KX4 rfl kv_X4_readOpen ks_X4_readOpen rfl km_RX4_83 rfl (T_X4_readOpen e24) (fun _ => rfl) rfl (Nat.le_of_ble_eq_true rfl) (Nat.le_of_ble_eq_true rfl) ⟨(Nat.le_of_ble_eq_true rfl), (Nat.le_of_ble_eq_true rfl)⟩ (Nat.le_of_ble_eq_true rfl) ?_
                refine a_gd h (fun c26 h => ?_)
                exact a_zret dX4_readItem_125 rfl (nb_01 c26) (p_1 h) (p_S (p_2 h))
              · skip
                refine a_if h (fun c27 h => ?_) (fun c27 h => ?_)
                · skip
                  refine a_tsIn (off := 122) 126 dX4_readItem_4 c27 (by decide) (by decide) (by decide) ?_
                  refine a_aload_n 0 dX4_readItem_126 rfl ?_
                  refine a_aload_n 0 dX4_readItem_127 rfl ?_
                  refine a_getR (j := 1) dX4_readItem_128 KX4 rfl (by decide) rfl kf_RX4_38 ?_
                  refine a_getRN (j := 3) dX4_readItem_131 KX1 rfl (by decide) rfl kf_RX4_86 ?_
                  refine a_iconst dX4_readItem_134 ?_
                  refine bn_s h (fun r28 σ30 e29 h => ?_)
                  refine a_callVI dX4_readItem_135 mX4_readOfWeek KX4 rfl kv_X4_readOfWeek ks_X4_readOfWeek rfl km_RX4_89 rfl (T_X4_readOfWeek rfl e29) (fun _ => rfl) rfl (Nat.le_of_ble_eq_true rfl) (Nat.le_of_ble_eq_true rfl) ⟨(Nat.le_of_ble_eq_true rfl), (Nat.le_of_ble_eq_true rfl)⟩ (Nat.le_of_ble_eq_true rfl) ?_
                  refine a_gd h (fun c31 h => ?_)
                  exact a_zret dX4_readItem_138 rfl (nb_01 c31) (p_1 h) (p_S (p_2 h))
                · skip
                  refine a_if h (fun c32 h => ?_) (fun c32 h => ?_)
                  · skip
                    refine a_tsIn (off := 135) 139 dX4_readItem_4 c32 (by decide) (by decide) (by decide) ?_
                    refine a_aload_n 0 dX4_readItem_139 rfl ?_
                    refine a_aload_n 0 dX4_readItem_140 rfl ?_
                    refine a_getR (j := 1) dX4_readItem_141 KX4 rfl (by decide) rfl kf_RX4_38 ?_
                    refine a_getRN (j := 4) dX4_readItem_144 KX1 rfl (by decide) rfl kf_RX4_93 ?_
                    refine a_bipush dX4_readItem_147 (by decide) ?_
                    refine bn_s h (fun r33 σ35 e34 h => ?_)
                    refine a_callVI dX4_readItem_149 mX4_readOfWeek KX4 rfl kv_X4_readOfWeek ks_X4_readOfWeek rfl km_RX4_89 rfl (T_X4_readOfWeek rfl e34) (fun _ => rfl) rfl (Nat.le_of_ble_eq_true rfl) (Nat.le_of_ble_eq_true rfl) ⟨(Nat.le_of_ble_eq_true rfl), (Nat.le_of_ble_eq_true rfl)⟩ (Nat.le_of_ble_eq_true rfl) ?_
                    refine a_gd h (fun c36 h => ?_)
                    exact a_zret dX4_readItem_152 rfl (nb_01 c36) (p_1 h) (p_S (p_2 h))
                  · skip
                    refine a_tsOut (v := wi (σ 22 7)) 153 dX4_readItem_4 rfl (by omega) (by decide) ?_
                    refine a_iconst dX4_readItem_153 ?_
                    exact a_zret dX4_readItem_154 rfl (by decide) (p_1 h) (p_S (p_2 h))

def X4_cutUp (F : Nat) (σ : sM) : Option (Int × sM) := lp (fun K2 (q1 : sM × Int × Int × Int) => jn (fun q3 : Unit => if 0 ≤ wi q1.2.1 ∧ wi q1.2.1 < 401 then if 0 ≤ wi q1.2.1 ∧ wi q1.2.1 < 401 then nm (sU (sU q1.1 23 (wi q1.2.1).toNat 0) 25 (wi q1.2.1).toNat ((sU q1.1 23 (wi q1.2.1).toNat 0) 22 5)) (fun σ7 => some (0, σ7)) else none else none) (fun K4 => if 400 ≤ wi q1.2.2.2 then K4 () else if wi (q1.1 22 5) ≤ wi q1.2.2.1 then K4 () else if 400 ≤ wi q1.2.2.1 then K4 () else if 0 ≤ wi q1.2.2.1 ∧ wi q1.2.2.1 < 400 then jn (fun q13 : sM × Int × Int => K2 (q13.1, q13.2.1, q13.2.2, q1.2.2.2 + 1)) (fun K14 => if wi (q1.1 1 (wi q1.2.2.1).toNat) = 32 then K14 (q1.1, q1.2.1, q1.2.2.1 + 1) else bp (X4_endOfToken F q1.1 q1.2.2.1) (fun r16 => bp (X4_tokenOf F q1.1 q1.2.2.1 r16) (fun r18 => if 0 ≤ wi q1.2.1 ∧ wi q1.2.1 < 401 then if 0 ≤ wi q1.2.1 ∧ wi q1.2.1 < 401 then jn (fun q22 : Int => if 0 ≤ wi q1.2.1 ∧ wi q1.2.1 < 401 then if 0 ≤ wi q1.2.1 ∧ wi q1.2.1 < 401 then nm (sU (sU (sU q1.1 23 (wi q1.2.1).toNat r18) 24 (wi q1.2.1).toNat q22) 25 (wi q1.2.1).toNat q1.2.2.1) (fun σ26 => K14 (σ26, q1.2.1 + 1, r16)) else none else none) (fun K23 => if ¬ wi ((sU q1.1 23 (wi q1.2.1).toNat r18) 23 (wi q1.2.1).toNat) = 1 then K23 0 else bp (X4_numberOf F (sU q1.1 23 (wi q1.2.1).toNat r18) q1.2.2.1 r16) (fun r29 => K23 r29)) else none else none))) else none)) F (σ, 0, 0, 0)
set_option maxRecDepth 100000 in
set_option maxHeartbeats 400000 in
theorem T_X4_cutUp {G : sG} {q_0 : qT} {x_0 : List Nat} {σ s_0 : sM} {r_0 : Int} {F : Nat}  (h : X4_cutUp F σ = some (r_0, s_0)) : aM G yX4_cutUp cX4_cutUp 5 none 7 0 0 [.ref (gP G 22)] (mkSh q_0 x_0, σ) (r_0, (mkSh q_0 x_0, s_0)) := by
  unfold X4_cutUp at h
  refine aM_of (by decide) (Nat.le_of_ble_eq_true rfl) ?_
  show aW G cX4_cutUp RX4 "cutUp" 5 none _ _ aX 0 0 _ [(0, .ref (gP G 22))] 0 []
  refine a_iconst dX4_cutUp_0 ?_
  refine a_istore_n (L' := [(1, vI 0), (0, .ref (gP G 22))]) dX4_cutUp_1 (by decide) rfl ?_
  refine a_iconst dX4_cutUp_2 ?_
  refine a_istore_n (L' := [(2, vI 0), (1, vI 0), (0, .ref (gP G 22))]) dX4_cutUp_3 (by decide) rfl ?_
  refine a_iconst dX4_cutUp_4 ?_
  refine a_istore_n (L' := [(3, vI 0), (2, vI 0), (1, vI 0), (0, .ref (gP G 22))]) dX4_cutUp_5 (by decide) rfl ?_
  refine a_sub (L' := [(0, .ref (gP G 22)), (1, vI 0), (2, vI 0), (3, vI 0)]) [3, 2, 1, 0] rfl (lp_s (x := (σ, 0, 0, 0)) (fun q1 : sM × Int × Int × Int => aW G cX4_cutUp RX4 "cutUp" 5 none (sR 7 0 0) (aQ G none 0 0 (r_0, (mkSh q_0 x_0, s_0))) aX 0 0 (mkSh q_0 x_0, q1.1) [(0, .ref (gP G 22)), (1, vI q1.2.1), (2, vI q1.2.2.1), (3, vI q1.2.2.2)] 6 []) h (fun K2 hK2 q1 h => ?_))
  refine a_iload_n 3 dX4_cutUp_6 rfl ?_
  refine a_sipush dX4_cutUp_7 (by decide) ?_
  refine jn_s (fun q3 : Unit => aW G cX4_cutUp RX4 "cutUp" 5 none (sR 7 0 0) (aQ G none 0 0 (r_0, (mkSh q_0 x_0, s_0))) aX 0 0 (mkSh q_0 x_0, q1.1) [(0, .ref (gP G 22)), (1, vI q1.2.1)] 112 []) h (fun q3 h => ?_) (fun K4 hK4 h => ?_)
  · skip
    refine a_aload_n 0 dX4_cutUp_112 rfl ?_
    refine a_getR (j := 2) dX4_cutUp_113 KX4 rfl (by decide) rfl kf_RX4_9 ?_
    refine a_iload_n 1 dX4_cutUp_116 rfl ?_
    refine a_iconst dX4_cutUp_117 ?_
    refine a_gd h (fun c5 h => ?_)
    refine a_iast (x' := wi q1.2.1) dX4_cutUp_118 rfl rfl c5 rfl ?_
    refine a_aload_n 0 dX4_cutUp_119 rfl ?_
    refine a_getR (j := 4) dX4_cutUp_120 KX4 rfl (by decide) rfl kf_RX4_18 ?_
    refine a_iload_n 1 dX4_cutUp_123 rfl ?_
    refine a_aload_n 0 dX4_cutUp_124 rfl ?_
    refine a_getI (j := 5) dX4_cutUp_125 KX4 rfl (by decide) rfl kf_RX4_21 ?_
    refine a_gd h (fun c6 h => ?_)
    refine a_iast (x' := wi q1.2.1) dX4_cutUp_128 rfl rfl c6 rfl ?_
    refine a_nmS h (fun σ7 w8 h => ?_)
    exact a_vret dX4_cutUp_129 rfl (p_S (p_2 h))
  · skip
    refine a_icmp_ge 112 dX4_cutUp_10 (by decide) rfl (by decide) h (fun c9 h => ?_) (fun c9 h => ?_)
    · skip
      have hh := hK4 _ h
      exact a_sub [0, 1] rfl hh
    · skip
      refine a_iload_n 2 dX4_cutUp_13 rfl ?_
      refine a_aload_n 0 dX4_cutUp_14 rfl ?_
      refine a_getI (j := 5) dX4_cutUp_15 KX4 rfl (by decide) rfl kf_RX4_21 ?_
      refine a_icmp_ge 112 dX4_cutUp_18 (by decide) rfl rfl h (fun c10 h => ?_) (fun c10 h => ?_)
      · skip
        have hh := hK4 _ h
        exact a_sub [0, 1] rfl hh
      · skip
        refine a_iload_n 2 dX4_cutUp_21 rfl ?_
        refine a_aload_n 0 dX4_cutUp_22 rfl ?_
        refine a_getR (j := 0) dX4_cutUp_23 KX4 rfl (by decide) rfl kf_RX4_34 ?_
        refine a_alenB dX4_cutUp_26 rfl ?_
        refine a_icmp_ge 112 dX4_cutUp_27 (by decide) rfl (by decide) h (fun c11 h => ?_) (fun c11 h => ?_)
        · skip
          have hh := hK4 _ h
          exact a_sub [0, 1] rfl hh
        · skip
          refine a_iload_n 2 dX4_cutUp_30 rfl ?_
          refine a_iconst dX4_cutUp_31 ?_
          refine a_iadd dX4_cutUp_32 ?_
          refine a_istore (L' := [(4, vI (q1.2.2.1 + 1)), (0, .ref (gP G 22)), (1, vI q1.2.1), (2, vI q1.2.2.1), (3, vI q1.2.2.2)]) dX4_cutUp_33 (by decide) rfl ?_
          refine a_aload_n 1 dX4_cutUp_35 rfl ?_
          refine a_getR (j := 0) dX4_cutUp_36 KX4 rfl (by decide) rfl kf_RX4_34 ?_
          refine a_iload_n 3 dX4_cutUp_39 rfl ?_
          refine a_gd h (fun c12 h => ?_)
          refine a_bald (x' := wi q1.2.2.1) dX4_cutUp_40 rfl rfl c12 rfl ?_
          refine a_bipush dX4_cutUp_41 (by decide) ?_
          refine jn_s (fun q13 : sM × Int × Int => aW G cX4_cutUp RX4 "cutUp" 5 none (sR 7 0 0) (aQ G none 0 0 (r_0, (mkSh q_0 x_0, s_0))) aX 0 0 (mkSh q_0 x_0, q13.1) [(0, .ref (gP G 22)), (1, vI q13.2.1), (3, vI q1.2.2.2), (4, vI q13.2.2)] 103 []) h (fun q13 h => ?_) (fun K14 hK14 h => ?_)
          · skip
            refine a_iload 3 dX4_cutUp_103 rfl ?_
            refine a_istore_n (L' := [(2, vI q13.2.2), (0, .ref (gP G 22)), (1, vI q13.2.1), (3, vI q1.2.2.2), (4, vI q13.2.2)]) dX4_cutUp_105 (by decide) rfl ?_
            refine a_iinc (L' := [(3, vI (q1.2.2.2 + 1)), (2, vI q13.2.2), (0, .ref (gP G 22)), (1, vI q13.2.1), (4, vI q13.2.2)]) 3 dX4_cutUp_106 rfl (by decide) rfl ?_
            refine a_goto 6 dX4_cutUp_109 (by decide) ?_
            have hh := hK2 _ h
            exact a_sub [2, 3, 1, 0] rfl hh
          · skip
            refine a_icmp_eq 103 dX4_cutUp_43 (by decide) rfl (by decide) h (fun c15 h => ?_) (fun c15 h => ?_)
            · skip
              have hh := hK14 _ h
              exact a_sub [1, 2, 4, 0] rfl hh
            · skip
              refine a_aload_n 1 dX4_cutUp_46 rfl ?_
              refine a_iload_n 3 dX4_cutUp_47 rfl ?_
              refine bp_s h (fun r16 e17 h => ?_)
              refine a_callVI dX4_cutUp_48 mX4_endOfToken KX4 rfl kv_X4_endOfToken ks_X4_endOfToken rfl km_RX4_124 rfl (T_X4_endOfToken e17) (fun _ => rfl) rfl (Nat.le_of_ble_eq_true rfl) (Nat.le_of_ble_eq_true rfl) ⟨(Nat.le_of_ble_eq_true rfl), (Nat.le_of_ble_eq_true rfl)⟩ (Nat.le_of_ble_eq_true rfl) ?_
              refine a_istore (L' := [(4, vI r16), (0, .ref (gP G 22)), (1, vI q1.2.1), (2, vI q1.2.2.1), (3, vI q1.2.2.2)]) dX4_cutUp_51 (by decide) rfl ?_
              refine a_aload_n 1 dX4_cutUp_53 rfl ?_
              refine a_getR (j := 2) dX4_cutUp_54 KX4 rfl (by decide) rfl kf_RX4_9 ?_
              refine a_iload_n 2 dX4_cutUp_57 rfl ?_
              refine a_aload_n 1 dX4_cutUp_58 rfl ?_
              refine a_iload_n 3 dX4_cutUp_59 rfl ?_
              refine a_iload 0 dX4_cutUp_60 rfl ?_
              refine bp_s h (fun r18 e19 h => ?_)
              refine a_callVI dX4_cutUp_62 mX4_tokenOf KX4 rfl kv_X4_tokenOf ks_X4_tokenOf rfl km_RX4_128 rfl (T_X4_tokenOf e19) (fun _ => rfl) rfl (Nat.le_of_ble_eq_true rfl) (Nat.le_of_ble_eq_true rfl) ⟨(Nat.le_of_ble_eq_true rfl), (Nat.le_of_ble_eq_true rfl)⟩ (Nat.le_of_ble_eq_true rfl) ?_
              refine a_gd h (fun c20 h => ?_)
              refine a_iast (x' := wi q1.2.1) dX4_cutUp_65 rfl rfl c20 rfl ?_
              refine a_aload_n 1 dX4_cutUp_66 rfl ?_
              refine a_getR (j := 3) dX4_cutUp_67 KX4 rfl (by decide) rfl kf_RX4_15 ?_
              refine a_iload_n 2 dX4_cutUp_70 rfl ?_
              refine a_aload_n 1 dX4_cutUp_71 rfl ?_
              refine a_getR (j := 2) dX4_cutUp_72 KX4 rfl (by decide) rfl kf_RX4_9 ?_
              refine a_iload_n 2 dX4_cutUp_75 rfl ?_
              refine a_gd h (fun c21 h => ?_)
              refine a_iald (x' := wi q1.2.1) dX4_cutUp_76 rfl rfl c21 rfl ?_
              refine a_iconst dX4_cutUp_77 ?_
              refine jn_s (fun q22 : Int => aW G cX4_cutUp RX4 "cutUp" 5 none (sR 7 0 0) (aQ G none 0 0 (r_0, (mkSh q_0 x_0, s_0))) aX 0 0 (mkSh q_0 x_0, (sU q1.1 23 (wi q1.2.1).toNat r18)) [(0, .ref (gP G 22)), (1, vI q1.2.1), (2, vI q1.2.2.1), (3, vI q1.2.2.2), (4, vI r16)] 92 [vI q22, vI q1.2.1, .ref (gP G 24)]) h (fun q22 h => ?_) (fun K23 hK23 h => ?_)
              · skip
                refine a_gd h (fun c24 h => ?_)
                refine a_iast (x' := wi q1.2.1) dX4_cutUp_92 rfl rfl c24 rfl ?_
                refine a_aload_n 0 dX4_cutUp_93 rfl ?_
                refine a_getR (j := 4) dX4_cutUp_94 KX4 rfl (by decide) rfl kf_RX4_18 ?_
                refine a_iload_n 1 dX4_cutUp_97 rfl ?_
                refine a_iload_n 2 dX4_cutUp_98 rfl ?_
                refine a_gd h (fun c25 h => ?_)
                refine a_iast (x' := wi q1.2.1) dX4_cutUp_99 rfl rfl c25 rfl ?_
                refine a_nmS h (fun σ26 w27 h => ?_)
                refine a_iinc (L' := [(1, vI (q1.2.1 + 1)), (0, .ref (gP G 22)), (2, vI q1.2.2.1), (3, vI q1.2.2.2), (4, vI r16)]) 1 dX4_cutUp_100 rfl (by decide) rfl ?_
                have hh := hK14 _ h
                exact a_sub [1, 0, 3, 4] rfl hh
              · skip
                refine a_icmp_ne 91 dX4_cutUp_78 (by decide) rfl (by decide) h (fun c28 h => ?_) (fun c28 h => ?_)
                · skip
                  refine a_iconst dX4_cutUp_91 ?_
                  have hh := hK23 _ h
                  exact a_sub [1, 2, 3, 4, 0] rfl hh
                · skip
                  refine a_aload_n 1 dX4_cutUp_81 rfl ?_
                  refine a_iload_n 3 dX4_cutUp_82 rfl ?_
                  refine a_iload 0 dX4_cutUp_83 rfl ?_
                  refine bp_s h (fun r29 e30 h => ?_)
                  refine a_callVI dX4_cutUp_85 mX4_numberOf KX4 rfl kv_X4_numberOf ks_X4_numberOf rfl km_RX4_131 rfl (T_X4_numberOf e30) (fun _ => rfl) rfl (Nat.le_of_ble_eq_true rfl) (Nat.le_of_ble_eq_true rfl) ⟨(Nat.le_of_ble_eq_true rfl), (Nat.le_of_ble_eq_true rfl)⟩ (Nat.le_of_ble_eq_true rfl) ?_
                  refine a_goto 92 dX4_cutUp_88 (by decide) ?_
                  have hh := hK23 _ h
                  exact a_sub [1, 2, 3, 4, 0] rfl hh

