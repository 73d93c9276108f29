def X8_value (F : Nat) (q_0 : qT) (x_0 : List Nat) (σ : sM) (a1 : Int) : Option (Int × qT × List Nat × sM) := bp (X8_isRule σ a1) (fun r1 => if wi r1 = 0 then some ((-1), (q_0, x_0, σ)) else bn (X8_outlookBy q_0 x_0 σ a1) (fun r4 σ6 => if r4 = 29 then if okO σ6.1.1 σ6.1.2.1 σ6.1.2.2.1 σ6.2.1 = true then bn (X8_valueNow F 29 σ6.1.1 σ6.1.2.1 σ6.1.2.2.1 (lnA σ6.1.1 σ6.2.1) σ6.2.2) (fun r9 σ11 => some (r9, (σ6.1, σ6.2.1, σ11))) else none else if r4 = 33 then if okO σ6.1.2.2.2.1 σ6.1.2.2.2.2.1 σ6.1.2.2.2.2.2 σ6.2.1 = true then bn (X8_valueNow F 33 σ6.1.2.2.2.1 σ6.1.2.2.2.2.1 σ6.1.2.2.2.2.2 (lnA σ6.1.2.2.2.1 σ6.2.1) σ6.2.2) (fun r14 σ16 => some (r14, (σ6.1, σ6.2.1, σ16))) else none else none))
set_option maxRecDepth 100000 in
set_option maxHeartbeats 400000 in
theorem T_X8_value {G : sG} {q_0 : qT} {x_0 : List Nat} {σ : sM} {t_0 : qT × List Nat × sM} {r_0 : Int} {a1 : Int} {F : Nat} (h : X8_value F q_0 x_0 σ a1 = some (r_0, t_0)) : aM G yX8_value cX8_value 2 (some .int) 102 3 98304 [.ref (gP G 0), vI a1] (mkSh q_0 x_0, σ) (r_0, (mkSh t_0.1 t_0.2.1, t_0.2.2)) := by
  unfold X8_value at h
  refine aM_of (by decide) (Nat.le_of_ble_eq_true rfl) ?_
  show aW G cX8_value RX8 "value" 2 (some .int) _ _ aX 0 0 _ [(0, .ref (gP G 0)), (1, vI a1)] 0 []
  refine a_iload_n 1 dX8_value_0 rfl ?_
  refine bp_s h (fun r1 e2 h => ?_)
  refine a_callSI dX8_value_1 mX8_isRule kv_X8_isRule km_RX8_218 rfl (T_X8_isRule e2) (fun _ => rfl) rfl (Nat.le_of_ble_eq_true rfl) (Nat.le_of_ble_eq_true rfl) ⟨show 0 + 0 ≤ 3 by omega, show 0 + 0 ≤ 98304 by omega⟩ (Nat.le_of_ble_eq_true rfl) ?_
  refine a_if_eq 19 dX8_value_4 (by decide) rfl h (fun c3 h => ?_) (fun c3 h => ?_)
  · skip
    refine a_iconst dX8_value_19 ?_
    refine a_widen (k' := 3) (n' := 98304) (by omega) (by omega) ?_
    exact a_iret dX8_value_20 rfl (p_1 h) (p_T (p_2 h))
  · skip
    refine a_aload_n 0 dX8_value_7 rfl ?_
    refine a_aload_n 0 dX8_value_8 rfl ?_
    refine a_iload_n 1 dX8_value_9 rfl ?_
    refine bn_s h (fun r4 σ6 e5 h => ?_)
    refine a_callVR dX8_value_10 mX8_outlookBy KX8 rfl kv_X8_outlookBy ks_X8_outlookBy rfl km_RX8_221 rfl (T_X8_outlookBy e5) (fun _ => rfl) rfl (Nat.le_of_ble_eq_true rfl) (Nat.le_of_ble_eq_true rfl) ⟨show 0 + 0 + 3 ≤ 3 by omega, show 0 + 0 + 98304 ≤ 98304 by omega⟩ (Nat.le_of_ble_eq_true rfl) ?_
    refine a_if h (fun c7 hz => ?_) (fun c7 h => ?_)
    · skip
      subst c7
      have h := hz
      refine a_gd h (fun c8 h => ?_)
      refine bn_s h (fun r9 σ11 e10 h => ?_)
      refine a_callVI dX8_value_13 mX8_valueNow KX8 rfl kv_X8_valueNow ks_X8_valueNow rfl km_RX8_225 rfl (T_X8_valueNow rfl rfl (sh_P c8) (sh_V c8) (sh_W c8) e10) (fun _ => rfl) rfl (Nat.le_of_ble_eq_true rfl) (Nat.le_of_ble_eq_true rfl) ⟨show 0 + 0 + 3 + 0 ≤ 3 by omega, show 0 + 0 + 98304 + 0 ≤ 98304 by omega⟩ (Nat.le_of_ble_eq_true rfl) ?_
      refine a_goto 20 dX8_value_16 (by decide) ?_
      refine a_widen (k' := 3) (n' := 98304) (by omega) (by omega) ?_
      exact a_iret dX8_value_20 rfl (p_1 h) (p_T (p_2 h))
    · skip
      refine a_if h (fun c12 hz => ?_) (fun c12 h => ?_)
      · skip
        subst c12
        have h := hz
        refine a_gd h (fun c13 h => ?_)
        refine bn_s h (fun r14 σ16 e15 h => ?_)
        refine a_callVI dX8_value_13 mX8_valueNow KX8 rfl kv_X8_valueNow ks_X8_valueNow rfl km_RX8_225 rfl (T_X8_valueNow rfl rfl (sh_P c13) (sh_V c13) (sh_W c13) e15) (fun _ => rfl) rfl (Nat.le_of_ble_eq_true rfl) (Nat.le_of_ble_eq_true rfl) ⟨show 0 + 0 + 3 + 0 ≤ 3 by omega, show 0 + 0 + 98304 + 0 ≤ 98304 by omega⟩ (Nat.le_of_ble_eq_true rfl) ?_
        refine a_goto 20 dX8_value_16 (by decide) ?_
        refine a_widen (k' := 3) (n' := 98304) (by omega) (by omega) ?_
        exact a_iret dX8_value_20 rfl (p_1 h) (p_T (p_2 h))
      · skip
        cases h

def X8_choice (F : Nat) (q_0 : qT) (x_0 : List Nat) (σ : sM) (a1 : Int) : Option (Int × qT × List Nat × sM) := bp (X8_isRule σ a1) (fun r1 => if wi r1 = 0 then some ((-1), (q_0, x_0, σ)) else bn (X8_choiceNow F q_0 x_0 σ a1) (fun r4 σ6 => some (r4, (σ6.1, σ6.2.1, σ6.2.2))))
set_option maxRecDepth 100000 in
set_option maxHeartbeats 400000 in
theorem T_X8_choice {G : sG} {q_0 : qT} {x_0 : List Nat} {σ : sM} {t_0 : qT × List Nat × sM} {r_0 : Int} {a1 : Int} {F : Nat} (h : X8_choice F q_0 x_0 σ a1 = some (r_0, t_0)) : aM G yX8_choice cX8_choice 2 (some .int) 102 3 98304 [.ref (gP G 0), vI a1] (mkSh q_0 x_0, σ) (r_0, (mkSh t_0.1 t_0.2.1, t_0.2.2)) := by
  unfold X8_choice at h
  refine aM_of (by decide) (Nat.le_of_ble_eq_true rfl) ?_
  show aW G cX8_choice RX8 "choice" 2 (some .int) _ _ aX 0 0 _ [(0, .ref (gP G 0)), (1, vI a1)] 0 []
  refine a_iload_n 1 dX8_choice_0 rfl ?_
  refine bp_s h (fun r1 e2 h => ?_)
  refine a_callSI dX8_choice_1 mX8_isRule kv_X8_isRule km_RX8_218 rfl (T_X8_isRule e2) (fun _ => rfl) rfl (Nat.le_of_ble_eq_true rfl) (Nat.le_of_ble_eq_true rfl) ⟨show 0 + 0 ≤ 3 by omega, show 0 + 0 ≤ 98304 by omega⟩ (Nat.le_of_ble_eq_true rfl) ?_
  refine a_if_eq 15 dX8_choice_4 (by decide) rfl h (fun c3 h => ?_) (fun c3 h => ?_)
  · skip
    refine a_iconst dX8_choice_15 ?_
    refine a_widen (k' := 3) (n' := 98304) (by omega) (by omega) ?_
    exact a_iret dX8_choice_16 rfl (p_1 h) (p_T (p_2 h))
  · skip
    refine a_aload_n 0 dX8_choice_7 rfl ?_
    refine a_iload_n 1 dX8_choice_8 rfl ?_
    refine bn_s h (fun r4 σ6 e5 h => ?_)
    refine a_callVI dX8_choice_9 mX8_choiceNow KX8 rfl kv_X8_choiceNow ks_X8_choiceNow rfl km_RX8_241 rfl (T_X8_choiceNow e5) (fun _ => rfl) rfl (Nat.le_of_ble_eq_true rfl) (Nat.le_of_ble_eq_true rfl) ⟨show 0 + 0 + 3 ≤ 3 by omega, show 0 + 0 + 98304 ≤ 98304 by omega⟩ (Nat.le_of_ble_eq_true rfl) ?_
    refine a_goto 16 dX8_choice_12 (by decide) ?_
    refine a_widen (k' := 3) (n' := 98304) (by omega) (by omega) ?_
    exact a_iret dX8_choice_16 rfl (p_1 h) (p_T (p_2 h))

def X8_blind (F : Nat) (σ : sM) (a1 : Int) : Option (Int × sM) := if (-2) ≤ wi a1 then bn (X0_lookFrom F σ) (fun r2 σ4 => if ¬ wi a1 = (-1) then if ¬ wi a1 = (-2) then if wi (σ4 37 9) ≤ wi a1 then some ((-1000000), σ4) else bp (X0_codeAt σ4 a1) (fun r8 => some (r8, σ4)) else some (σ4 37 9, σ4) else some (σ4 37 8, σ4)) else some ((-1000000), σ)
set_option maxRecDepth 100000 in
set_option maxHeartbeats 400000 in
theorem T_X8_blind {G : sG} {q_0 : qT} {x_0 : List Nat} {σ s_0 : sM} {r_0 : Int} {a1 : Int} {F : Nat}  (h : X8_blind F σ a1 = some (r_0, s_0)) : aM G yX8_blind cX8_blind 2 (some .int) 34 0 0 [.ref (gP G 0), vI a1] (mkSh q_0 x_0, σ) (r_0, (mkSh q_0 x_0, s_0)) := by
  unfold X8_blind at h
  refine aM_of (by decide) (Nat.le_of_ble_eq_true rfl) ?_
  show aW G cX8_blind RX8 "blind" 2 (some .int) _ _ aX 0 0 _ [(0, .ref (gP G 0)), (1, vI a1)] 0 []
  refine a_iload_n 1 dX8_blind_0 rfl ?_
  refine a_bipush dX8_blind_1 (by decide) ?_
  refine a_icmp_ge 9 dX8_blind_3 (by decide) rfl (by decide) h (fun c1 h => ?_) (fun c1 h => ?_)
  · skip
    refine a_aload_n 0 dX8_blind_9 rfl ?_
    refine a_getR (j := 10) dX8_blind_10 KX8 rfl (by decide) rfl kf_RX8_64 ?_
    refine a_aload_n 0 dX8_blind_13 rfl ?_
    refine a_getR (j := 5) dX8_blind_14 KX8 rfl (by decide) rfl kf_RX8_39 ?_
    refine bn_s h (fun r2 σ4 e3 h => ?_)
    refine a_callVV dX8_blind_17 mX0_lookFrom KX0 rfl kv_X0_lookFrom ks_X0_lookFrom rfl km_RX8_251 rfl (T_X0_lookFrom e3) (fun _ => rfl) rfl (Nat.le_of_ble_eq_true rfl) (Nat.le_of_ble_eq_true rfl) ⟨(Nat.le_of_ble_eq_true rfl), (Nat.le_of_ble_eq_true rfl)⟩ (Nat.le_of_ble_eq_true rfl) ?_
    refine a_iload_n 1 dX8_blind_20 rfl ?_
    refine a_iconst dX8_blind_21 ?_
    refine a_icmp_ne 33 dX8_blind_22 (by decide) rfl (by decide) h (fun c5 h => ?_) (fun c5 h => ?_)
    · skip
      refine a_iload_n 1 dX8_blind_33 rfl ?_
      refine a_bipush dX8_blind_34 (by decide) ?_
      refine a_icmp_ne 47 dX8_blind_36 (by decide) rfl (by decide) h (fun c6 h => ?_) (fun c6 h => ?_)
      · skip
        refine a_iload_n 1 dX8_blind_47 rfl ?_
        refine a_aload_n 0 dX8_blind_48 rfl ?_
        refine a_getR (j := 10) dX8_blind_49 KX8 rfl (by decide) rfl kf_RX8_64 ?_
        refine a_getIN (j := 9) dX8_blind_52 KX0 rfl (by decide) rfl kf_RX8_257 ?_
        refine a_icmp_ge 69 dX8_blind_55 (by decide) rfl rfl h (fun c7 h => ?_) (fun c7 h => ?_)
        · skip
          refine a_ldc (z := -1000000) dX8_blind_69 kc_RX8_247 (by decide) ?_
          exact a_iret dX8_blind_71 rfl (p_1 h) (p_S (p_2 h))
        · skip
          refine a_aload_n 0 dX8_blind_58 rfl ?_
          refine a_getR (j := 10) dX8_blind_59 KX8 rfl (by decide) rfl kf_RX8_64 ?_
          refine a_iload_n 1 dX8_blind_62 rfl ?_
          refine bp_s h (fun r8 e9 h => ?_)
          refine a_callVI dX8_blind_63 mX0_codeAt KX0 rfl kv_X0_codeAt ks_X0_codeAt rfl km_RX8_260 rfl (T_X0_codeAt e9) (fun _ => rfl) rfl (Nat.le_of_ble_eq_true rfl) (Nat.le_of_ble_eq_true rfl) ⟨(Nat.le_of_ble_eq_true rfl), (Nat.le_of_ble_eq_true rfl)⟩ (Nat.le_of_ble_eq_true rfl) ?_
          refine a_goto 71 dX8_blind_66 (by decide) ?_
          exact a_iret dX8_blind_71 rfl (p_1 h) (p_S (p_2 h))
      · skip
        refine a_aload_n 0 dX8_blind_39 rfl ?_
        refine a_getR (j := 10) dX8_blind_40 KX8 rfl (by decide) rfl kf_RX8_64 ?_
        refine a_getIN (j := 9) dX8_blind_43 KX0 rfl (by decide) rfl kf_RX8_257 ?_
        exact a_iret dX8_blind_46 rfl (p_1 h) (p_S (p_2 h))
    · skip
      refine a_aload_n 0 dX8_blind_25 rfl ?_
      refine a_getR (j := 10) dX8_blind_26 KX8 rfl (by decide) rfl kf_RX8_64 ?_
      refine a_getIN (j := 8) dX8_blind_29 KX0 rfl (by decide) rfl kf_RX8_255 ?_
      exact a_iret dX8_blind_32 rfl (p_1 h) (p_S (p_2 h))
  · skip
    refine a_ldc (z := -1000000) dX8_blind_6 kc_RX8_247 (by decide) ?_
    exact a_iret dX8_blind_8 rfl (p_1 h) (p_S (p_2 h))

def X8_know (F : Nat) (q_0 : qT) (x_0 : List Nat) (σ : sM) : Option (Int × qT × List Nat × sM) := bn (X0_lookFrom F σ) (fun r1 σ3 => bn (X8_outlookBy q_0 x_0 σ3 4) (fun r4 σ6 => if r4 = 29 then if okO σ6.1.1 σ6.1.2.1 σ6.1.2.2.1 σ6.2.1 = true then bn (X8_valueNow F 29 σ6.1.1 σ6.1.2.1 σ6.1.2.2.1 (lnA σ6.1.1 σ6.2.1) σ6.2.2) (fun r9 σ11 => some (r9 - (σ11 37 8), (σ6.1, σ6.2.1, σ11))) else none else if r4 = 33 then if okO σ6.1.2.2.2.1 σ6.1.2.2.2.2.1 σ6.1.2.2.2.2.2 σ6.2.1 = true then bn (X8_valueNow F 33 σ6.1.2.2.2.1 σ6.1.2.2.2.2.1 σ6.1.2.2.2.2.2 (lnA σ6.1.2.2.2.1 σ6.2.1) σ6.2.2) (fun r14 σ16 => some (r14 - (σ16 37 8), (σ6.1, σ6.2.1, σ16))) else none else none))
set_option maxRecDepth 100000 in
set_option maxHeartbeats 400000 in
theorem T_X8_know {G : sG} {q_0 : qT} {x_0 : List Nat} {σ : sM} {t_0 : qT × List Nat × sM} {r_0 : Int} {F : Nat} (h : X8_know F q_0 x_0 σ = some (r_0, t_0)) : aM G yX8_know cX8_know 1 (some .int) 102 3 98304 [.ref (gP G 0)] (mkSh q_0 x_0, σ) (r_0, (mkSh t_0.1 t_0.2.1, t_0.2.2)) := by
  unfold X8_know at h
  refine aM_of (by decide) (Nat.le_of_ble_eq_true rfl) ?_
  show aW G cX8_know RX8 "know" 1 (some .int) _ _ aX 0 0 _ [(0, .ref (gP G 0))] 0 []
  refine a_aload_n 0 dX8_know_0 rfl ?_
  refine a_getR (j := 10) dX8_know_1 KX8 rfl (by decide) rfl kf_RX8_64 ?_
  refine a_aload_n 0 dX8_know_4 rfl ?_
  refine a_getR (j := 5) dX8_know_5 KX8 rfl (by decide) rfl kf_RX8_39 ?_
  refine bn_s h (fun r1 σ3 e2 h => ?_)
  refine a_callVV dX8_know_8 mX0_lookFrom KX0 rfl kv_X0_lookFrom ks_X0_lookFrom rfl km_RX8_251 rfl (T_X0_lookFrom e2) (fun _ => rfl) rfl (Nat.le_of_ble_eq_true rfl) (Nat.le_of_ble_eq_true rfl) ⟨show 0 + 0 ≤ 3 by omega, show 0 + 0 ≤ 98304 by omega⟩ (Nat.le_of_ble_eq_true rfl) ?_
  refine a_aload_n 0 dX8_know_11 rfl ?_
  refine a_aload_n 0 dX8_know_12 rfl ?_
  refine a_iconst dX8_know_13 ?_
  refine bn_s h (fun r4 σ6 e5 h => ?_)
  refine a_callVR dX8_know_14 mX8_outlookBy KX8 rfl kv_X8_outlookBy ks_X8_outlookBy rfl km_RX8_221 rfl (T_X8_outlookBy e5) (fun _ => rfl) rfl (Nat.le_of_ble_eq_true rfl) (Nat.le_of_ble_eq_true rfl) ⟨show 0 + 0 + 3 ≤ 3 by omega, show 0 + 0 + 98304 ≤ 98304 by omega⟩ (Nat.le_of_ble_eq_true rfl) ?_
  refine a_if h (fun c7 hz => ?_) (fun c7 h => ?_)
  · skip
    subst c7
    have h := hz
    refine a_gd h (fun c8 h => ?_)
    refine bn_s h (fun r9 σ11 e10 h => ?_)
    refine a_callVI dX8_know_17 mX8_valueNow KX8 rfl kv_X8_valueNow ks_X8_valueNow rfl km_RX8_225 rfl (T_X8_valueNow rfl rfl (sh_P c8) (sh_V c8) (sh_W c8) e10) (fun _ => rfl) rfl (Nat.le_of_ble_eq_true rfl) (Nat.le_of_ble_eq_true rfl) ⟨show 0 + 0 + 3 + 0 ≤ 3 by omega, show 0 + 0 + 98304 + 0 ≤ 98304 by omega⟩ (Nat.le_of_ble_eq_true rfl) ?_
    refine a_aload_n 0 dX8_know_20 rfl ?_
    refine a_getR (j := 10) dX8_know_21 KX8 rfl (by decide) rfl kf_RX8_64 ?_
    refine a_getIN (j := 8) dX8_know_24 KX0 rfl (by decide) rfl kf_RX8_255 ?_
    refine a_isub dX8_know_27 ?_
    refine a_widen (k' := 3) (n' := 98304) (by omega) (by omega) ?_
    exact a_iret dX8_know_28 rfl (p_1 h) (p_T (p_2 h))
  · skip
    refine a_if h (fun c12 hz => ?_) (fun c12 h => ?_)
    · skip
      subst c12
      have h := hz
      refine a_gd h (fun c13 h => ?_)
      refine bn_s h (fun r14 σ16 e15 h => ?_)
      refine a_callVI dX8_know_17 mX8_valueNow KX8 rfl kv_X8_valueNow ks_X8_valueNow rfl km_RX8_225 rfl (T_X8_valueNow rfl rfl (sh_P c13) (sh_V c13) (sh_W c13) e15) (fun _ => rfl) rfl (Nat.le_of_ble_eq_true rfl) (Nat.le_of_ble_eq_true rfl) ⟨show 0 + 0 + 3 + 0 ≤ 3 by omega, show 0 + 0 + 98304 + 0 ≤ 98304 by omega⟩ (Nat.le_of_ble_eq_true rfl) ?_
      refine a_aload_n 0 dX8_know_20 rfl ?_
      refine a_getR (j := 10) dX8_know_21 KX8 rfl (by decide) rfl kf_RX8_64 ?_
      refine a_getIN (j := 8) dX8_know_24 KX0 rfl (by decide) rfl kf_RX8_255 ?_
      refine a_isub dX8_know_27 ?_
      refine a_widen (k' := 3) (n' := 98304) (by omega) (by omega) ?_
      exact a_iret dX8_know_28 rfl (p_1 h) (p_T (p_2 h))
    · skip
      cases h

def X4_readAll (F : Nat) (σ : sM) (a1 : Int) : Option (Int × sM) := nm (sU σ 22 5 (if wi 0 < wi (if wi 400 < wi a1 then 400 else a1) then (if wi 400 < wi a1 then 400 else a1) else 0)) (fun σ1 => bn (X4_cutUp F σ1) (fun r3 σ5 => bn (X1_becomeEmpty F σ5) (fun r6 σ8 => bn (X4_lookAt σ8 0) (fun r9 σ11 => lp (fun K13 (q12 : sM × Int) => jn (fun q14 : sM => if 0 ≤ wi (q14 22 6) ∧ wi (q14 22 6) < 401 then some ((-10) - (q14 25 (wi (q14 22 6)).toNat), q14) else none) (fun K15 => if 400 ≤ wi q12.2 then K15 q12.1 else if ¬ wi (q12.1 22 7) = 0 then jn (fun q19 : Int => bn (X4_readItem F q12.1 q19) (fun r21 σ23 => if ¬ wi r21 = 0 then K13 (σ23, q12.2 + 1) else K15 σ23)) (fun K20 => if ¬ wi q12.2 = 0 then K20 0 else K20 1) else some (q12.2, q12.1))) F (σ11, 0)))))
set_option maxRecDepth 100000 in
set_option maxHeartbeats 400000 in
theorem T_X4_readAll {G : sG} {q_0 : qT} {x_0 : List Nat} {σ s_0 : sM} {r_0 : Int} {a1 : Int} {F : Nat}  (h : X4_readAll F σ a1 = some (r_0, s_0)) : aM G yX4_readAll cX4_readAll 3 (some .int) 8 0 0 [.ref (gP G 22), vI a1] (mkSh q_0 x_0, σ) (r_0, (mkSh q_0 x_0, s_0)) := by
  unfold X4_readAll at h
  refine aM_of (by decide) (Nat.le_of_ble_eq_true rfl) ?_
  show aW G cX4_readAll RX4 "readAll" 3 (some .int) _ _ aX 0 0 _ [(0, .ref (gP G 22)), (1, vI a1)] 0 []
  refine a_aload_n 0 dX4_readAll_0 rfl ?_
  refine a_iconst dX4_readAll_1 ?_
  refine a_iload_n 1 dX4_readAll_2 rfl ?_
  refine a_sipush dX4_readAll_3 (by decide) ?_
  refine a_mmin dX4_readAll_6 km_RX4_42 kv_J9_min_7cf53 ki_RJ9 kx_min ⟨Nat.le_of_ble_eq_true rfl, Nat.le_of_ble_eq_true rfl⟩ ⟨Nat.zero_le _, Nat.zero_le _⟩ (Nat.le_of_ble_eq_true rfl) ?_
  refine a_mmax dX4_readAll_9 km_RX4_48 kv_J9_max_7cf53 ki_RJ9 kx_max ⟨Nat.le_of_ble_eq_true rfl, Nat.le_of_ble_eq_true rfl⟩ ⟨Nat.zero_le _, Nat.zero_le _⟩ (Nat.le_of_ble_eq_true rfl) ?_
  refine a_putI (j := 5) dX4_readAll_12 KX4 rfl (by decide) rfl rfl rfl kf_RX4_21 ?_
  refine a_nmS h (fun σ1 w2 h => ?_)
  refine a_aload_n 0 dX4_readAll_15 rfl ?_
  refine bn_s h (fun r3 σ5 e4 h => ?_)
  refine a_callVV dX4_readAll_16 mX4_cutUp KX4 rfl kv_X4_cutUp ks_X4_cutUp rfl km_RX4_51 rfl (T_X4_cutUp e4) (fun _ => rfl) rfl (Nat.le_of_ble_eq_true rfl) (Nat.le_of_ble_eq_true rfl) ⟨(Nat.le_of_ble_eq_true rfl), (Nat.le_of_ble_eq_true rfl)⟩ (Nat.le_of_ble_eq_true rfl) ?_
  refine a_aload_n 0 dX4_readAll_19 rfl ?_
  refine a_getR (j := 1) dX4_readAll_20 KX4 rfl (by decide) rfl kf_RX4_38 ?_
  refine bn_s h (fun r6 σ8 e7 h => ?_)
  refine a_callVV dX4_readAll_23 mX1_becomeEmpty KX1 rfl kv_X1_becomeEmpty ks_X1_becomeEmpty rfl km_RX4_54 rfl (T_X1_becomeEmpty e7) (fun _ => rfl) rfl (Nat.le_of_ble_eq_true rfl) (Nat.le_of_ble_eq_true rfl) ⟨(Nat.le_of_ble_eq_true rfl), (Nat.le_of_ble_eq_true rfl)⟩ (Nat.le_of_ble_eq_true rfl) ?_
  refine a_aload_n 0 dX4_readAll_26 rfl ?_
  refine a_iconst dX4_readAll_27 ?_
  refine bn_s h (fun r9 σ11 e10 h => ?_)
  refine a_callVV dX4_readAll_28 mX4_lookAt KX4 rfl kv_X4_lookAt ks_X4_lookAt rfl km_RX4_59 rfl (T_X4_lookAt e10) (fun _ => rfl) rfl (Nat.le_of_ble_eq_true rfl) (Nat.le_of_ble_eq_true rfl) ⟨(Nat.le_of_ble_eq_true rfl), (Nat.le_of_ble_eq_true rfl)⟩ (Nat.le_of_ble_eq_true rfl) ?_
  refine a_iconst dX4_readAll_31 ?_
  refine a_istore_n (L' := [(2, vI 0), (0, .ref (gP G 22)), (1, vI a1)]) dX4_readAll_32 (by decide) rfl ?_
  refine a_sub (L' := [(0, .ref (gP G 22)), (2, vI 0)]) [1, 0] rfl (lp_s (x := (σ11, 0)) (fun q12 : sM × Int => aW G cX4_readAll RX4 "readAll" 3 (some .int) (sR 8 0 0) (aQ G (some .int) 0 0 (r_0, (mkSh q_0 x_0, s_0))) aX 0 0 (mkSh q_0 x_0, q12.1) [(0, .ref (gP G 22)), (2, vI q12.2)] 33 []) h (fun K13 hK13 q12 h => ?_))
  refine a_iload_n 1 dX4_readAll_33 rfl ?_
  refine a_sipush dX4_readAll_34 (by decide) ?_
  refine jn_s (fun q14 : sM => aW G cX4_readAll RX4 "readAll" 3 (some .int) (sR 8 0 0) (aQ G (some .int) 0 0 (r_0, (mkSh q_0 x_0, s_0))) aX 0 0 (mkSh q_0 x_0, q14) [(0, .ref (gP G 22))] 74 []) h (fun q14 h => ?_) (fun K15 hK15 h => ?_)
  · skip
    refine a_bipush dX4_readAll_74 (by decide) ?_
    refine a_aload_n 0 dX4_readAll_76 rfl ?_
    refine a_getR (j := 4) dX4_readAll_77 KX4 rfl (by decide) rfl kf_RX4_18 ?_
    refine a_aload_n 0 dX4_readAll_80 rfl ?_
    refine a_getI (j := 6) dX4_readAll_81 KX4 rfl (by decide) rfl kf_RX4_25 ?_
    refine a_gd h (fun c16 h => ?_)
    refine a_iald (x' := wi (q14 22 6)) dX4_readAll_84 rfl rfl c16 rfl ?_
    refine a_isub dX4_readAll_85 ?_
    exact a_iret dX4_readAll_86 rfl (p_1 h) (p_S (p_2 h))
  · skip
    refine a_icmp_ge 74 dX4_readAll_37 (by decide) rfl (by decide) h (fun c17 h => ?_) (fun c17 h => ?_)
    · skip
      have hh := hK15 _ h
      exact a_sub [0] rfl hh
    · skip
      refine a_aload_n 0 dX4_readAll_40 rfl ?_
      refine a_getI (j := 7) dX4_readAll_41 KX4 rfl (by decide) rfl kf_RX4_28 ?_
      refine a_if_ne 49 dX4_readAll_44 (by decide) rfl h (fun c18 h => ?_) (fun c18 h => ?_)
      · skip
        refine a_aload_n 0 dX4_readAll_49 rfl ?_
        refine a_iload_n 1 dX4_readAll_50 rfl ?_
        refine jn_s (fun q19 : Int => aW G cX4_readAll RX4 "readAll" 3 (some .int) (sR 8 0 0) (aQ G (some .int) 0 0 (r_0, (mkSh q_0 x_0, s_0))) aX 0 0 (mkSh q_0 x_0, q12.1) [(0, .ref (gP G 22)), (2, vI q12.2)] 59 [vI q19, .ref (gP G 22)]) h (fun q19 h => ?_) (fun K20 hK20 h => ?_)
        · skip
          refine bn_s h (fun r21 σ23 e22 h => ?_)
          refine a_callVI dX4_readAll_59 mX4_readItem KX4 rfl kv_X4_readItem ks_X4_readItem rfl km_RX4_63 rfl (T_X4_readItem e22) (fun _ => rfl) rfl (Nat.le_of_ble_eq_true rfl) (Nat.le_of_ble_eq_true rfl) ⟨(Nat.le_of_ble_eq_true rfl), (Nat.le_of_ble_eq_true rfl)⟩ (Nat.le_of_ble_eq_true rfl) ?_
          refine a_if_ne 68 dX4_readAll_62 (by decide) rfl h (fun c24 h => ?_) (fun c24 h => ?_)
          · skip
            refine a_iinc (L' := [(2, vI (q12.2 + 1)), (0, .ref (gP G 22))]) 1 dX4_readAll_68 rfl (by decide) rfl ?_
            refine a_goto 33 dX4_readAll_71 (by decide) ?_
            have hh := hK13 _ h
            exact a_sub [1, 0] rfl hh
          · skip
            refine a_goto 74 dX4_readAll_65 (by decide) ?_
            have hh := hK15 _ h
            exact a_sub [0] rfl hh
        · skip
          refine a_if_ne 58 dX4_readAll_51 (by decide) rfl h (fun c25 h => ?_) (fun c25 h => ?_)
          · skip
            refine a_iconst dX4_readAll_58 ?_
            have hh := hK20 _ h
            exact a_sub [0, 1] rfl hh
          · skip
            refine a_iconst dX4_readAll_54 ?_
            refine a_goto 59 dX4_readAll_55 (by decide) ?_
            have hh := hK20 _ h
            exact a_sub [0, 1] rfl hh
      · skip
        refine a_iload_n 1 dX4_readAll_47 rfl ?_
        exact a_iret dX4_readAll_48 rfl (p_1 h) (p_S (p_2 h))

def X8_cellar (F : Nat) (σ : sM) : Option (Int × sM) := bn (X4_readAll F σ (σ 0 1)) (fun r1 σ3 => if 0 ≤ wi r1 then bn (X1_becomeLike F (sU σ3 0 1 0)) (fun r5 σ7 => bp (X1_startStand F σ7) (fun r8 => bn (X7_beginAnew σ7 r8) (fun r10 σ12 => bn (X6_beginAnew F (sU (sU σ12 27 7 0) 28 7 0) 0) (fun r13 σ15 => bn (X3_forgetAll F 29 σ15) (fun r16 σ18 => bn (X3_forgetAll F 33 σ18) (fun r19 σ21 => bn (X0_forgetAll σ21) (fun r22 σ24 => some (r1, σ24)))))))) else some (r1, σ3))
set_option maxRecDepth 100000 in
set_option maxHeartbeats 400000 in
theorem T_X8_cellar {G : sG} {q_0 : qT} {x_0 : List Nat} {σ s_0 : sM} {r_0 : Int} {F : Nat}  (h : X8_cellar F σ = some (r_0, s_0)) : aM G yX8_cellar cX8_cellar 2 (some .int) 9 0 0 [.ref (gP G 0)] (mkSh q_0 x_0, σ) (r_0, (mkSh q_0 x_0, s_0)) := by
  unfold X8_cellar at h
  refine aM_of (by decide) (Nat.le_of_ble_eq_true rfl) ?_
  show aW G cX8_cellar RX8 "cellar" 2 (some .int) _ _ aX 0 0 _ [(0, .ref (gP G 0))] 0 []
  refine a_aload_n 0 dX8_cellar_0 rfl ?_
  refine a_getR (j := 4) dX8_cellar_1 KX8 rfl (by decide) rfl kf_RX8_32 ?_
  refine a_aload_n 0 dX8_cellar_4 rfl ?_
  refine a_getI (j := 1) dX8_cellar_5 KX8 rfl (by decide) rfl kf_RX8_13 ?_
  refine bn_s h (fun r1 σ3 e2 h => ?_)
  refine a_callVI dX8_cellar_8 mX4_readAll KX4 rfl kv_X4_readAll ks_X4_readAll rfl km_RX8_92 rfl (T_X4_readAll e2) (fun _ => rfl) rfl (Nat.le_of_ble_eq_true rfl) (Nat.le_of_ble_eq_true rfl) ⟨(Nat.le_of_ble_eq_true rfl), (Nat.le_of_ble_eq_true rfl)⟩ (Nat.le_of_ble_eq_true rfl) ?_
  refine a_istore_n (L' := [(1, vI r1), (0, .ref (gP G 0))]) dX8_cellar_11 (by decide) rfl ?_
  refine a_iload_n 0 dX8_cellar_12 rfl ?_
  refine a_if_ge 18 dX8_cellar_13 (by decide) rfl h (fun c4 h => ?_) (fun c4 h => ?_)
  · skip
    refine a_aload_n 1 dX8_cellar_18 rfl ?_
    refine a_iconst dX8_cellar_19 ?_
    refine a_putI (j := 1) dX8_cellar_20 KX8 rfl (by decide) rfl rfl rfl kf_RX8_13 ?_
    refine a_aload_n 1 dX8_cellar_23 rfl ?_
    refine a_getR (j := 2) dX8_cellar_24 KX8 rfl (by decide) rfl kf_RX8_20 ?_
    refine a_aload_n 1 dX8_cellar_27 rfl ?_
    refine a_getR (j := 3) dX8_cellar_28 KX8 rfl (by decide) rfl kf_RX8_24 ?_
    refine bn_s h (fun r5 σ7 e6 h => ?_)
    refine a_callVV dX8_cellar_31 mX1_becomeLike KX1 rfl kv_X1_becomeLike ks_X1_becomeLike rfl km_RX8_96 rfl (T_X1_becomeLike e6) (fun _ => rfl) rfl (Nat.le_of_ble_eq_true rfl) (Nat.le_of_ble_eq_true rfl) ⟨(Nat.le_of_ble_eq_true rfl), (Nat.le_of_ble_eq_true rfl)⟩ (Nat.le_of_ble_eq_true rfl) ?_
    refine a_aload_n 1 dX8_cellar_34 rfl ?_
    refine a_getR (j := 5) dX8_cellar_35 KX8 rfl (by decide) rfl kf_RX8_39 ?_
    refine a_aload_n 1 dX8_cellar_38 rfl ?_
    refine a_getR (j := 2) dX8_cellar_39 KX8 rfl (by decide) rfl kf_RX8_20 ?_
    refine bp_s h (fun r8 e9 h => ?_)
    refine a_callVI dX8_cellar_42 mX1_startStand KX1 rfl kv_X1_startStand ks_X1_startStand rfl km_RX8_99 rfl (T_X1_startStand e9) (fun _ => rfl) rfl (Nat.le_of_ble_eq_true rfl) (Nat.le_of_ble_eq_true rfl) ⟨(Nat.le_of_ble_eq_true rfl), (Nat.le_of_ble_eq_true rfl)⟩ (Nat.le_of_ble_eq_true rfl) ?_
    refine bn_s h (fun r10 σ12 e11 h => ?_)
    refine a_callVV dX8_cellar_45 mX7_beginAnew KX7 rfl kv_X7_beginAnew ks_X7_beginAnew rfl km_RX8_103 rfl (T_X7_beginAnew e11) (fun _ => rfl) rfl (Nat.le_of_ble_eq_true rfl) (Nat.le_of_ble_eq_true rfl) ⟨(Nat.le_of_ble_eq_true rfl), (Nat.le_of_ble_eq_true rfl)⟩ (Nat.le_of_ble_eq_true rfl) ?_
    refine a_aload_n 1 dX8_cellar_48 rfl ?_
    refine a_getR (j := 6) dX8_cellar_49 KX8 rfl (by decide) rfl kf_RX8_43 ?_
    refine a_iconst dX8_cellar_52 ?_
    refine a_putZN (j := 7) dX8_cellar_53 KX7 rfl (by decide) rfl rfl rfl kf_RX8_107 (by decide) ?_
    refine a_aload_n 1 dX8_cellar_56 rfl ?_
    refine a_getR (j := 7) dX8_cellar_57 KX8 rfl (by decide) rfl kf_RX8_46 ?_
    refine a_iconst dX8_cellar_60 ?_
    refine a_putZN (j := 7) dX8_cellar_61 KX7 rfl (by decide) rfl rfl rfl kf_RX8_107 (by decide) ?_
    refine a_aload_n 1 dX8_cellar_64 rfl ?_
    refine a_getR (j := 12) dX8_cellar_65 KX8 rfl (by decide) rfl kf_RX8_78 ?_
    refine a_iconst dX8_cellar_68 ?_
    refine bn_s h (fun r13 σ15 e14 h => ?_)
    refine a_callVV dX8_cellar_69 mX6_beginAnew KX6 rfl kv_X6_beginAnew ks_X6_beginAnew rfl km_RX8_111 rfl (T_X6_beginAnew e14) (fun _ => rfl) rfl (Nat.le_of_ble_eq_true rfl) (Nat.le_of_ble_eq_true rfl) ⟨(Nat.le_of_ble_eq_true rfl), (Nat.le_of_ble_eq_true rfl)⟩ (Nat.le_of_ble_eq_true rfl) ?_
    refine a_aload_n 1 dX8_cellar_72 rfl ?_
    refine a_getR (j := 8) dX8_cellar_73 KX8 rfl (by decide) rfl kf_RX8_54 ?_
    refine bn_s h (fun r16 σ18 e17 h => ?_)
    refine a_callVV dX8_cellar_76 mX3_forgetAll KX3 rfl kv_X3_forgetAll ks_X3_forgetAll rfl km_RX8_112 rfl (T_X3_forgetAll rfl rfl e17) (fun _ => rfl) rfl (Nat.le_of_ble_eq_true rfl) (Nat.le_of_ble_eq_true rfl) ⟨(Nat.le_of_ble_eq_true rfl), (Nat.le_of_ble_eq_true rfl)⟩ (Nat.le_of_ble_eq_true rfl) ?_
    refine a_aload_n 1 dX8_cellar_79 rfl ?_
    refine a_getR (j := 9) dX8_cellar_80 KX8 rfl (by decide) rfl kf_RX8_58 ?_
    refine bn_s h (fun r19 σ21 e20 h => ?_)
    refine a_callVV dX8_cellar_83 mX3_forgetAll KX3 rfl kv_X3_forgetAll ks_X3_forgetAll rfl km_RX8_112 rfl (T_X3_forgetAll rfl rfl e20) (fun _ => rfl) rfl (Nat.le_of_ble_eq_true rfl) (Nat.le_of_ble_eq_true rfl) ⟨(Nat.le_of_ble_eq_true rfl), (Nat.le_of_ble_eq_true rfl)⟩ (Nat.le_of_ble_eq_true rfl) ?_
    refine a_aload_n 1 dX8_cellar_86 rfl ?_
    refine a_getR (j := 10) dX8_cellar_87 KX8 rfl (by decide) rfl kf_RX8_64 ?_
    refine bn_s h (fun r22 σ24 e23 h => ?_)
    refine a_callVV dX8_cellar_90 mX0_forgetAll KX0 rfl kv_X0_forgetAll ks_X0_forgetAll rfl km_RX8_115 rfl (T_X0_forgetAll e23) (fun _ => rfl) rfl (Nat.le_of_ble_eq_true rfl) (Nat.le_of_ble_eq_true rfl) ⟨(Nat.le_of_ble_eq_true rfl), (Nat.le_of_ble_eq_true rfl)⟩ (Nat.le_of_ble_eq_true rfl) ?_
    refine a_iload_n 0 dX8_cellar_93 rfl ?_
    exact a_iret dX8_cellar_94 rfl (p_1 h) (p_S (p_2 h))
  · skip
    refine a_iload_n 0 dX8_cellar_16 rfl ?_
    exact a_iret dX8_cellar_17 rfl (p_1 h) (p_S (p_2 h))

