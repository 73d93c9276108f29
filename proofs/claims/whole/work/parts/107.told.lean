def X3_rankOf (o0 o0P o0V o0W o0n : Nat) (σ : sM) (a1 a2 : Int) : Option Int := if wi (σ o0 1) = 1 then bp (X8_stepOf σ a1 a2) (fun r2 => some r2) else if wi (σ o0 1) = 2 then bp (X1_goodNow σ a1 a2) (fun r5 => some (-r5)) else if wi (σ o0 1) = 3 then bp (X1_goodNow σ a1 a2) (fun r8 => some r8) else some 0
set_option maxRecDepth 100000 in
set_option maxHeartbeats 400000 in
theorem T_X3_rankOf {G : sG} {q_0 : qT} {x_0 : List Nat} {σ : sM} {r_0 : Int} {a1 a2 : Int} {o0 o0P o0V o0W o0n : Nat} (h_o0 : (mkSh q_0 x_0)[o0]? = some (.inl (3, [.ref 2, .int 0, .int 0, .ref (shC o0), .int 0, .long 0, .ref o0P, .ref o0V, .ref o0W]))) (g_o0S : (mkSh q_0 x_0)[shC o0]? = some (.inr (.int, 48, gN))) (g_o0P : (mkSh q_0 x_0)[o0P]? = some (.inr (.long, o0n, gN))) (g_o0V : (mkSh q_0 x_0)[o0V]? = some (.inr (.long, o0n, gN))) (g_o0W : (mkSh q_0 x_0)[o0W]? = some (.inr (.long, o0n, gN))) (h : X3_rankOf o0 o0P o0V o0W o0n σ a1 a2 = some r_0) : aM G yX3_rankOf cX3_rankOf 3 (some .int) 2 0 0 [.ref (gP G o0), vI a1, vI a2] (mkSh q_0 x_0, σ) (r_0, (mkSh q_0 x_0, σ)) := by
  unfold X3_rankOf at h
  refine aM_of (by decide) (Nat.le_of_ble_eq_true rfl) ?_
  show aW G cX3_rankOf RX3 "rankOf" 3 (some .int) _ _ aX 0 0 _ [(0, .ref (gP G o0)), (1, vI a1), (2, vI a2)] 0 []
  refine a_aload_n 0 dX3_rankOf_0 rfl ?_
  refine a_getI (j := 1) dX3_rankOf_1 KX3 h_o0 (by decide) rfl kf_RX3_9 ?_
  refine a_if h (fun c1 h => ?_) (fun c1 h => ?_)
  · skip
    refine a_tsIn (off := 28) 32 dX3_rankOf_4 c1 (by decide) (by decide) (by decide) ?_
    refine a_iload_n 1 dX3_rankOf_32 rfl ?_
    refine a_iload_n 2 dX3_rankOf_33 rfl ?_
    refine bp_s h (fun r2 e3 h => ?_)
    refine a_callSNI dX3_rankOf_34 mX8_stepOf kv_X8_stepOf km_RX3_57 rfl (T_X8_stepOf e3) (fun _ => rfl) rfl (Nat.le_of_ble_eq_true rfl) (Nat.le_of_ble_eq_true rfl) ⟨(Nat.le_of_ble_eq_true rfl), (Nat.le_of_ble_eq_true rfl)⟩ (Nat.le_of_ble_eq_true rfl) ?_
    exact a_iret dX3_rankOf_37 rfl (s_inj h) rfl
  · skip
    refine a_if h (fun c4 h => ?_) (fun c4 h => ?_)
    · skip
      refine a_tsIn (off := 34) 38 dX3_rankOf_4 c4 (by decide) (by decide) (by decide) ?_
      refine a_aload_n 0 dX3_rankOf_38 rfl ?_
      refine a_getR (j := 0) dX3_rankOf_39 KX3 h_o0 (by decide) rfl kf_RX3_39 ?_
      refine a_iload_n 1 dX3_rankOf_42 rfl ?_
      refine a_iload_n 2 dX3_rankOf_43 rfl ?_
      refine bp_s h (fun r5 e6 h => ?_)
      refine a_callVI dX3_rankOf_44 mX1_goodNow KX1 rfl kv_X1_goodNow ks_X1_goodNow rfl km_RX3_125 rfl (T_X1_goodNow e6) (fun _ => rfl) rfl (Nat.le_of_ble_eq_true rfl) (Nat.le_of_ble_eq_true rfl) ⟨(Nat.le_of_ble_eq_true rfl), (Nat.le_of_ble_eq_true rfl)⟩ (Nat.le_of_ble_eq_true rfl) ?_
      refine a_ineg dX3_rankOf_47 ?_
      exact a_iret dX3_rankOf_48 rfl (s_inj h) rfl
    · skip
      refine a_if h (fun c7 h => ?_) (fun c7 h => ?_)
      · skip
        refine a_tsIn (off := 45) 49 dX3_rankOf_4 c7 (by decide) (by decide) (by decide) ?_
        refine a_aload_n 0 dX3_rankOf_49 rfl ?_
        refine a_getR (j := 0) dX3_rankOf_50 KX3 h_o0 (by decide) rfl kf_RX3_39 ?_
        refine a_iload_n 1 dX3_rankOf_53 rfl ?_
        refine a_iload_n 2 dX3_rankOf_54 rfl ?_
        refine bp_s h (fun r8 e9 h => ?_)
        refine a_callVI dX3_rankOf_55 mX1_goodNow KX1 rfl kv_X1_goodNow ks_X1_goodNow rfl km_RX3_125 rfl (T_X1_goodNow e9) (fun _ => rfl) rfl (Nat.le_of_ble_eq_true rfl) (Nat.le_of_ble_eq_true rfl) ⟨(Nat.le_of_ble_eq_true rfl), (Nat.le_of_ble_eq_true rfl)⟩ (Nat.le_of_ble_eq_true rfl) ?_
        exact a_iret dX3_rankOf_58 rfl (s_inj h) rfl
      · skip
        refine a_tsOut (v := wi (σ o0 1)) 59 dX3_rankOf_4 rfl (by omega) (by decide) ?_
        refine a_iconst dX3_rankOf_59 ?_
        exact a_iret dX3_rankOf_60 rfl (s_inj h) rfl

def X3_mean (F : Nat) (rec : Nat → sM → Int → Int → Int → Option (Int × sM)) (o0 o0P o0V o0W o0n : Nat) (σ : sM) (a1 a2 a3 : Int) : Option (Int × sM) := jn (fun q1 : Unit => bp (X1_tenthsNow σ a2 (σ o0 2) 0 a1) (fun r3 => bp (X1_tenthsNow σ a2 (σ o0 2) 1 a1) (fun r5 => bp (X1_tenthsNow σ a2 (σ o0 2) 2 a1) (fun r7 => lp (fun K10 (q9 : sM × Int × Int) => if 1 < wi q9.2.2 then some (q_ldiv q9.2.1 1000, q9.1) else bp (X3_partOf q9.1 q9.2.2 r7) (fun r12 => lp (fun K15 (q14 : sM × Int × Int) => jn (fun q16 : Unit => K10 (q14.1, q14.2.1, q9.2.2 + 1)) (fun K17 => if 1 < wi q14.2.2 then K17 () else if wi r12 ≤ 0 then K17 () else bp (X3_partOf q14.1 q14.2.2 r5) (fun r20 => lp (fun K23 (q22 : sM × Int × Int) => jn (fun q24 : Unit => K15 (q22.1, q22.2.1, q14.2.2 + 1)) (fun K25 => if 1 < wi q22.2.2 then K25 () else if wi (r12 * r20) ≤ 0 then K25 () else bp (X3_partOf q22.1 q22.2.2 r3) (fun r28 => jn (fun q30 : sM × Int => K23 (q30.1, q30.2, q22.2.2 + 1)) (fun K31 => if wi ((r12 * r20) * r28) ≤ 0 then K31 (q22.1, q22.2.1) else bp (X8_field q22.1 0 q22.2.2 0) (fun r33 => bp (X8_field q22.1 1 q14.2.2 0) (fun r35 => bp (X8_field q22.1 2 q9.2.2 0) (fun r37 => jn (fun q39 : sM × Int => nm (q22.2.1 + ((wi ((r12 * r20) * r28)) * (wi q39.2))) (fun y41 => K31 (q39.1, y41))) (fun K40 => if wi a3 = 0 then bn (rec 0 q22.1 (a1 + 1) (((a2 + r33) + r35) + r37) 0) (fun r44 σ46 => K40 (σ46, r44)) else bn (rec 7 q22.1 (a1 + 1) (((a2 + r33) + r35) + r37) 0) (fun r47 σ49 => K40 (σ49, r47)))))))))) F (q14.1, q14.2.1, 0)))) F (q9.1, q9.2.1, 0))) F (σ, 0, 0))))) (fun K2 => if ¬ wi a3 = 0 then K2 () else if wi (a1 + 1) < wi (σ 2 7) then K2 () else some (0, σ))
set_option maxRecDepth 100000 in
set_option maxHeartbeats 400000 in
theorem T_X3_mean {G : sG} {q_0 : qT} {x_0 : List Nat} {σ s_0 : sM} {r_0 : Int} {a1 a2 a3 : Int} {o0 o0P o0V o0W o0n : Nat} {F dd : Nat} {rec : Nat → sM → Int → Int → Int → Option (Int × sM)} (h_o0 : (mkSh q_0 x_0)[o0]? = some (.inl (3, [.ref 2, .int 0, .int 0, .ref (shC o0), .int 0, .long 0, .ref o0P, .ref o0V, .ref o0W]))) (g_o0S : (mkSh q_0 x_0)[shC o0]? = some (.inr (.int, 48, gN))) (g_o0P : (mkSh q_0 x_0)[o0P]? = some (.inr (.long, o0n, gN))) (g_o0V : (mkSh q_0 x_0)[o0V]? = some (.inr (.long, o0n, gN))) (g_o0W : (mkSh q_0 x_0)[o0W]? = some (.inr (.long, o0n, gN))) (hdd : 20 ≤ dd) (hR : RCX3 G q_0 x_0 o0 o0P o0V o0W o0n dd rec) (h : X3_mean F rec o0 o0P o0V o0W o0n σ a1 a2 a3 = some (r_0, s_0)) : aM G yX3_mean cX3_mean 17 (some .int) (dd + 1) 0 0 [.ref (gP G o0), vI a1, vI a2, vI a3] (mkSh q_0 x_0, σ) (r_0, (mkSh q_0 x_0, s_0)) := by
  unfold X3_mean at h
  refine aM_of (by decide) (Nat.le_of_ble_eq_true rfl) ?_
  show aW G cX3_mean RX3 "mean" 17 (some .int) _ _ aX 0 0 _ [(0, .ref (gP G o0)), (1, vI a1), (2, vI a2), (3, vI a3)] 0 []
  refine a_iload_n 3 dX3_mean_0 rfl ?_
  refine jn_s (fun q1 : Unit => aW G cX3_mean RX3 "mean" 17 (some .int) (sR (dd + 1) 0 0) (aQ G (some .int) 0 0 (r_0, (mkSh q_0 x_0, s_0))) aX 0 0 (mkSh q_0 x_0, σ) [(0, .ref (gP G o0)), (1, vI a1), (2, vI a2), (3, vI a3)] 19 []) h (fun q1 h => ?_) (fun K2 hK2 h => ?_)
  · skip
    refine a_aload_n 0 dX3_mean_19 rfl ?_
    refine a_getR (j := 0) dX3_mean_20 KX3 h_o0 (by decide) rfl kf_RX3_39 ?_
    refine a_iload_n 2 dX3_mean_23 rfl ?_
    refine a_aload_n 0 dX3_mean_24 rfl ?_
    refine a_getI (j := 2) dX3_mean_25 KX3 h_o0 (by decide) rfl kf_RX3_15 ?_
    refine a_iconst dX3_mean_28 ?_
    refine a_iload_n 1 dX3_mean_29 rfl ?_
    refine bp_s h (fun r3 e4 h => ?_)
    refine a_callVI dX3_mean_30 mX1_tenthsNow KX1 rfl kv_X1_tenthsNow ks_X1_tenthsNow rfl km_RX3_128 rfl (T_X1_tenthsNow e4) (fun _ => rfl) rfl (show 2 + 1 ≤ dd + 1 by omega) (show 80 * 2 + 79 ≤ 80 * (dd + 1) by omega) ⟨(Nat.le_of_ble_eq_true rfl), (Nat.le_of_ble_eq_true rfl)⟩ (Nat.le_of_ble_eq_true rfl) ?_
    refine a_istore (L' := [(4, vI r3), (0, .ref (gP G o0)), (1, vI a1), (2, vI a2), (3, vI a3)]) dX3_mean_33 (by decide) rfl ?_
    refine a_aload_n 1 dX3_mean_35 rfl ?_
    refine a_getR (j := 0) dX3_mean_36 KX3 h_o0 (by decide) rfl kf_RX3_39 ?_
    refine a_iload_n 3 dX3_mean_39 rfl ?_
    refine a_aload_n 1 dX3_mean_40 rfl ?_
    refine a_getI (j := 2) dX3_mean_41 KX3 h_o0 (by decide) rfl kf_RX3_15 ?_
    refine a_iconst dX3_mean_44 ?_
    refine a_iload_n 2 dX3_mean_45 rfl ?_
    refine bp_s h (fun r5 e6 h => ?_)
    refine a_callVI dX3_mean_46 mX1_tenthsNow KX1 rfl kv_X1_tenthsNow ks_X1_tenthsNow rfl km_RX3_128 rfl (T_X1_tenthsNow e6) (fun _ => rfl) rfl (show 2 + 1 ≤ dd + 1 by omega) (show 80 * 2 + 79 ≤ 80 * (dd + 1) by omega) ⟨(Nat.le_of_ble_eq_true rfl), (Nat.le_of_ble_eq_true rfl)⟩ (Nat.le_of_ble_eq_true rfl) ?_
    refine a_istore (L' := [(5, vI r5), (4, vI r3), (0, .ref (gP G o0)), (1, vI a1), (2, vI a2), (3, vI a3)]) dX3_mean_49 (by decide) rfl ?_
    refine a_aload_n 2 dX3_mean_51 rfl ?_
    refine a_getR (j := 0) dX3_mean_52 KX3 h_o0 (by decide) rfl kf_RX3_39 ?_
    refine a_iload_n 4 dX3_mean_55 rfl ?_
    refine a_aload_n 2 dX3_mean_56 rfl ?_
    refine a_getI (j := 2) dX3_mean_57 KX3 h_o0 (by decide) rfl kf_RX3_15 ?_
    refine a_iconst dX3_mean_60 ?_
    refine a_iload_n 3 dX3_mean_61 rfl ?_
    refine bp_s h (fun r7 e8 h => ?_)
    refine a_callVI dX3_mean_62 mX1_tenthsNow KX1 rfl kv_X1_tenthsNow ks_X1_tenthsNow rfl km_RX3_128 rfl (T_X1_tenthsNow e8) (fun _ => rfl) rfl (show 2 + 1 ≤ dd + 1 by omega) (show 80 * 2 + 79 ≤ 80 * (dd + 1) by omega) ⟨(Nat.le_of_ble_eq_true rfl), (Nat.le_of_ble_eq_true rfl)⟩ (Nat.le_of_ble_eq_true rfl) ?_
    refine a_istore (L' := [(6, vI r7), (5, vI r5), (4, vI r3), (0, .ref (gP G o0)), (1, vI a1), (2, vI a2), (3, vI a3)]) dX3_mean_65 (by decide) rfl ?_
    refine a_lconst (z := 0) dX3_mean_67 (by decide) ?_
    refine a_lstore (L' := [(7, vL 0), (6, vI r7), (5, vI r5), (4, vI r3), (0, .ref (gP G o0)), (1, vI a1), (2, vI a2), (3, vI a3)]) dX3_mean_68 (by decide) rfl ?_
    refine a_iconst dX3_mean_70 ?_
    refine a_istore (L' := [(9, vI 0), (7, vL 0), (6, vI r7), (5, vI r5), (4, vI r3), (0, .ref (gP G o0)), (1, vI a1), (2, vI a2), (3, vI a3)]) dX3_mean_71 (by decide) rfl ?_
    refine a_sub (L' := [(0, .ref (gP G o0)), (1, vI a1), (2, vI a2), (3, vI a3), (4, vI r3), (5, vI r5), (6, vI r7), (7, vL 0), (9, vI 0)]) [5, 6, 7, 8, 4, 3, 2, 1, 0] rfl (lp_s (x := (σ, 0, 0)) (fun q9 : sM × Int × Int => aW G cX3_mean RX3 "mean" 17 (some .int) (sR (dd + 1) 0 0) (aQ G (some .int) 0 0 (r_0, (mkSh q_0 x_0, s_0))) aX 0 0 (mkSh q_0 x_0, q9.1) [(0, .ref (gP G o0)), (1, vI a1), (2, vI a2), (3, vI a3), (4, vI r3), (5, vI r5), (6, vI r7), (7, vL q9.2.1), (9, vI q9.2.2)] 73 []) h (fun K10 hK10 q9 h => ?_))
    refine a_iload 8 dX3_mean_73 rfl ?_
    refine a_iconst dX3_mean_75 ?_
    refine a_icmp_gt 229 dX3_mean_76 (by decide) rfl (by decide) h (fun c11 h => ?_) (fun c11 h => ?_)
    · skip
      refine a_lload 7 dX3_mean_229 rfl ?_
      refine a_ldc2 (z := 1000) dX3_mean_231 kc_RX3_144 (by decide) ?_
      refine a_ldiv dX3_mean_234 (by decide) ?_
      refine a_l2i dX3_mean_235 ?_
      exact a_iret dX3_mean_236 rfl (p_1 h) (p_S (p_2 h))
    · skip
      refine a_iload 8 dX3_mean_79 rfl ?_
      refine a_iload 6 dX3_mean_81 rfl ?_
      refine bp_s h (fun r12 e13 h => ?_)
      refine a_callSI dX3_mean_83 mX3_partOf kv_X3_partOf km_RX3_132 rfl (T_X3_partOf e13) (fun _ => rfl) rfl (show 0 + 1 ≤ dd + 1 by omega) (show 80 * 0 + 79 ≤ 80 * (dd + 1) by omega) ⟨(Nat.le_of_ble_eq_true rfl), (Nat.le_of_ble_eq_true rfl)⟩ (Nat.le_of_ble_eq_true rfl) ?_
      refine a_istore (L' := [(10, vI r12), (0, .ref (gP G o0)), (1, vI a1), (2, vI a2), (3, vI a3), (4, vI r3), (5, vI r5), (6, vI r7), (7, vL q9.2.1), (9, vI q9.2.2)]) dX3_mean_86 (by decide) rfl ?_
      refine a_iconst dX3_mean_88 ?_
      refine a_istore (L' := [(11, vI 0), (10, vI r12), (0, .ref (gP G o0)), (1, vI a1), (2, vI a2), (3, vI a3), (4, vI r3), (5, vI r5), (6, vI r7), (7, vL q9.2.1), (9, vI q9.2.2)]) dX3_mean_89 (by decide) rfl ?_
      refine a_sub (L' := [(0, .ref (gP G o0)), (1, vI a1), (2, vI a2), (3, vI a3), (4, vI r3), (5, vI r5), (6, vI r7), (7, vL q9.2.1), (9, vI q9.2.2), (10, vI r12), (11, vI 0)]) [2, 3, 4, 5, 6, 7, 8, 9, 10, 1, 0] rfl (lp_s (x := (q9.1, q9.2.1, 0)) (fun q14 : sM × Int × Int => aW G cX3_mean RX3 "mean" 17 (some .int) (sR (dd + 1) 0 0) (aQ G (some .int) 0 0 (r_0, (mkSh q_0 x_0, s_0))) aX 0 0 (mkSh q_0 x_0, q14.1) [(0, .ref (gP G o0)), (1, vI a1), (2, vI a2), (3, vI a3), (4, vI r3), (5, vI r5), (6, vI r7), (7, vL q14.2.1), (9, vI q9.2.2), (10, vI r12), (11, vI q14.2.2)] 91 []) h (fun K15 hK15 q14 h => ?_))
      refine a_iload 10 dX3_mean_91 rfl ?_
      refine a_iconst dX3_mean_93 ?_
      refine jn_s (fun q16 : Unit => aW G cX3_mean RX3 "mean" 17 (some .int) (sR (dd + 1) 0 0) (aQ G (some .int) 0 0 (r_0, (mkSh q_0 x_0, s_0))) aX 0 0 (mkSh q_0 x_0, q14.1) [(0, .ref (gP G o0)), (1, vI a1), (2, vI a2), (3, vI a3), (4, vI r3), (5, vI r5), (6, vI r7), (7, vL q14.2.1), (9, vI q9.2.2)] 223 []) h (fun q16 h => ?_) (fun K17 hK17 h => ?_)
      · skip
        refine a_iinc (L' := [(9, vI (q9.2.2 + 1)), (0, .ref (gP G o0)), (1, vI a1), (2, vI a2), (3, vI a3), (4, vI r3), (5, vI r5), (6, vI r7), (7, vL q14.2.1)]) 8 dX3_mean_223 rfl (by decide) rfl ?_
        refine a_goto 73 dX3_mean_226 (by decide) ?_
        have hh := hK10 _ h
        exact a_sub [1, 2, 3, 4, 5, 6, 7, 8, 0] rfl hh
      · skip
        refine a_icmp_gt 223 dX3_mean_94 (by decide) rfl (by decide) h (fun c18 h => ?_) (fun c18 h => ?_)
        · skip
          have hh := hK17 _ h
          exact a_sub [0, 1, 2, 3, 4, 5, 6, 7, 8] rfl hh
        · skip
          refine a_iload 9 dX3_mean_97 rfl ?_
          refine a_if_le 223 dX3_mean_99 (by decide) rfl h (fun c19 h => ?_) (fun c19 h => ?_)
          · skip
            have hh := hK17 _ h
            exact a_sub [0, 1, 2, 3, 4, 5, 6, 7, 8] rfl hh
          · skip
            refine a_iload 9 dX3_mean_102 rfl ?_
            refine a_iload 10 dX3_mean_104 rfl ?_
            refine a_iload 5 dX3_mean_106 rfl ?_
            refine bp_s h (fun r20 e21 h => ?_)
            refine a_callSI dX3_mean_108 mX3_partOf kv_X3_partOf km_RX3_132 rfl (T_X3_partOf e21) (fun _ => rfl) rfl (show 0 + 1 ≤ dd + 1 by omega) (show 80 * 0 + 79 ≤ 80 * (dd + 1) by omega) ⟨(Nat.le_of_ble_eq_true rfl), (Nat.le_of_ble_eq_true rfl)⟩ (Nat.le_of_ble_eq_true rfl) ?_
            refine a_imul dX3_mean_111 ?_
            refine a_istore (L' := [(12, vI (r12 * r20)), (0, .ref (gP G o0)), (1, vI a1), (2, vI a2), (3, vI a3), (4, vI r3), (5, vI r5), (6, vI r7), (7, vL q14.2.1), (9, vI q9.2.2), (10, vI r12), (11, vI q14.2.2)]) dX3_mean_112 (by decide) rfl ?_
            refine a_iconst dX3_mean_114 ?_
            refine a_istore (L' := [(13, vI 0), (12, vI (r12 * r20)), (0, .ref (gP G o0)), (1, vI a1), (2, vI a2), (3, vI a3), (4, vI r3), (5, vI r5), (6, vI r7), (7, vL q14.2.1), (9, vI q9.2.2), (10, vI r12), (11, vI q14.2.2)]) dX3_mean_115 (by decide) rfl ?_
            refine a_sub (L' := [(0, .ref (gP G o0)), (1, vI a1), (2, vI a2), (3, vI a3), (4, vI r3), (5, vI r5), (6, vI r7), (7, vL q14.2.1), (9, vI q9.2.2), (10, vI r12), (11, vI q14.2.2), (12, vI (r12 * r20)), (13, vI 0)]) [2, 3, 4, 5, 6, 7, 8, 9, 10, 11, 12, 1, 0] rfl (lp_s (x := (q14.1, q14.2.1, 0)) (fun q22 : sM × Int × Int => aW G cX3_mean RX3 "mean" 17 (some .int) (sR (dd + 1) 0 0) (aQ G (some .int) 0 0 (r_0, (mkSh q_0 x_0, s_0))) aX 0 0 (mkSh q_0 x_0, q22.1) [(0, .ref (gP G o0)), (1, vI a1), (2, vI a2), (3, vI a3), (4, vI r3), (5, vI r5), (6, vI r7), (7, vL q22.2.1), (9, vI q9.2.2), (10, vI r12), (11, vI q14.2.2), (12, vI (r12 * r20)), (13, vI q22.2.2)] 117 []) h (fun K23 hK23 q22 h => ?_))
            refine a_iload 12 dX3_mean_117 rfl ?_
            refine a_iconst dX3_mean_119 ?_
            refine jn_s (fun q24 : Unit => aW G cX3_mean RX3 "mean" 17 (some .int) (sR (dd + 1) 0 0) (aQ G (some .int) 0 0 (r_0, (mkSh q_0 x_0, s_0))) aX 0 0 (mkSh q_0 x_0, q22.1) [(0, .ref (gP G o0)), (1, vI a1), (2, vI a2), (3, vI a3), (4, vI r3), (5, vI r5), (6, vI r7), (7, vL q22.2.1), (9, vI q9.2.2), (10, vI r12), (11, vI q14.2.2)] 217 []) h (fun q24 h => ?_) (fun K25 hK25 h => ?_)
            · skip
              refine a_iinc (L' := [(11, vI (q14.2.2 + 1)), (0, .ref (gP G o0)), (1, vI a1), (2, vI a2), (3, vI a3), (4, vI r3), (5, vI r5), (6, vI r7), (7, vL q22.2.1), (9, vI q9.2.2), (10, vI r12)]) 10 dX3_mean_217 rfl (by decide) rfl ?_
              refine a_goto 91 dX3_mean_220 (by decide) ?_
              have hh := hK15 _ h
              exact a_sub [1, 2, 3, 4, 5, 6, 7, 8, 9, 10, 0] rfl hh
            · skip
              refine a_icmp_gt 217 dX3_mean_120 (by decide) rfl (by decide) h (fun c26 h => ?_) (fun c26 h => ?_)
              · skip
                have hh := hK25 _ h
                exact a_sub [0, 1, 2, 3, 4, 5, 6, 7, 8, 9, 10] rfl hh
              · skip
                refine a_iload 11 dX3_mean_123 rfl ?_
                refine a_if_le 217 dX3_mean_125 (by decide) rfl h (fun c27 h => ?_) (fun c27 h => ?_)
                · skip
                  have hh := hK25 _ h
                  exact a_sub [0, 1, 2, 3, 4, 5, 6, 7, 8, 9, 10] rfl hh
                · skip
                  refine a_iload 11 dX3_mean_128 rfl ?_
                  refine a_iload 12 dX3_mean_130 rfl ?_
                  refine a_iload 4 dX3_mean_132 rfl ?_
                  refine bp_s h (fun r28 e29 h => ?_)
                  refine a_callSI dX3_mean_134 mX3_partOf kv_X3_partOf km_RX3_132 rfl (T_X3_partOf e29) (fun _ => rfl) rfl (show 0 + 1 ≤ dd + 1 by omega) (show 80 * 0 + 79 ≤ 80 * (dd + 1) by omega) ⟨(Nat.le_of_ble_eq_true rfl), (Nat.le_of_ble_eq_true rfl)⟩ (Nat.le_of_ble_eq_true rfl) ?_
                  refine a_imul dX3_mean_137 ?_
                  refine a_istore (L' := [(14, vI ((r12 * r20) * r28)), (0, .ref (gP G o0)), (1, vI a1), (2, vI a2), (3, vI a3), (4, vI r3), (5, vI r5), (6, vI r7), (7, vL q22.2.1), (9, vI q9.2.2), (10, vI r12), (11, vI q14.2.2), (12, vI (r12 * r20)), (13, vI q22.2.2)]) dX3_mean_138 (by decide) rfl ?_
                  refine a_iload 0 dX3_mean_140 rfl ?_
                  refine jn_s (fun q30 : sM × Int => aW G cX3_mean RX3 "mean" 17 (some .int) (sR (dd + 1) 0 0) (aQ G (some .int) 0 0 (r_0, (mkSh q_0 x_0, s_0))) aX 0 0 (mkSh q_0 x_0, q30.1) [(0, .ref (gP G o0)), (1, vI a1), (2, vI a2), (3, vI a3), (4, vI r3), (5, vI r5), (6, vI r7), (7, vL q30.2), (9, vI q9.2.2), (10, vI r12), (11, vI q14.2.2), (12, vI (r12 * r20)), (13, vI q22.2.2)] 211 []) h (fun q30 h => ?_) (fun K31 hK31 h => ?_)
                  · skip
                    refine a_iinc (L' := [(13, vI (q22.2.2 + 1)), (0, .ref (gP G o0)), (1, vI a1), (2, vI a2), (3, vI a3), (4, vI r3), (5, vI r5), (6, vI r7), (7, vL q30.2), (9, vI q9.2.2), (10, vI r12), (11, vI q14.2.2), (12, vI (r12 * r20))]) 12 dX3_mean_211 rfl (by decide) rfl ?_
                    refine a_goto 117 dX3_mean_214 (by decide) ?_
                    have hh := hK23 _ h
                    exact a_sub [1, 2, 3, 4, 5, 6, 7, 8, 9, 10, 11, 12, 0] rfl hh
                  · skip
                    refine a_if_le 211 dX3_mean_142 (by decide) rfl h (fun c32 h => ?_) (fun c32 h => ?_)
                    · skip
                      have hh := hK31 _ h
                      exact a_sub [1, 2, 3, 4, 5, 6, 7, 8, 9, 10, 11, 12, 13] rfl hh
                    · skip
                      refine a_iload_n 3 dX3_mean_145 rfl ?_
                      refine a_iconst dX3_mean_146 ?_
                      refine a_iload 13 dX3_mean_147 rfl ?_
                      refine a_iconst dX3_mean_149 ?_
                      refine bp_s h (fun r33 e34 h => ?_)
                      refine a_callSNI dX3_mean_150 mX8_field kv_X8_field km_RX3_135 rfl (T_X8_field e34) (fun _ => rfl) rfl (show 0 + 1 ≤ dd + 1 by omega) (show 80 * 0 + 79 ≤ 80 * (dd + 1) by omega) ⟨(Nat.le_of_ble_eq_true rfl), (Nat.le_of_ble_eq_true rfl)⟩ (Nat.le_of_ble_eq_true rfl) ?_
                      refine a_iadd dX3_mean_153 ?_
                      refine a_iconst dX3_mean_154 ?_
                      refine a_iload 11 dX3_mean_155 rfl ?_
                      refine a_iconst dX3_mean_157 ?_
                      refine bp_s h (fun r35 e36 h => ?_)
                      refine a_callSNI dX3_mean_158 mX8_field kv_X8_field km_RX3_135 rfl (T_X8_field e36) (fun _ => rfl) rfl (show 0 + 1 ≤ dd + 1 by omega) (show 80 * 0 + 79 ≤ 80 * (dd + 1) by omega) ⟨(Nat.le_of_ble_eq_true rfl), (Nat.le_of_ble_eq_true rfl)⟩ (Nat.le_of_ble_eq_true rfl) ?_
                      refine a_iadd dX3_mean_161 ?_
                      refine a_iconst dX3_mean_162 ?_
                      refine a_iload 9 dX3_mean_163 rfl ?_
                      refine a_iconst dX3_mean_165 ?_
                      refine bp_s h (fun r37 e38 h => ?_)
                      refine a_callSNI dX3_mean_166 mX8_field kv_X8_field km_RX3_135 rfl (T_X8_field e38) (fun _ => rfl) rfl (show 0 + 1 ≤ dd + 1 by omega) (show 80 * 0 + 79 ≤ 80 * (dd + 1) by omega) ⟨(Nat.le_of_ble_eq_true rfl), (Nat.le_of_ble_eq_true rfl)⟩ (Nat.le_of_ble_eq_true rfl) ?_
                      refine a_iadd dX3_mean_169 ?_
                      refine a_istore (L' := [(15, vI (((a2 + r33) + r35) + r37)), (14, vI ((r12 * r20) * r28)), (0, .ref (gP G o0)), (1, vI a1), (2, vI a2), (3, vI a3), (4, vI r3), (5, vI r5), (6, vI r7), (7, vL q22.2.1), (9, vI q9.2.2), (10, vI r12), (11, vI q14.2.2), (12, vI (r12 * r20)), (13, vI q22.2.2)]) dX3_mean_170 (by decide) rfl ?_
                      refine a_iload_n 5 dX3_mean_172 rfl ?_
                      refine jn_s (fun q39 : sM × Int => aW G cX3_mean RX3 "mean" 17 (some .int) (sR (dd + 1) 0 0) (aQ G (some .int) 0 0 (r_0, (mkSh q_0 x_0, s_0))) aX 0 0 (mkSh q_0 x_0, q39.1) [(0, .ref (gP G o0)), (1, vI a1), (2, vI a2), (3, vI a3), (4, vI r3), (5, vI r5), (6, vI r7), (7, vL q22.2.1), (9, vI q9.2.2), (10, vI r12), (11, vI q14.2.2), (12, vI (r12 * r20)), (13, vI q22.2.2), (14, vI ((r12 * r20) * r28))] 197 [vI q39.2]) h (fun q39 h => ?_) (fun K40 hK40 h => ?_)
                      · skip
                        refine a_istore (L' := [(16, vI q39.2), (0, .ref (gP G o0)), (1, vI a1), (2, vI a2), (3, vI a3), (4, vI r3), (5, vI r5), (6, vI r7), (7, vL q22.2.1), (9, vI q9.2.2), (10, vI r12), (11, vI q14.2.2), (12, vI (r12 * r20)), (13, vI q22.2.2), (14, vI ((r12 * r20) * r28))]) dX3_mean_197 (by decide) rfl ?_
                        refine a_lload 8 dX3_mean_199 rfl ?_
                        refine a_iload 14 dX3_mean_201 rfl ?_
                        refine a_i2l dX3_mean_203 ?_
                        refine a_iload 0 dX3_mean_204 rfl ?_
                        refine a_i2l dX3_mean_206 ?_
                        refine a_lmul dX3_mean_207 ?_
                        refine a_ladd dX3_mean_208 ?_
                        refine a_nmL h (fun y41 w42 h => ?_)
                        refine a_lstore (L' := [(7, vL y41), (16, vI q39.2), (0, .ref (gP G o0)), (1, vI a1), (2, vI a2), (3, vI a3), (4, vI r3), (5, vI r5), (6, vI r7), (9, vI q9.2.2), (10, vI r12), (11, vI q14.2.2), (12, vI (r12 * r20)), (13, vI q22.2.2), (14, vI ((r12 * r20) * r28))]) dX3_mean_209 (by decide) rfl ?_
                        have hh := hK31 _ h
                        exact a_sub [2, 3, 4, 5, 6, 7, 8, 0, 9, 10, 11, 12, 13] rfl hh
                      · skip
                        refine a_if_eq 188 dX3_mean_173 (by decide) rfl h (fun c43 h => ?_) (fun c43 h => ?_)
                        · skip
                          refine a_aload_n 2 dX3_mean_188 rfl ?_
                          refine a_iload_n 3 dX3_mean_189 rfl ?_
                          refine a_iconst dX3_mean_190 ?_
                          refine a_iadd dX3_mean_191 ?_
                          refine a_iload 0 dX3_mean_192 rfl ?_
                          refine bn_s h (fun r44 σ46 e45 h => ?_)
                          refine a_callVI dX3_mean_194 mX3_valueAhead KX3 rfl kv_X3_valueAhead ks_X3_valueAhead h_o0 km_RX3_141 rfl (hR.1 _ _ _ _ _ e45) (fun _ => rfl) rfl (show dd + 1 ≤ dd + 1 by omega) (show 80 * dd + 79 ≤ 80 * (dd + 1) by omega) ⟨(Nat.le_of_ble_eq_true rfl), (Nat.le_of_ble_eq_true rfl)⟩ (Nat.le_of_ble_eq_true rfl) ?_
                          have hh := hK40 _ h
                          exact a_sub [2, 3, 4, 5, 6, 7, 8, 9, 10, 11, 12, 13, 14, 1] rfl hh
                        · skip
                          refine a_aload_n 2 dX3_mean_176 rfl ?_
                          refine a_iload_n 3 dX3_mean_177 rfl ?_
                          refine a_iconst dX3_mean_178 ?_
                          refine a_iadd dX3_mean_179 ?_
                          refine a_iload 0 dX3_mean_180 rfl ?_
                          refine bn_s h (fun r47 σ49 e48 h => ?_)
                          refine a_callVI dX3_mean_182 mX3_leftAhead KX3 rfl kv_X3_leftAhead ks_X3_leftAhead h_o0 km_RX3_138 rfl (hR.2.2.2.2.2.2.2.1 _ _ _ _ _ e48) (fun _ => rfl) rfl (show dd + 1 ≤ dd + 1 by omega) (show 80 * dd + 79 ≤ 80 * (dd + 1) by omega) ⟨(Nat.le_of_ble_eq_true rfl), (Nat.le_of_ble_eq_true rfl)⟩ (Nat.le_of_ble_eq_true rfl) ?_
                          refine a_goto 197 dX3_mean_185 (by decide) ?_
                          have hh := hK40 _ h
                          exact a_sub [2, 3, 4, 5, 6, 7, 8, 9, 10, 11, 12, 13, 14, 1] rfl hh
  · skip
    refine a_if_ne 19 dX3_mean_1 (by decide) rfl h (fun c50 h => ?_) (fun c50 h => ?_)
    · skip
      have hh := hK2 _ h
      exact a_sub [0, 1, 2, 3] rfl hh
    · skip
      refine a_iload_n 1 dX3_mean_4 rfl ?_
      refine a_iconst dX3_mean_5 ?_
      refine a_iadd dX3_mean_6 ?_
      refine a_aload_n 0 dX3_mean_7 rfl ?_
      refine a_getR (j := 0) dX3_mean_8 KX3 h_o0 (by decide) rfl kf_RX3_39 ?_
      refine a_getIN (j := 7) dX3_mean_11 KX1 rfl (by decide) rfl kf_RX3_63 ?_
      refine a_icmp_lt 19 dX3_mean_14 (by decide) rfl rfl h (fun c51 h => ?_) (fun c51 h => ?_)
      · skip
        have hh := hK2 _ h
        exact a_sub [0, 1, 2, 3] rfl hh
      · skip
        refine a_iconst dX3_mean_17 ?_
        exact a_iret dX3_mean_18 rfl (p_1 h) (p_S (p_2 h))

def X4_readWeeks (σ : sM) : Option (Int × sM) := bn (X4_lookAt σ ((σ 22 6) + 1)) (fun r1 σ3 => bp (X4_isNumber σ3 1 8) (fun r4 => if ¬ wi r4 = 0 then bn (X4_lookAt (sU σ3 12 7 (σ3 22 8)) (((sU σ3 12 7 (σ3 22 8)) 22 6) + 1)) (fun r7 σ9 => bn (X4_take σ9 2) (fun r10 σ12 => if wi r10 = 0 ∨ wi r10 = 1 then some (r10, σ12) else none)) else some (0, σ3)))
set_option maxRecDepth 100000 in
set_option maxHeartbeats 400000 in
theorem T_X4_readWeeks {G : sG} {q_0 : qT} {x_0 : List Nat} {σ s_0 : sM} {r_0 : Int}  (h : X4_readWeeks σ = some (r_0, s_0)) : aM G yX4_readWeeks cX4_readWeeks 1 (some .boolean) 2 0 0 [.ref (gP G 22)] (mkSh q_0 x_0, σ) (r_0, (mkSh q_0 x_0, s_0)) := by
  unfold X4_readWeeks at h
  refine aM_of (by decide) (Nat.le_of_ble_eq_true rfl) ?_
  show aW G cX4_readWeeks RX4 "readWeeks" 1 (some .boolean) _ _ aX 0 0 _ [(0, .ref (gP G 22))] 0 []
  refine a_aload_n 0 dX4_readWeeks_0 rfl ?_
  refine a_aload_n 0 dX4_readWeeks_1 rfl ?_
  refine a_getI (j := 6) dX4_readWeeks_2 KX4 rfl (by decide) rfl kf_RX4_25 ?_
  refine a_iconst dX4_readWeeks_5 ?_
  refine a_iadd dX4_readWeeks_6 ?_
  refine bn_s h (fun r1 σ3 e2 h => ?_)
  refine a_callVV dX4_readWeeks_7 mX4_lookAt KX4 rfl kv_X4_lookAt ks_X4_lookAt rfl km_RX4_59 rfl (T_X4_lookAt e2) (fun _ => rfl) rfl (Nat.le_of_ble_eq_true rfl) (Nat.le_of_ble_eq_true rfl) ⟨(Nat.le_of_ble_eq_true rfl), (Nat.le_of_ble_eq_true rfl)⟩ (Nat.le_of_ble_eq_true rfl) ?_
  refine a_aload_n 0 dX4_readWeeks_10 rfl ?_
  refine a_iconst dX4_readWeeks_11 ?_
  refine a_bipush dX4_readWeeks_12 (by decide) ?_
  refine bp_s h (fun r4 e5 h => ?_)
  refine a_callVI dX4_readWeeks_14 mX4_isNumber KX4 rfl kv_X4_isNumber ks_X4_isNumber rfl km_RX4_96 rfl (T_X4_isNumber e5) (fun _ => rfl) rfl (Nat.le_of_ble_eq_true rfl) (Nat.le_of_ble_eq_true rfl) ⟨(Nat.le_of_ble_eq_true rfl), (Nat.le_of_ble_eq_true rfl)⟩ (Nat.le_of_ble_eq_true rfl) ?_
  refine a_if_ne 22 dX4_readWeeks_17 (by decide) rfl h (fun c6 h => ?_) (fun c6 h => ?_)
  · skip
    refine a_aload_n 0 dX4_readWeeks_22 rfl ?_
    refine a_getR (j := 1) dX4_readWeeks_23 KX4 rfl (by decide) rfl kf_RX4_38 ?_
    refine a_aload_n 0 dX4_readWeeks_26 rfl ?_
    refine a_getI (j := 8) dX4_readWeeks_27 KX4 rfl (by decide) rfl kf_RX4_31 ?_
    refine a_putIN (j := 7) dX4_readWeeks_30 KX1 rfl (by decide) rfl rfl rfl kf_RX4_100 ?_
    refine a_aload_n 0 dX4_readWeeks_33 rfl ?_
    refine a_aload_n 0 dX4_readWeeks_34 rfl ?_
    refine a_getI (j := 6) dX4_readWeeks_35 KX4 rfl (by decide) rfl kf_RX4_25 ?_
    refine a_iconst dX4_readWeeks_38 ?_
    refine a_iadd dX4_readWeeks_39 ?_
    refine bn_s h (fun r7 σ9 e8 h => ?_)
    refine a_callVV dX4_readWeeks_40 mX4_lookAt KX4 rfl kv_X4_lookAt ks_X4_lookAt rfl km_RX4_59 rfl (T_X4_lookAt e8) (fun _ => rfl) rfl (Nat.le_of_ble_eq_true rfl) (Nat.le_of_ble_eq_true rfl) ⟨(Nat.le_of_ble_eq_true rfl), (Nat.le_of_ble_eq_true rfl)⟩ (Nat.le_of_ble_eq_true rfl) ?_
    refine a_aload_n 0 dX4_readWeeks_43 rfl ?_
    refine a_iconst dX4_readWeeks_44 ?_
    refine bn_s h (fun r10 σ12 e11 h => ?_)
    refine a_callVI dX4_readWeeks_45 mX4_take KX4 rfl kv_X4_take ks_X4_take rfl km_RX4_103 rfl (T_X4_take e11) (fun _ => rfl) rfl (Nat.le_of_ble_eq_true rfl) (Nat.le_of_ble_eq_true rfl) ⟨(Nat.le_of_ble_eq_true rfl), (Nat.le_of_ble_eq_true rfl)⟩ (Nat.le_of_ble_eq_true rfl) ?_
    refine a_gd h (fun c13 h => ?_)
    exact a_zret dX4_readWeeks_48 rfl (nb_01 c13) (p_1 h) (p_S (p_2 h))
  · skip
    refine a_iconst dX4_readWeeks_20 ?_
    exact a_zret dX4_readWeeks_21 rfl (by decide) (p_1 h) (p_S (p_2 h))

def X4_readWheel (σ : sM) : Option (Int × sM) := bn (X4_lookAt σ ((σ 22 6) + 1)) (fun r1 σ3 => if wi (σ 12 6) < 0 then some (0, σ3) else if 3 ≤ wi (σ 12 6) then some (0, σ3) else bp (X4_isNumber σ3 0 ((σ3 12 5) - 1)) (fun r6 => if ¬ wi r6 = 0 then if 0 ≤ wi (σ 12 6) ∧ wi (σ 12 6) < 3 then bn (X4_lookAt (sU σ3 18 (wi (σ 12 6)).toNat (σ3 22 8)) (((sU σ3 18 (wi (σ 12 6)).toNat (σ3 22 8)) 22 6) + 1)) (fun r10 σ12 => bp (X4_isNumber σ12 1 3) (fun r13 => if ¬ wi r13 = 0 then if 0 ≤ wi (σ 12 6) ∧ wi (σ 12 6) < 3 then nm (sU (sU σ12 19 (wi (σ 12 6)).toNat (σ12 22 8)) 12 6 (((sU σ12 19 (wi (σ 12 6)).toNat (σ12 22 8)) 12 6) + 1)) (fun σ17 => bn (X4_lookAt σ17 ((σ17 22 6) + 1)) (fun r19 σ21 => bn (X4_take σ21 2) (fun r22 σ24 => if wi r22 = 0 ∨ wi r22 = 1 then some (r22, σ24) else none))) else none else some (0, σ12))) else none else some (0, σ3)))
set_option maxRecDepth 100000 in
set_option maxHeartbeats 400000 in
theorem T_X4_readWheel {G : sG} {q_0 : qT} {x_0 : List Nat} {σ s_0 : sM} {r_0 : Int}  (h : X4_readWheel σ = some (r_0, s_0)) : aM G yX4_readWheel cX4_readWheel 2 (some .boolean) 2 0 0 [.ref (gP G 22)] (mkSh q_0 x_0, σ) (r_0, (mkSh q_0 x_0, s_0)) := by
  unfold X4_readWheel at h
  refine aM_of (by decide) (Nat.le_of_ble_eq_true rfl) ?_
  show aW G cX4_readWheel RX4 "readWheel" 2 (some .boolean) _ _ aX 0 0 _ [(0, .ref (gP G 22))] 0 []
  refine a_aload_n 0 dX4_readWheel_0 rfl ?_
  refine a_getR (j := 1) dX4_readWheel_1 KX4 rfl (by decide) rfl kf_RX4_38 ?_
  refine a_getIN (j := 6) dX4_readWheel_4 KX1 rfl (by decide) rfl kf_RX4_77 ?_
  refine a_istore_n (L' := [(1, vI (σ 12 6)), (0, .ref (gP G 22))]) dX4_readWheel_7 (by decide) rfl ?_
  refine a_aload_n 1 dX4_readWheel_8 rfl ?_
  refine a_aload_n 1 dX4_readWheel_9 rfl ?_
  refine a_getI (j := 6) dX4_readWheel_10 KX4 rfl (by decide) rfl kf_RX4_25 ?_
  refine a_iconst dX4_readWheel_13 ?_
  refine a_iadd dX4_readWheel_14 ?_
  refine bn_s h (fun r1 σ3 e2 h => ?_)
  refine a_callVV dX4_readWheel_15 mX4_lookAt KX4 rfl kv_X4_lookAt ks_X4_lookAt rfl km_RX4_59 rfl (T_X4_lookAt e2) (fun _ => rfl) rfl (Nat.le_of_ble_eq_true rfl) (Nat.le_of_ble_eq_true rfl) ⟨(Nat.le_of_ble_eq_true rfl), (Nat.le_of_ble_eq_true rfl)⟩ (Nat.le_of_ble_eq_true rfl) ?_
  refine a_iload_n 0 dX4_readWheel_18 rfl ?_
  refine a_if_lt 44 dX4_readWheel_19 (by decide) rfl h (fun c4 h => ?_) (fun c4 h => ?_)
  · skip
    refine a_iconst dX4_readWheel_44 ?_
    exact a_zret dX4_readWheel_45 rfl (by decide) (p_1 h) (p_S (p_2 h))
  · skip
    refine a_iload_n 0 dX4_readWheel_22 rfl ?_
    refine a_iconst dX4_readWheel_23 ?_
    refine a_icmp_ge 44 dX4_readWheel_24 (by decide) rfl (by decide) h (fun c5 h => ?_) (fun c5 h => ?_)
    · skip
      refine a_iconst dX4_readWheel_44 ?_
      exact a_zret dX4_readWheel_45 rfl (by decide) (p_1 h) (p_S (p_2 h))
    · skip
      refine a_aload_n 1 dX4_readWheel_27 rfl ?_
      refine a_iconst dX4_readWheel_28 ?_
      refine a_aload_n 1 dX4_readWheel_29 rfl ?_
      refine a_getR (j := 1) dX4_readWheel_30 KX4 rfl (by decide) rfl kf_RX4_38 ?_
      refine a_getIN (j := 5) dX4_readWheel_33 KX1 rfl (by decide) rfl kf_RX4_71 ?_
      refine a_iconst dX4_readWheel_36 ?_
      refine a_isub dX4_readWheel_37 ?_
      refine bp_s h (fun r6 e7 h => ?_)
      refine a_callVI dX4_readWheel_38 mX4_isNumber KX4 rfl kv_X4_isNumber ks_X4_isNumber rfl km_RX4_96 rfl (T_X4_isNumber e7) (fun _ => rfl) rfl (Nat.le_of_ble_eq_true rfl) (Nat.le_of_ble_eq_true rfl) ⟨(Nat.le_of_ble_eq_true rfl), (Nat.le_of_ble_eq_true rfl)⟩ (Nat.le_of_ble_eq_true rfl) ?_
      refine a_if_ne 46 dX4_readWheel_41 (by decide) rfl h (fun c8 h => ?_) (fun c8 h => ?_)
      · skip
        refine a_aload_n 1 dX4_readWheel_46 rfl ?_
        refine a_getR (j := 1) dX4_readWheel_47 KX4 rfl (by decide) rfl kf_RX4_38 ?_
        refine a_getRN (j := 1) dX4_readWheel_50 KX1 rfl (by decide) rfl kf_RX4_115 ?_
        refine a_iload_n 0 dX4_readWheel_53 rfl ?_
        refine a_aload_n 1 dX4_readWheel_54 rfl ?_
        refine a_getI (j := 8) dX4_readWheel_55 KX4 rfl (by decide) rfl kf_RX4_31 ?_
        refine a_gd h (fun c9 h => ?_)
        refine a_iast (x' := wi (σ 12 6)) dX4_readWheel_58 rfl rfl c9 rfl ?_
        refine a_aload_n 1 dX4_readWheel_59 rfl ?_
        refine a_aload_n 1 dX4_readWheel_60 rfl ?_
        refine a_getI (j := 6) dX4_readWheel_61 KX4 rfl (by decide) rfl kf_RX4_25 ?_
        refine a_iconst dX4_readWheel_64 ?_
        refine a_iadd dX4_readWheel_65 ?_
        refine bn_s h (fun r10 σ12 e11 h => ?_)
        refine a_callVV dX4_readWheel_66 mX4_lookAt KX4 rfl kv_X4_lookAt ks_X4_lookAt rfl km_RX4_59 rfl (T_X4_lookAt e11) (fun _ => rfl) rfl (Nat.le_of_ble_eq_true rfl) (Nat.le_of_ble_eq_true rfl) ⟨(Nat.le_of_ble_eq_true rfl), (Nat.le_of_ble_eq_true rfl)⟩ (Nat.le_of_ble_eq_true rfl) ?_
        refine a_aload_n 1 dX4_readWheel_69 rfl ?_
        refine a_iconst dX4_readWheel_70 ?_
        refine a_iconst dX4_readWheel_71 ?_
        refine bp_s h (fun r13 e14 h => ?_)
        refine a_callVI dX4_readWheel_72 mX4_isNumber KX4 rfl kv_X4_isNumber ks_X4_isNumber rfl km_RX4_96 rfl (T_X4_isNumber e14) (fun _ => rfl) rfl (Nat.le_of_ble_eq_true rfl) (Nat.le_of_ble_eq_true rfl) ⟨(Nat.le_of_ble_eq_true rfl), (Nat.le_of_ble_eq_true rfl)⟩ (Nat.le_of_ble_eq_true rfl) ?_
        refine a_if_ne 80 dX4_readWheel_75 (by decide) rfl h (fun c15 h => ?_) (fun c15 h => ?_)
        · skip
          refine a_aload_n 1 dX4_readWheel_80 rfl ?_
          refine a_getR (j := 1) dX4_readWheel_81 KX4 rfl (by decide) rfl kf_RX4_38 ?_
          refine a_getRN (j := 2) dX4_readWheel_84 KX1 rfl (by decide) rfl kf_RX4_118 ?_
          refine a_iload_n 0 dX4_readWheel_87 rfl ?_
          refine a_aload_n 1 dX4_readWheel_88 rfl ?_
          refine a_getI (j := 8) dX4_readWheel_89 KX4 rfl (by decide) rfl kf_RX4_31 ?_
          refine a_gd h (fun c16 h => ?_)
          refine a_iast (x' := wi (σ 12 6)) dX4_readWheel_92 rfl rfl c16 rfl ?_
          refine a_aload_n 1 dX4_readWheel_93 rfl ?_
          refine a_getR (j := 1) dX4_readWheel_94 KX4 rfl (by decide) rfl kf_RX4_38 ?_
          refine a_dupR dX4_readWheel_97 ?_
          refine a_getIN (j := 6) dX4_readWheel_98 KX1 rfl (by decide) rfl kf_RX4_77 ?_
          refine a_iconst dX4_readWheel_101 ?_
          refine a_iadd dX4_readWheel_102 ?_
          refine a_putIN (j := 6) dX4_readWheel_103 KX1 rfl (by decide) rfl rfl rfl kf_RX4_77 ?_
          refine a_nmS h (fun σ17 w18 h => ?_)
          refine a_aload_n 1 dX4_readWheel_106 rfl ?_
          refine a_aload_n 1 dX4_readWheel_107 rfl ?_
          refine a_getI (j := 6) dX4_readWheel_108 KX4 rfl (by decide) rfl kf_RX4_25 ?_
          refine a_iconst dX4_readWheel_111 ?_
          refine a_iadd dX4_readWheel_112 ?_
          refine bn_s h (fun r19 σ21 e20 h => ?_)
          refine a_callVV dX4_readWheel_113 mX4_lookAt KX4 rfl kv_X4_lookAt ks_X4_lookAt rfl km_RX4_59 rfl (T_X4_lookAt e20) (fun _ => rfl) rfl (Nat.le_of_ble_eq_true rfl) (Nat.le_of_ble_eq_true rfl) ⟨(Nat.le_of_ble_eq_true rfl), (Nat.le_of_ble_eq_true rfl)⟩ (Nat.le_of_ble_eq_true rfl) ?_
          refine a_aload_n 1 dX4_readWheel_116 rfl ?_
          refine a_iconst dX4_readWheel_117 ?_
          refine bn_s h (fun r22 σ24 e23 h => ?_)
          refine a_callVI dX4_readWheel_118 mX4_take KX4 rfl kv_X4_take ks_X4_take rfl km_RX4_103 rfl (T_X4_take e23) (fun _ => rfl) rfl (Nat.le_of_ble_eq_true rfl) (Nat.le_of_ble_eq_true rfl) ⟨(Nat.le_of_ble_eq_true rfl), (Nat.le_of_ble_eq_true rfl)⟩ (Nat.le_of_ble_eq_true rfl) ?_
          refine a_gd h (fun c25 h => ?_)
          exact a_zret dX4_readWheel_121 rfl (nb_01 c25) (p_1 h) (p_S (p_2 h))
        · skip
          refine a_iconst dX4_readWheel_78 ?_
          exact a_zret dX4_readWheel_79 rfl (by decide) (p_1 h) (p_S (p_2 h))
      · skip
        refine a_iconst dX4_readWheel_44 ?_
        exact a_zret dX4_readWheel_45 rfl (by decide) (p_1 h) (p_S (p_2 h))

def X4_readOpen (σ : sM) : Option (Int × sM) := bn (X4_lookAt σ ((σ 22 6) + 1)) (fun r1 σ3 => bp (X4_isNumber σ3 1 3) (fun r4 => if ¬ wi r4 = 0 then bn (X4_lookAt (sU σ3 12 8 (σ3 22 8)) (((sU σ3 12 8 (σ3 22 8)) 22 6) + 1)) (fun r7 σ9 => bn (X4_take σ9 2) (fun r10 σ12 => if wi r10 = 0 ∨ wi r10 = 1 then some (r10, σ12) else none)) else some (0, σ3)))
set_option maxRecDepth 100000 in
set_option maxHeartbeats 400000 in
theorem T_X4_readOpen {G : sG} {q_0 : qT} {x_0 : List Nat} {σ s_0 : sM} {r_0 : Int}  (h : X4_readOpen σ = some (r_0, s_0)) : aM G yX4_readOpen cX4_readOpen 1 (some .boolean) 2 0 0 [.ref (gP G 22)] (mkSh q_0 x_0, σ) (r_0, (mkSh q_0 x_0, s_0)) := by
  unfold X4_readOpen at h
  refine aM_of (by decide) (Nat.le_of_ble_eq_true rfl) ?_
  show aW G cX4_readOpen RX4 "readOpen" 1 (some .boolean) _ _ aX 0 0 _ [(0, .ref (gP G 22))] 0 []
  refine a_aload_n 0 dX4_readOpen_0 rfl ?_
  refine a_aload_n 0 dX4_readOpen_1 rfl ?_
  refine a_getI (j := 6) dX4_readOpen_2 KX4 rfl (by decide) rfl kf_RX4_25 ?_
  refine a_iconst dX4_readOpen_5 ?_
  refine a_iadd dX4_readOpen_6 ?_
  refine bn_s h (fun r1 σ3 e2 h => ?_)
  refine a_callVV dX4_readOpen_7 mX4_lookAt KX4 rfl kv_X4_lookAt ks_X4_lookAt rfl km_RX4_59 rfl (T_X4_lookAt e2) (fun _ => rfl) rfl (Nat.le_of_ble_eq_true rfl) (Nat.le_of_ble_eq_true rfl) ⟨(Nat.le_of_ble_eq_true rfl), (Nat.le_of_ble_eq_true rfl)⟩ (Nat.le_of_ble_eq_true rfl) ?_
  refine a_aload_n 0 dX4_readOpen_10 rfl ?_
  refine a_iconst dX4_readOpen_11 ?_
  refine a_iconst dX4_readOpen_12 ?_
  refine bp_s h (fun r4 e5 h => ?_)
  refine a_callVI dX4_readOpen_13 mX4_isNumber KX4 rfl kv_X4_isNumber ks_X4_isNumber rfl km_RX4_96 rfl (T_X4_isNumber e5) (fun _ => rfl) rfl (Nat.le_of_ble_eq_true rfl) (Nat.le_of_ble_eq_true rfl) ⟨(Nat.le_of_ble_eq_true rfl), (Nat.le_of_ble_eq_true rfl)⟩ (Nat.le_of_ble_eq_true rfl) ?_
  refine a_if_ne 21 dX4_readOpen_16 (by decide) rfl h (fun c6 h => ?_) (fun c6 h => ?_)
  · skip
    refine a_aload_n 0 dX4_readOpen_21 rfl ?_
    refine a_getR (j := 1) dX4_readOpen_22 KX4 rfl (by decide) rfl kf_RX4_38 ?_
    refine a_aload_n 0 dX4_readOpen_25 rfl ?_
    refine a_getI (j := 8) dX4_readOpen_26 KX4 rfl (by decide) rfl kf_RX4_31 ?_
    refine a_putIN (j := 8) dX4_readOpen_29 KX1 rfl (by decide) rfl rfl rfl kf_RX4_121 ?_
    refine a_aload_n 0 dX4_readOpen_32 rfl ?_
    refine a_aload_n 0 dX4_readOpen_33 rfl ?_
    refine a_getI (j := 6) dX4_readOpen_34 KX4 rfl (by decide) rfl kf_RX4_25 ?_
    refine a_iconst dX4_readOpen_37 ?_
    refine a_iadd dX4_readOpen_38 ?_
    refine bn_s h (fun r7 σ9 e8 h => ?_)
    refine a_callVV dX4_readOpen_39 mX4_lookAt KX4 rfl kv_X4_lookAt ks_X4_lookAt rfl km_RX4_59 rfl (T_X4_lookAt e8) (fun _ => rfl) rfl (Nat.le_of_ble_eq_true rfl) (Nat.le_of_ble_eq_true rfl) ⟨(Nat.le_of_ble_eq_true rfl), (Nat.le_of_ble_eq_true rfl)⟩ (Nat.le_of_ble_eq_true rfl) ?_
    refine a_aload_n 0 dX4_readOpen_42 rfl ?_
    refine a_iconst dX4_readOpen_43 ?_
    refine bn_s h (fun r10 σ12 e11 h => ?_)
    refine a_callVI dX4_readOpen_44 mX4_take KX4 rfl kv_X4_take ks_X4_take rfl km_RX4_103 rfl (T_X4_take e11) (fun _ => rfl) rfl (Nat.le_of_ble_eq_true rfl) (Nat.le_of_ble_eq_true rfl) ⟨(Nat.le_of_ble_eq_true rfl), (Nat.le_of_ble_eq_true rfl)⟩ (Nat.le_of_ble_eq_true rfl) ?_
    refine a_gd h (fun c13 h => ?_)
    exact a_zret dX4_readOpen_47 rfl (nb_01 c13) (p_1 h) (p_S (p_2 h))
  · skip
    refine a_iconst dX4_readOpen_19 ?_
    exact a_zret dX4_readOpen_20 rfl (by decide) (p_1 h) (p_S (p_2 h))

def X4_readOfWeek (o1 o1n : Nat) (σ : sM) (a2 : Int) : Option (Int × sM) := bn (X4_lookAt σ ((σ 22 6) + 1)) (fun r1 σ3 => bp (X4_isNumber σ3 0 7) (fun r4 => if ¬ wi r4 = 0 then bn (X4_lookAt σ3 ((σ3 22 6) + 1)) (fun r7 σ9 => bp (X4_isNumber σ9 0 a2) (fun r10 => if wi r10 = 0 then some (0, σ9) else if wi (σ3 22 8) < 0 then some (0, σ9) else if wi (σ3 22 8) < wi (o1n : Int) then if 0 ≤ wi (σ3 22 8) ∧ wi (σ3 22 8) < o1n then bn (X4_lookAt (sU σ9 o1 (wi (σ3 22 8)).toNat (σ9 22 8)) (((sU σ9 o1 (wi (σ3 22 8)).toNat (σ9 22 8)) 22 6) + 1)) (fun r16 σ18 => bn (X4_take σ18 2) (fun r19 σ21 => if wi r19 = 0 ∨ wi r19 = 1 then some (r19, σ21) else none)) else none else some (0, σ9))) else some (0, σ3)))
set_option maxRecDepth 100000 in
set_option maxHeartbeats 400000 in
theorem T_X4_readOfWeek {G : sG} {q_0 : qT} {x_0 : List Nat} {σ s_0 : sM} {r_0 : Int} {a2 : Int} {o1 o1n : Nat} (h_o1 : (mkSh q_0 x_0)[o1]? = some (.inr (.int, o1n, gN))) (h : X4_readOfWeek o1 o1n σ a2 = some (r_0, s_0)) : aM G yX4_readOfWeek cX4_readOfWeek 4 (some .boolean) 2 0 0 [.ref (gP G 22), .ref (gP G o1), vI a2] (mkSh q_0 x_0, σ) (r_0, (mkSh q_0 x_0, s_0)) := by
  unfold X4_readOfWeek at h
  refine aM_of (by decide) (Nat.le_of_ble_eq_true rfl) ?_
  show aW G cX4_readOfWeek RX4 "readOfWeek" 4 (some .boolean) _ _ aX 0 0 _ [(0, .ref (gP G 22)), (1, .ref (gP G o1)), (2, vI a2)] 0 []
  refine a_aload_n 0 dX4_readOfWeek_0 rfl ?_
  refine a_aload_n 0 dX4_readOfWeek_1 rfl ?_
  refine a_getI (j := 6) dX4_readOfWeek_2 KX4 rfl (by decide) rfl kf_RX4_25 ?_
  refine a_iconst dX4_readOfWeek_5 ?_
  refine a_iadd dX4_readOfWeek_6 ?_
  refine bn_s h (fun r1 σ3 e2 h => ?_)
  refine a_callVV dX4_readOfWeek_7 mX4_lookAt KX4 rfl kv_X4_lookAt ks_X4_lookAt rfl km_RX4_59 rfl (T_X4_lookAt e2) (fun _ => rfl) rfl (Nat.le_of_ble_eq_true rfl) (Nat.le_of_ble_eq_true rfl) ⟨(Nat.le_of_ble_eq_true rfl), (Nat.le_of_ble_eq_true rfl)⟩ (Nat.le_of_ble_eq_true rfl) ?_
  refine a_aload_n 0 dX4_readOfWeek_10 rfl ?_
  refine a_iconst dX4_readOfWeek_11 ?_
  refine a_bipush dX4_readOfWeek_12 (by decide) ?_
  refine bp_s h (fun r4 e5 h => ?_)
  refine a_callVI dX4_readOfWeek_14 mX4_isNumber KX4 rfl kv_X4_isNumber ks_X4_isNumber rfl km_RX4_96 rfl (T_X4_isNumber e5) (fun _ => rfl) rfl (Nat.le_of_ble_eq_true rfl) (Nat.le_of_ble_eq_true rfl) ⟨(Nat.le_of_ble_eq_true rfl), (Nat.le_of_ble_eq_true rfl)⟩ (Nat.le_of_ble_eq_true rfl) ?_
  refine a_if_ne 22 dX4_readOfWeek_17 (by decide) rfl h (fun c6 h => ?_) (fun c6 h => ?_)
  · skip
    refine a_aload_n 0 dX4_readOfWeek_22 rfl ?_
    refine a_getI (j := 8) dX4_readOfWeek_23 KX4 rfl (by decide) rfl kf_RX4_31 ?_
    refine a_istore_n (L' := [(3, vI (σ3 22 8)), (0, .ref (gP G 22)), (1, .ref (gP G o1)), (2, vI a2)]) dX4_readOfWeek_26 (by decide) rfl ?_
    refine a_aload_n 1 dX4_readOfWeek_27 rfl ?_
    refine a_aload_n 1 dX4_readOfWeek_28 rfl ?_
    refine a_getI (j := 6) dX4_readOfWeek_29 KX4 rfl (by decide) rfl kf_RX4_25 ?_
    refine a_iconst dX4_readOfWeek_32 ?_
    refine a_iadd dX4_readOfWeek_33 ?_
    refine bn_s h (fun r7 σ9 e8 h => ?_)
    refine a_callVV dX4_readOfWeek_34 mX4_lookAt KX4 rfl kv_X4_lookAt ks_X4_lookAt rfl km_RX4_59 rfl (T_X4_lookAt e8) (fun _ => rfl) rfl (Nat.le_of_ble_eq_true rfl) (Nat.le_of_ble_eq_true rfl) ⟨(Nat.le_of_ble_eq_true rfl), (Nat.le_of_ble_eq_true rfl)⟩ (Nat.le_of_ble_eq_true rfl) ?_
    refine a_aload_n 1 dX4_readOfWeek_37 rfl ?_
    refine a_iconst dX4_readOfWeek_38 ?_
    refine a_iload_n 3 dX4_readOfWeek_39 rfl ?_
    refine bp_s h (fun r10 e11 h => ?_)
    refine a_callVI dX4_readOfWeek_40 mX4_isNumber KX4 rfl kv_X4_isNumber ks_X4_isNumber rfl km_RX4_96 rfl (T_X4_isNumber e11) (fun _ => rfl) rfl (Nat.le_of_ble_eq_true rfl) (Nat.le_of_ble_eq_true rfl) ⟨(Nat.le_of_ble_eq_true rfl), (Nat.le_of_ble_eq_true rfl)⟩ (Nat.le_of_ble_eq_true rfl) ?_
    refine a_if_eq 56 dX4_readOfWeek_43 (by decide) rfl h (fun c12 h => ?_) (fun c12 h => ?_)
    · skip
      refine a_iconst dX4_readOfWeek_56 ?_
      exact a_zret dX4_readOfWeek_57 rfl (by decide) (p_1 h) (p_S (p_2 h))
    · skip
      refine a_iload_n 0 dX4_readOfWeek_46 rfl ?_
      refine a_if_lt 56 dX4_readOfWeek_47 (by decide) rfl h (fun c13 h => ?_) (fun c13 h => ?_)
      · skip
        refine a_iconst dX4_readOfWeek_56 ?_
        exact a_zret dX4_readOfWeek_57 rfl (by decide) (p_1 h) (p_S (p_2 h))
      · skip
        refine a_iload_n 0 dX4_readOfWeek_50 rfl ?_
        refine a_aload_n 2 dX4_readOfWeek_51 rfl ?_
        refine a_alen dX4_readOfWeek_52 h_o1 ?_
        refine a_icmp_lt 58 dX4_readOfWeek_53 (by decide) rfl rfl h (fun c14 h => ?_) (fun c14 h => ?_)
        · skip
          refine a_aload_n 2 dX4_readOfWeek_58 rfl ?_
          refine a_iload_n 0 dX4_readOfWeek_59 rfl ?_
          refine a_aload_n 1 dX4_readOfWeek_60 rfl ?_
          refine a_getI (j := 8) dX4_readOfWeek_61 KX4 rfl (by decide) rfl kf_RX4_31 ?_
          refine a_gd h (fun c15 h => ?_)
          refine a_iast (x' := wi (σ3 22 8)) dX4_readOfWeek_64 h_o1 rfl c15 rfl ?_
          refine a_aload_n 1 dX4_readOfWeek_65 rfl ?_
          refine a_aload_n 1 dX4_readOfWeek_66 rfl ?_
          refine a_getI (j := 6) dX4_readOfWeek_67 KX4 rfl (by decide) rfl kf_RX4_25 ?_
          refine a_iconst dX4_readOfWeek_70 ?_
          refine a_iadd dX4_readOfWeek_71 ?_
          refine bn_s h (fun r16 σ18 e17 h => ?_)
          refine a_callVV dX4_readOfWeek_72 mX4_lookAt KX4 rfl kv_X4_lookAt ks_X4_lookAt rfl km_RX4_59 rfl (T_X4_lookAt e17) (fun _ => rfl) rfl (Nat.le_of_ble_eq_true rfl) (Nat.le_of_ble_eq_true rfl) ⟨(Nat.le_of_ble_eq_true rfl), (Nat.le_of_ble_eq_true rfl)⟩ (Nat.le_of_ble_eq_true rfl) ?_
          refine a_aload_n 1 dX4_readOfWeek_75 rfl ?_
          refine a_iconst dX4_readOfWeek_76 ?_
          refine bn_s h (fun r19 σ21 e20 h => ?_)
          refine a_callVI dX4_readOfWeek_77 mX4_take KX4 rfl kv_X4_take ks_X4_take rfl km_RX4_103 rfl (T_X4_take e20) (fun _ => rfl) rfl (Nat.le_of_ble_eq_true rfl) (Nat.le_of_ble_eq_true rfl) ⟨(Nat.le_of_ble_eq_true rfl), (Nat.le_of_ble_eq_true rfl)⟩ (Nat.le_of_ble_eq_true rfl) ?_
          refine a_gd h (fun c22 h => ?_)
          exact a_zret dX4_readOfWeek_80 rfl (nb_01 c22) (p_1 h) (p_S (p_2 h))
        · skip
          refine a_iconst dX4_readOfWeek_56 ?_
          exact a_zret dX4_readOfWeek_57 rfl (by decide) (p_1 h) (p_S (p_2 h))
  · skip
    refine a_iconst dX4_readOfWeek_20 ?_
    exact a_zret dX4_readOfWeek_21 rfl (by decide) (p_1 h) (p_S (p_2 h))

def X4_takeRow (F : Nat) (o1 o1n : Nat) (σ : sM) (a2 a3 a4 : Int) : Option (Int × sM) := lp (fun K2 (q1 : sM × Int) => if wi a3 ≤ wi q1.2 then some (1, q1.1) else if wi q1.2 < 0 then some (1, q1.1) else if wi (o1n : Int) ≤ wi q1.2 then some (1, q1.1) else bp (X4_isNumber q1.1 0 a4) (fun r6 => if ¬ wi r6 = 0 then if 0 ≤ wi q1.2 ∧ wi q1.2 < o1n then bn (X4_lookAt (sU q1.1 o1 (wi q1.2).toNat (q1.1 22 8)) (((sU q1.1 o1 (wi q1.2).toNat (q1.1 22 8)) 22 6) + 1)) (fun r10 σ12 => K2 (σ12, q1.2 + 1)) else none else some (0, q1.1))) F (σ, a2)
set_option maxRecDepth 100000 in
set_option maxHeartbeats 400000 in
theorem T_X4_takeRow {G : sG} {q_0 : qT} {x_0 : List Nat} {σ s_0 : sM} {r_0 : Int} {a2 a3 a4 : Int} {o1 o1n : Nat} {F : Nat} (h_o1 : (mkSh q_0 x_0)[o1]? = some (.inr (.int, o1n, gN))) (h : X4_takeRow F o1 o1n σ a2 a3 a4 = some (r_0, s_0)) : aM G yX4_takeRow cX4_takeRow 6 (some .boolean) 1 0 0 [.ref (gP G 22), .ref (gP G o1), vI a2, vI a3, vI a4] (mkSh q_0 x_0, σ) (r_0, (mkSh q_0 x_0, s_0)) := by
  unfold X4_takeRow at h
  refine aM_of (by decide) (Nat.le_of_ble_eq_true rfl) ?_
  show aW G cX4_takeRow RX4 "takeRow" 6 (some .boolean) _ _ aX 0 0 _ [(0, .ref (gP G 22)), (1, .ref (gP G o1)), (2, vI a2), (3, vI a3), (4, vI a4)] 0 []
  refine a_iload_n 2 dX4_takeRow_0 rfl ?_
  refine a_istore (L' := [(5, vI a2), (0, .ref (gP G 22)), (1, .ref (gP G o1)), (2, vI a2), (3, vI a3), (4, vI a4)]) dX4_takeRow_1 (by decide) rfl ?_
  refine a_sub (L' := [(0, .ref (gP G 22)), (1, .ref (gP G o1)), (3, vI a3), (4, vI a4), (5, vI a2)]) [1, 2, 4, 5, 0] rfl (lp_s (x := (σ, a2)) (fun q1 : sM × Int => aW G cX4_takeRow RX4 "takeRow" 6 (some .boolean) (sR 1 0 0) (aQ G (some .boolean) 0 0 (r_0, (mkSh q_0 x_0, s_0))) aX 0 0 (mkSh q_0 x_0, q1.1) [(0, .ref (gP G 22)), (1, .ref (gP G o1)), (3, vI a3), (4, vI a4), (5, vI q1.2)] 3 []) h (fun K2 hK2 q1 h => ?_))
  refine a_iload 4 dX4_takeRow_3 rfl ?_
  refine a_iload_n 2 dX4_takeRow_5 rfl ?_
  refine a_icmp_ge 57 dX4_takeRow_6 (by decide) rfl rfl h (fun c3 h => ?_) (fun c3 h => ?_)
  · skip
    refine a_iconst dX4_takeRow_57 ?_
    exact a_zret dX4_takeRow_58 rfl (by decide) (p_1 h) (p_S (p_2 h))
  · skip
    refine a_iload 4 dX4_takeRow_9 rfl ?_
    refine a_if_lt 57 dX4_takeRow_11 (by decide) rfl h (fun c4 h => ?_) (fun c4 h => ?_)
    · skip
      refine a_iconst dX4_takeRow_57 ?_
      exact a_zret dX4_takeRow_58 rfl (by decide) (p_1 h) (p_S (p_2 h))
    · skip
      refine a_iload 4 dX4_takeRow_14 rfl ?_
      refine a_aload_n 1 dX4_takeRow_16 rfl ?_
      refine a_alen dX4_takeRow_17 h_o1 ?_
      refine a_icmp_ge 57 dX4_takeRow_18 (by decide) rfl rfl h (fun c5 h => ?_) (fun c5 h => ?_)
      · skip
        refine a_iconst dX4_takeRow_57 ?_
        exact a_zret dX4_takeRow_58 rfl (by decide) (p_1 h) (p_S (p_2 h))
      · skip
        refine a_aload_n 0 dX4_takeRow_21 rfl ?_
        refine a_iconst dX4_takeRow_22 ?_
        refine a_iload 3 dX4_takeRow_23 rfl ?_
        refine bp_s h (fun r6 e7 h => ?_)
        refine a_callVI dX4_takeRow_25 mX4_isNumber KX4 rfl kv_X4_isNumber ks_X4_isNumber rfl km_RX4_96 rfl (T_X4_isNumber e7) (fun _ => rfl) rfl (Nat.le_of_ble_eq_true rfl) (Nat.le_of_ble_eq_true rfl) ⟨(Nat.le_of_ble_eq_true rfl), (Nat.le_of_ble_eq_true rfl)⟩ (Nat.le_of_ble_eq_true rfl) ?_
        refine a_if_ne 33 dX4_takeRow_28 (by decide) rfl h (fun c8 h => ?_) (fun c8 h => ?_)
        · skip
          refine a_aload_n 1 dX4_takeRow_33 rfl ?_
          refine a_iload 4 dX4_takeRow_34 rfl ?_
          refine a_aload_n 0 dX4_takeRow_36 rfl ?_
          refine a_getI (j := 8) dX4_takeRow_37 KX4 rfl (by decide) rfl kf_RX4_31 ?_
          refine a_gd h (fun c9 h => ?_)
          refine a_iast (x' := wi q1.2) dX4_takeRow_40 h_o1 rfl c9 rfl ?_
          refine a_aload_n 0 dX4_takeRow_41 rfl ?_
          refine a_aload_n 0 dX4_takeRow_42 rfl ?_
          refine a_getI (j := 6) dX4_takeRow_43 KX4 rfl (by decide) rfl kf_RX4_25 ?_
          refine a_iconst dX4_takeRow_46 ?_
          refine a_iadd dX4_takeRow_47 ?_
          refine bn_s h (fun r10 σ12 e11 h => ?_)
          refine a_callVV dX4_takeRow_48 mX4_lookAt KX4 rfl kv_X4_lookAt ks_X4_lookAt rfl km_RX4_59 rfl (T_X4_lookAt e11) (fun _ => rfl) rfl (Nat.le_of_ble_eq_true rfl) (Nat.le_of_ble_eq_true rfl) ⟨(Nat.le_of_ble_eq_true rfl), (Nat.le_of_ble_eq_true rfl)⟩ (Nat.le_of_ble_eq_true rfl) ?_
          refine a_iinc (L' := [(5, vI (q1.2 + 1)), (0, .ref (gP G 22)), (1, .ref (gP G o1)), (3, vI a3), (4, vI a4)]) 4 dX4_takeRow_51 rfl (by decide) rfl ?_
          refine a_goto 3 dX4_takeRow_54 (by decide) ?_
          have hh := hK2 _ h
          exact a_sub [1, 2, 3, 4, 0] rfl hh
        · skip
          refine a_iconst dX4_takeRow_31 ?_
          exact a_zret dX4_takeRow_32 rfl (by decide) (p_1 h) (p_S (p_2 h))

def X4_wordOf (F : Nat) (σ : sM) (a1 a2 : Int) : Option Int := bp (X4_isWord F 0 σ a1 a2) (fun r1 => if wi r1 = 0 then bp (X4_isWord F 1 σ a1 a2) (fun r4 => if wi r4 = 0 then bp (X4_isWord F 2 σ a1 a2) (fun r7 => if wi r7 = 0 then bp (X4_isWord F 3 σ a1 a2) (fun r10 => if wi r10 = 0 then bp (X4_isWord F 4 σ a1 a2) (fun r13 => if wi r13 = 0 then bp (X4_isWord F 5 σ a1 a2) (fun r16 => if wi r16 = 0 then bp (X4_isWord F 6 σ a1 a2) (fun r19 => if wi r19 = 0 then bp (X4_isWord F 7 σ a1 a2) (fun r22 => if wi r22 = 0 then bp (X4_isWord F 8 σ a1 a2) (fun r25 => if wi r25 = 0 then some 3 else some 12) else some 11) else some 10) else some 9) else some 8) else some 7) else some 6) else some 5) else some 4)
set_option maxRecDepth 100000 in
set_option maxHeartbeats 400000 in
theorem T_X4_wordOf {G : sG} {q_0 : qT} {x_0 : List Nat} {σ : sM} {r_0 : Int} {a1 a2 : Int} {F : Nat}  (h : X4_wordOf F σ a1 a2 = some r_0) : aM G yX4_wordOf cX4_wordOf 3 (some .int) 5 0 0 [.ref (gP G 22), vI a1, vI a2] (mkSh q_0 x_0, σ) (r_0, (mkSh q_0 x_0, σ)) := by
  unfold X4_wordOf at h
  refine aM_of (by decide) (Nat.le_of_ble_eq_true rfl) ?_
  show aW G cX4_wordOf RX4 "wordOf" 3 (some .int) _ _ aX 0 0 _ [(0, .ref (gP G 22)), (1, vI a1), (2, vI a2)] 0 []
  refine a_aload_n 0 dX4_wordOf_0 rfl ?_
  refine a_ldcS (i := 0) dX4_wordOf_1 rfl rfl rfl ?_
  refine a_iload_n 1 dX4_wordOf_3 rfl ?_
  refine a_iload_n 2 dX4_wordOf_4 rfl ?_
  refine bp_s h (fun r1 e2 h => ?_)
  refine a_callVI dX4_wordOf_5 mX4_isWord KX4 rfl kv_X4_isWord ks_X4_isWord rfl km_RX4_142 rfl (T_X4_isWord (by decide) e2) (fun _ => rfl) rfl (Nat.le_of_ble_eq_true rfl) (Nat.le_of_ble_eq_true rfl) ⟨(Nat.le_of_ble_eq_true rfl), (Nat.le_of_ble_eq_true rfl)⟩ (Nat.le_of_ble_eq_true rfl) ?_
  refine a_if_eq 13 dX4_wordOf_8 (by decide) rfl h (fun c3 h => ?_) (fun c3 h => ?_)
  · skip
    refine a_aload_n 0 dX4_wordOf_13 rfl ?_
    refine a_ldcS (i := 1) dX4_wordOf_14 rfl rfl rfl ?_
    refine a_iload_n 1 dX4_wordOf_16 rfl ?_
    refine a_iload_n 2 dX4_wordOf_17 rfl ?_
    refine bp_s h (fun r4 e5 h => ?_)
    refine a_callVI dX4_wordOf_18 mX4_isWord KX4 rfl kv_X4_isWord ks_X4_isWord rfl km_RX4_142 rfl (T_X4_isWord (by decide) e5) (fun _ => rfl) rfl (Nat.le_of_ble_eq_true rfl) (Nat.le_of_ble_eq_true rfl) ⟨(Nat.le_of_ble_eq_true rfl), (Nat.le_of_ble_eq_true rfl)⟩ (Nat.le_of_ble_eq_true rfl) ?_
    refine a_if_eq 26 dX4_wordOf_21 (by decide) rfl h (fun c6 h => ?_) (fun c6 h => ?_)
    · skip
      refine a_aload_n 0 dX4_wordOf_26 rfl ?_
      refine a_ldcS (i := 2) dX4_wordOf_27 rfl rfl rfl ?_
      refine a_iload_n 1 dX4_wordOf_29 rfl ?_
      refine a_iload_n 2 dX4_wordOf_30 rfl ?_
      refine bp_s h (fun r7 e8 h => ?_)
      refine a_callVI dX4_wordOf_31 mX4_isWord KX4 rfl kv_X4_isWord ks_X4_isWord rfl km_RX4_142 rfl (T_X4_isWord (by decide) e8) (fun _ => rfl) rfl (Nat.le_of_ble_eq_true rfl) (Nat.le_of_ble_eq_true rfl) ⟨(Nat.le_of_ble_eq_true rfl), (Nat.le_of_ble_eq_true rfl)⟩ (Nat.le_of_ble_eq_true rfl) ?_
      refine a_if_eq 40 dX4_wordOf_34 (by decide) rfl h (fun c9 h => ?_) (fun c9 h => ?_)
      · skip
        refine a_aload_n 0 dX4_wordOf_40 rfl ?_
        refine a_ldcS (i := 3) dX4_wordOf_41 rfl rfl rfl ?_
        refine a_iload_n 1 dX4_wordOf_43 rfl ?_
        refine a_iload_n 2 dX4_wordOf_44 rfl ?_
        refine bp_s h (fun r10 e11 h => ?_)
        refine a_callVI dX4_wordOf_45 mX4_isWord KX4 rfl kv_X4_isWord ks_X4_isWord rfl km_RX4_142 rfl (T_X4_isWord (by decide) e11) (fun _ => rfl) rfl (Nat.le_of_ble_eq_true rfl) (Nat.le_of_ble_eq_true rfl) ⟨(Nat.le_of_ble_eq_true rfl), (Nat.le_of_ble_eq_true rfl)⟩ (Nat.le_of_ble_eq_true rfl) ?_
        refine a_if_eq 54 dX4_wordOf_48 (by decide) rfl h (fun c12 h => ?_) (fun c12 h => ?_)
        · skip
          refine a_aload_n 0 dX4_wordOf_54 rfl ?_
          refine a_ldcS (i := 4) dX4_wordOf_55 rfl rfl rfl ?_
          refine a_iload_n 1 dX4_wordOf_57 rfl ?_
          refine a_iload_n 2 dX4_wordOf_58 rfl ?_
          refine bp_s h (fun r13 e14 h => ?_)
          refine a_callVI dX4_wordOf_59 mX4_isWord KX4 rfl kv_X4_isWord ks_X4_isWord rfl km_RX4_142 rfl (T_X4_isWord (by decide) e14) (fun _ => rfl) rfl (Nat.le_of_ble_eq_true rfl) (Nat.le_of_ble_eq_true rfl) ⟨(Nat.le_of_ble_eq_true rfl), (Nat.le_of_ble_eq_true rfl)⟩ (Nat.le_of_ble_eq_true rfl) ?_
          refine a_if_eq 68 dX4_wordOf_62 (by decide) rfl h (fun c15 h => ?_) (fun c15 h => ?_)
          · skip
            refine a_aload_n 0 dX4_wordOf_68 rfl ?_
            refine a_ldcS (i := 5) dX4_wordOf_69 rfl rfl rfl ?_
            refine a_iload_n 1 dX4_wordOf_71 rfl ?_
            refine a_iload_n 2 dX4_wordOf_72 rfl ?_
            refine bp_s h (fun r16 e17 h => ?_)
            refine a_callVI dX4_wordOf_73 mX4_isWord KX4 rfl kv_X4_isWord ks_X4_isWord rfl km_RX4_142 rfl (T_X4_isWord (by decide) e17) (fun _ => rfl) rfl (Nat.le_of_ble_eq_true rfl) (Nat.le_of_ble_eq_true rfl) ⟨(Nat.le_of_ble_eq_true rfl), (Nat.le_of_ble_eq_true rfl)⟩ (Nat.le_of_ble_eq_true rfl) ?_
            refine a_if_eq 82 dX4_wordOf_76 (by decide) rfl h (fun c18 h => ?_) (fun c18 h => ?_)
            · skip
              refine a_aload_n 0 dX4_wordOf_82 rfl ?_
              refine a_ldcS (i := 6) dX4_wordOf_83 rfl rfl rfl ?_
              refine a_iload_n 1 dX4_wordOf_85 rfl ?_
              refine a_iload_n 2 dX4_wordOf_86 rfl ?_
              refine bp_s h (fun r19 e20 h => ?_)
              refine a_callVI dX4_wordOf_87 mX4_isWord KX4 rfl kv_X4_isWord ks_X4_isWord rfl km_RX4_142 rfl (T_X4_isWord (by decide) e20) (fun _ => rfl) rfl (Nat.le_of_ble_eq_true rfl) (Nat.le_of_ble_eq_true rfl) ⟨(Nat.le_of_ble_eq_true rfl), (Nat.le_of_ble_eq_true rfl)⟩ (Nat.le_of_ble_eq_true rfl) ?_
              refine a_if_eq 96 dX4_wordOf_90 (by decide) rfl h (fun c21 h => ?_) (fun c21 h => ?_)
              · skip
                refine a_aload_n 0 dX4_wordOf_96 rfl ?_
                refine a_ldcS (i := 7) dX4_wordOf_97 rfl rfl rfl ?_
                refine a_iload_n 1 dX4_wordOf_99 rfl ?_
                refine a_iload_n 2 dX4_wordOf_100 rfl ?_
                refine bp_s h (fun r22 e23 h => ?_)
                refine a_callVI dX4_wordOf_101 mX4_isWord KX4 rfl kv_X4_isWord ks_X4_isWord rfl km_RX4_142 rfl (T_X4_isWord (by decide) e23) (fun _ => rfl) rfl (Nat.le_of_ble_eq_true rfl) (Nat.le_of_ble_eq_true rfl) ⟨(Nat.le_of_ble_eq_true rfl), (Nat.le_of_ble_eq_true rfl)⟩ (Nat.le_of_ble_eq_true rfl) ?_
                refine a_if_eq 110 dX4_wordOf_104 (by decide) rfl h (fun c24 h => ?_) (fun c24 h => ?_)
                · skip
                  refine a_aload_n 0 dX4_wordOf_110 rfl ?_
                  refine a_ldcS (i := 8) dX4_wordOf_111 rfl rfl rfl ?_
                  refine a_iload_n 1 dX4_wordOf_113 rfl ?_
                  refine a_iload_n 2 dX4_wordOf_114 rfl ?_
                  refine bp_s h (fun r25 e26 h => ?_)
                  refine a_callVI dX4_wordOf_115 mX4_isWord KX4 rfl kv_X4_isWord ks_X4_isWord rfl km_RX4_142 rfl (T_X4_isWord (by decide) e26) (fun _ => rfl) rfl (Nat.le_of_ble_eq_true rfl) (Nat.le_of_ble_eq_true rfl) ⟨(Nat.le_of_ble_eq_true rfl), (Nat.le_of_ble_eq_true rfl)⟩ (Nat.le_of_ble_eq_true rfl) ?_
                  refine a_if_eq 124 dX4_wordOf_118 (by decide) rfl h (fun c27 h => ?_) (fun c27 h => ?_)
                  · skip
                    refine a_iconst dX4_wordOf_124 ?_
                    exact a_iret dX4_wordOf_125 rfl (s_inj h) rfl
                  · skip
                    refine a_bipush dX4_wordOf_121 (by decide) ?_
                    exact a_iret dX4_wordOf_123 rfl (s_inj h) rfl
                · skip
                  refine a_bipush dX4_wordOf_107 (by decide) ?_
                  exact a_iret dX4_wordOf_109 rfl (s_inj h) rfl
              · skip
                refine a_bipush dX4_wordOf_93 (by decide) ?_
                exact a_iret dX4_wordOf_95 rfl (s_inj h) rfl
            · skip
              refine a_bipush dX4_wordOf_79 (by decide) ?_
              exact a_iret dX4_wordOf_81 rfl (s_inj h) rfl
          · skip
            refine a_bipush dX4_wordOf_65 (by decide) ?_
            exact a_iret dX4_wordOf_67 rfl (s_inj h) rfl
        · skip
          refine a_bipush dX4_wordOf_51 (by decide) ?_
          exact a_iret dX4_wordOf_53 rfl (s_inj h) rfl
      · skip
        refine a_bipush dX4_wordOf_37 (by decide) ?_
        exact a_iret dX4_wordOf_39 rfl (s_inj h) rfl
    · skip
      refine a_iconst dX4_wordOf_24 ?_
      exact a_iret dX4_wordOf_25 rfl (s_inj h) rfl
  · skip
    refine a_iconst dX4_wordOf_11 ?_
    exact a_iret dX4_wordOf_12 rfl (s_inj h) rfl

def X5_becomeLeast (F : Nat) (o0 : Nat) (σ : sM) : Option (Int × sM) := lp (fun K2 (q1 : Int × Int) => if 4 ≤ wi q1.2 then lp (fun K5 (q4 : sM × Int) => if 4 ≤ wi q4.2 then some (0, q4.1) else if wi (q_lcmp q1.1 1) ≤ 0 then some (0, q4.1) else if 0 ≤ wi q4.2 ∧ wi q4.2 < 4 then if ¬ wl q1.1 = 0 then if 0 ≤ wi q4.2 ∧ wi q4.2 < 4 then K5 ((sU q4.1 (o0 + 1) (wi q4.2).toNat (q_ldiv (q4.1 (o0 + 1) (wi q4.2).toNat) q1.1)), q4.2 + 1) else none else none else none) F (σ, 0) else if 0 ≤ wi q1.2 ∧ wi q1.2 < 4 then bp (X8_commonPart F σ q1.1 (σ (o0 + 1) (wi q1.2).toNat)) (fun r12 => K2 (r12, q1.2 + 1)) else none) F (0, 0)
set_option maxRecDepth 100000 in
set_option maxHeartbeats 400000 in
theorem T_X5_becomeLeast {G : sG} {q_0 : qT} {x_0 : List Nat} {σ s_0 : sM} {r_0 : Int} {o0 : Nat} {F : Nat} (h_o0 : (mkSh q_0 x_0)[o0]? = some (.inl (5, [.ref (o0 + 1)]))) (g_o0 : (mkSh q_0 x_0)[o0 + 1]? = some (.inr (.long, 4, gN))) (h : X5_becomeLeast F o0 σ = some (r_0, s_0)) : aM G yX5_becomeLeast cX5_becomeLeast 4 none 1 0 0 [.ref (gP G o0)] (mkSh q_0 x_0, σ) (r_0, (mkSh q_0 x_0, s_0)) := by
  unfold X5_becomeLeast at h
  refine aM_of (by decide) (Nat.le_of_ble_eq_true rfl) ?_
  show aW G cX5_becomeLeast RX5 "becomeLeast" 4 none _ _ aX 0 0 _ [(0, .ref (gP G o0))] 0 []
  refine a_lconst (z := 0) dX5_becomeLeast_0 (by decide) ?_
  refine a_lstore_n (L' := [(1, vL 0), (0, .ref (gP G o0))]) dX5_becomeLeast_1 (by decide) rfl ?_
  refine a_iconst dX5_becomeLeast_2 ?_
  refine a_istore_n (L' := [(3, vI 0), (1, vL 0), (0, .ref (gP G o0))]) dX5_becomeLeast_3 (by decide) rfl ?_
  refine a_sub (L' := [(0, .ref (gP G o0)), (1, vL 0), (3, vI 0)]) [2, 1, 0] rfl (lp_s (x := (0, 0)) (fun q1 : Int × Int => aW G cX5_becomeLeast RX5 "becomeLeast" 4 none (sR 1 0 0) (aQ G none 0 0 (r_0, (mkSh q_0 x_0, s_0))) aX 0 0 (mkSh q_0 x_0, σ) [(0, .ref (gP G o0)), (1, vL q1.1), (3, vI q1.2)] 4 []) h (fun K2 hK2 q1 h => ?_))
  refine a_iload_n 2 dX5_becomeLeast_4 rfl ?_
  refine a_iconst dX5_becomeLeast_5 ?_
  refine a_icmp_ge 26 dX5_becomeLeast_6 (by decide) rfl (by decide) h (fun c3 h => ?_) (fun c3 h => ?_)
  · skip
    refine a_iconst dX5_becomeLeast_26 ?_
    refine a_istore_n (L' := [(3, vI 0), (0, .ref (gP G o0)), (1, vL q1.1)]) dX5_becomeLeast_27 (by decide) rfl ?_
    refine a_sub (L' := [(0, .ref (gP G o0)), (1, vL q1.1), (3, vI 0)]) [1, 2, 0] rfl (lp_s (x := (σ, 0)) (fun q4 : sM × Int => aW G cX5_becomeLeast RX5 "becomeLeast" 4 none (sR 1 0 0) (aQ G none 0 0 (r_0, (mkSh q_0 x_0, s_0))) aX 0 0 (mkSh q_0 x_0, q4.1) [(0, .ref (gP G o0)), (1, vL q1.1), (3, vI q4.2)] 28 []) h (fun K5 hK5 q4 h => ?_))
    refine a_iload_n 2 dX5_becomeLeast_28 rfl ?_
    refine a_iconst dX5_becomeLeast_29 ?_
    refine a_icmp_ge 55 dX5_becomeLeast_30 (by decide) rfl (by decide) h (fun c6 h => ?_) (fun c6 h => ?_)
    · skip
      exact a_vret dX5_becomeLeast_55 rfl (p_S (p_2 h))
    · skip
      refine a_lload_n 1 dX5_becomeLeast_33 rfl ?_
      refine a_lconst (z := 1) dX5_becomeLeast_34 (by decide) ?_
      refine a_lcmp dX5_becomeLeast_35 ?_
      refine a_if_le 55 dX5_becomeLeast_36 (by decide) rfl h (fun c7 h => ?_) (fun c7 h => ?_)
      · skip
        exact a_vret dX5_becomeLeast_55 rfl (p_S (p_2 h))
      · skip
        refine a_aload_n 0 dX5_becomeLeast_39 rfl ?_
        refine a_getR (j := 0) dX5_becomeLeast_40 KX5 h_o0 (by decide) rfl kf_RX5_9 ?_
        refine a_iload_n 2 dX5_becomeLeast_43 rfl ?_
        refine a_dup2 dX5_becomeLeast_44 ?_
        refine a_gd h (fun c8 h => ?_)
        refine a_lald (x' := wi q4.2) dX5_becomeLeast_45 g_o0 rfl c8 rfl ?_
        refine a_lload_n 1 dX5_becomeLeast_46 rfl ?_
        refine a_gd h (fun c9 h => ?_)
        refine a_ldiv dX5_becomeLeast_47 (nz_l c9) ?_
        refine a_gd h (fun c10 h => ?_)
        refine a_last (x' := wi q4.2) dX5_becomeLeast_48 g_o0 rfl c10 rfl ?_
        refine a_iinc (L' := [(3, vI (q4.2 + 1)), (0, .ref (gP G o0)), (1, vL q1.1)]) 2 dX5_becomeLeast_49 rfl (by decide) rfl ?_
        refine a_goto 28 dX5_becomeLeast_52 (by decide) ?_
        have hh := hK5 _ h
        exact a_sub [1, 2, 0] rfl hh
  · skip
    refine a_lload_n 1 dX5_becomeLeast_9 rfl ?_
    refine a_aload_n 0 dX5_becomeLeast_10 rfl ?_
    refine a_getR (j := 0) dX5_becomeLeast_11 KX5 h_o0 (by decide) rfl kf_RX5_9 ?_
    refine a_iload_n 2 dX5_becomeLeast_14 rfl ?_
    refine a_gd h (fun c11 h => ?_)
    refine a_lald (x' := wi q1.2) dX5_becomeLeast_15 g_o0 rfl c11 rfl ?_
    refine bp_s h (fun r12 e13 h => ?_)
    refine a_callSNL dX5_becomeLeast_16 mX8_commonPart kv_X8_commonPart km_RX5_33 rfl (T_X8_commonPart e13) (fun _ => rfl) rfl (Nat.le_of_ble_eq_true rfl) (Nat.le_of_ble_eq_true rfl) ⟨(Nat.le_of_ble_eq_true rfl), (Nat.le_of_ble_eq_true rfl)⟩ (Nat.le_of_ble_eq_true rfl) ?_
    refine a_lstore_n (L' := [(1, vL r12), (0, .ref (gP G o0)), (3, vI q1.2)]) dX5_becomeLeast_19 (by decide) rfl ?_
    refine a_iinc (L' := [(3, vI (q1.2 + 1)), (1, vL r12), (0, .ref (gP G o0))]) 2 dX5_becomeLeast_20 rfl (by decide) rfl ?_
    refine a_goto 4 dX5_becomeLeast_23 (by decide) ?_
    have hh := hK2 _ h
    exact a_sub [2, 1, 0] rfl hh

def X6_takeTrial (F : Nat) (σ : sM) : Option (Int × sM) := bn (X5_becomeLeast F 52 σ) (fun r1 σ3 => bp (X5_greatest 52 σ3) (fun r4 => if wi (q_lcmp r4 1000000000000) ≤ 0 then bn (X5_becomeLike 50 52 σ3) (fun r7 σ9 => some (1, σ9)) else some ((-3), σ3)))
set_option maxRecDepth 100000 in
set_option maxHeartbeats 400000 in
theorem T_X6_takeTrial {G : sG} {q_0 : qT} {x_0 : List Nat} {σ s_0 : sM} {r_0 : Int} {F : Nat}  (h : X6_takeTrial F σ = some (r_0, s_0)) : aM G yX6_takeTrial cX6_takeTrial 1 (some .int) 2 0 0 [.ref (gP G 49)] (mkSh q_0 x_0, σ) (r_0, (mkSh q_0 x_0, s_0)) := by
  unfold X6_takeTrial at h
  refine aM_of (by decide) (Nat.le_of_ble_eq_true rfl) ?_
  show aW G cX6_takeTrial RX6 "takeTrial" 1 (some .int) _ _ aX 0 0 _ [(0, .ref (gP G 49))] 0 []
  refine a_aload_n 0 dX6_takeTrial_0 rfl ?_
  refine a_getR (j := 2) dX6_takeTrial_1 KX6 rfl (by decide) rfl kf_RX6_18 ?_
  refine bn_s h (fun r1 σ3 e2 h => ?_)
  refine a_callVV dX6_takeTrial_4 mX5_becomeLeast KX5 rfl kv_X5_becomeLeast ks_X5_becomeLeast rfl km_RX6_59 rfl (T_X5_becomeLeast rfl rfl e2) (fun _ => rfl) rfl (Nat.le_of_ble_eq_true rfl) (Nat.le_of_ble_eq_true rfl) ⟨(Nat.le_of_ble_eq_true rfl), (Nat.le_of_ble_eq_true rfl)⟩ (Nat.le_of_ble_eq_true rfl) ?_
  refine a_aload_n 0 dX6_takeTrial_7 rfl ?_
  refine a_getR (j := 2) dX6_takeTrial_8 KX6 rfl (by decide) rfl kf_RX6_18 ?_
  refine bp_s h (fun r4 e5 h => ?_)
  refine a_callVL dX6_takeTrial_11 mX5_greatest KX5 rfl kv_X5_greatest ks_X5_greatest rfl km_RX6_62 rfl (T_X5_greatest rfl rfl e5) (fun _ => rfl) rfl (Nat.le_of_ble_eq_true rfl) (Nat.le_of_ble_eq_true rfl) ⟨(Nat.le_of_ble_eq_true rfl), (Nat.le_of_ble_eq_true rfl)⟩ (Nat.le_of_ble_eq_true rfl) ?_
  refine a_ldc2 (z := 1000000000000) dX6_takeTrial_14 kc_RX6_65 (by decide) ?_
  refine a_lcmp dX6_takeTrial_17 ?_
  refine a_if_le 24 dX6_takeTrial_18 (by decide) rfl h (fun c6 h => ?_) (fun c6 h => ?_)
  · skip
    refine a_aload_n 0 dX6_takeTrial_24 rfl ?_
    refine a_getR (j := 1) dX6_takeTrial_25 KX6 rfl (by decide) rfl kf_RX6_12 ?_
    refine a_aload_n 0 dX6_takeTrial_28 rfl ?_
    refine a_getR (j := 2) dX6_takeTrial_29 KX6 rfl (by decide) rfl kf_RX6_18 ?_
    refine bn_s h (fun r7 σ9 e8 h => ?_)
    refine a_callVV dX6_takeTrial_32 mX5_becomeLike KX5 rfl kv_X5_becomeLike ks_X5_becomeLike rfl km_RX6_39 rfl (T_X5_becomeLike rfl rfl rfl rfl e8) (fun _ => rfl) rfl (Nat.le_of_ble_eq_true rfl) (Nat.le_of_ble_eq_true rfl) ⟨(Nat.le_of_ble_eq_true rfl), (Nat.le_of_ble_eq_true rfl)⟩ (Nat.le_of_ble_eq_true rfl) ?_
    refine a_iconst dX6_takeTrial_35 ?_
    exact a_iret dX6_takeTrial_36 rfl (p_1 h) (p_S (p_2 h))
  · skip
    refine a_bipush dX6_takeTrial_21 (by decide) ?_
    exact a_iret dX6_takeTrial_23 rfl (p_1 h) (p_S (p_2 h))

def X6_likely (F : Nat) (σ : sM) (a1 a2 : Int) : Option Int := bp (X1_isSort σ (σ 49 3)) (fun r1 => if ¬ wi r1 = 0 then jn (fun q4 : Int => bp (X5_total 50 σ) (fun r6 => bp (X8_partOfLeast F σ q4 r6 a2) (fun r8 => some r8))) (fun K5 => if ¬ wi a1 = 4 then bp (X5_weightOf 50 σ a1) (fun r11 => K5 r11) else bp (X5_allGood F 50 σ (σ 49 3)) (fun r13 => K5 r13)) else some (-1))
set_option maxRecDepth 100000 in
set_option maxHeartbeats 400000 in
theorem T_X6_likely {G : sG} {q_0 : qT} {x_0 : List Nat} {σ : sM} {r_0 : Int} {a1 a2 : Int} {F : Nat}  (h : X6_likely F σ a1 a2 = some r_0) : aM G yX6_likely cX6_likely 5 (some .long) 2 0 0 [.ref (gP G 49), vI a1, vI a2] (mkSh q_0 x_0, σ) (r_0, (mkSh q_0 x_0, σ)) := by
  unfold X6_likely at h
  refine aM_of (by decide) (Nat.le_of_ble_eq_true rfl) ?_
  show aW G cX6_likely RX6 "likely" 5 (some .long) _ _ aX 0 0 _ [(0, .ref (gP G 49)), (1, vI a1), (2, vI a2)] 0 []
  refine a_aload_n 0 dX6_likely_0 rfl ?_
  refine a_getR (j := 0) dX6_likely_1 KX6 rfl (by decide) rfl kf_RX6_25 ?_
  refine a_aload_n 0 dX6_likely_4 rfl ?_
  refine a_getI (j := 3) dX6_likely_5 KX6 rfl (by decide) rfl kf_RX6_21 ?_
  refine bp_s h (fun r1 e2 h => ?_)
  refine a_callVI dX6_likely_8 mX1_isSort KX1 rfl kv_X1_isSort ks_X1_isSort rfl km_RX6_33 rfl (T_X1_isSort e2) (fun _ => rfl) rfl (Nat.le_of_ble_eq_true rfl) (Nat.le_of_ble_eq_true rfl) ⟨(Nat.le_of_ble_eq_true rfl), (Nat.le_of_ble_eq_true rfl)⟩ (Nat.le_of_ble_eq_true rfl) ?_
  refine a_if_ne 18 dX6_likely_11 (by decide) rfl h (fun c3 h => ?_) (fun c3 h => ?_)
  · skip
    refine a_iload_n 1 dX6_likely_18 rfl ?_
    refine a_iconst dX6_likely_19 ?_
    refine jn_s (fun q4 : Int => aW G cX6_likely RX6 "likely" 5 (some .long) (sR 2 0 0) (aQ G (some .long) 0 0 (r_0, (mkSh q_0 x_0, σ))) aX 0 0 (mkSh q_0 x_0, σ) [(0, .ref (gP G 49)), (2, vI a2)] 49 [vL q4]) h (fun q4 h => ?_) (fun K5 hK5 h => ?_)
    · skip
      refine a_lstore_n (L' := [(3, vL q4), (0, .ref (gP G 49)), (2, vI a2)]) dX6_likely_49 (by decide) rfl ?_
      refine a_lload_n 0 dX6_likely_50 rfl ?_
      refine a_aload_n 1 dX6_likely_51 rfl ?_
      refine a_getR (j := 1) dX6_likely_52 KX6 rfl (by decide) rfl kf_RX6_12 ?_
      refine bp_s h (fun r6 e7 h => ?_)
      refine a_callVL dX6_likely_55 mX5_total KX5 rfl kv_X5_total ks_X5_total rfl km_RX6_55 rfl (T_X5_total rfl rfl e7) (fun _ => rfl) rfl (Nat.le_of_ble_eq_true rfl) (Nat.le_of_ble_eq_true rfl) ⟨(Nat.le_of_ble_eq_true rfl), (Nat.le_of_ble_eq_true rfl)⟩ (Nat.le_of_ble_eq_true rfl) ?_
      refine a_iload_n 2 dX6_likely_58 rfl ?_
      refine bp_s h (fun r8 e9 h => ?_)
      refine a_callSNL dX6_likely_59 mX8_partOfLeast kv_X8_partOfLeast km_RX6_77 rfl (T_X8_partOfLeast e9) (fun _ => rfl) rfl (Nat.le_of_ble_eq_true rfl) (Nat.le_of_ble_eq_true rfl) ⟨(Nat.le_of_ble_eq_true rfl), (Nat.le_of_ble_eq_true rfl)⟩ (Nat.le_of_ble_eq_true rfl) ?_
      exact a_lret dX6_likely_62 rfl (s_inj h) rfl
    · skip
      refine a_icmp_ne 41 dX6_likely_20 (by decide) rfl (by decide) h (fun c10 h => ?_) (fun c10 h => ?_)
      · skip
        refine a_aload_n 0 dX6_likely_41 rfl ?_
        refine a_getR (j := 1) dX6_likely_42 KX6 rfl (by decide) rfl kf_RX6_12 ?_
        refine a_iload_n 1 dX6_likely_45 rfl ?_
        refine bp_s h (fun r11 e12 h => ?_)
        refine a_callVL dX6_likely_46 mX5_weightOf KX5 rfl kv_X5_weightOf ks_X5_weightOf rfl km_RX6_73 rfl (T_X5_weightOf rfl rfl e12) (fun _ => rfl) rfl (Nat.le_of_ble_eq_true rfl) (Nat.le_of_ble_eq_true rfl) ⟨(Nat.le_of_ble_eq_true rfl), (Nat.le_of_ble_eq_true rfl)⟩ (Nat.le_of_ble_eq_true rfl) ?_
        have hh := hK5 _ h
        exact a_sub [0, 2] rfl hh
      · skip
        refine a_aload_n 0 dX6_likely_23 rfl ?_
        refine a_getR (j := 1) dX6_likely_24 KX6 rfl (by decide) rfl kf_RX6_12 ?_
        refine a_aload_n 0 dX6_likely_27 rfl ?_
        refine a_getR (j := 0) dX6_likely_28 KX6 rfl (by decide) rfl kf_RX6_25 ?_
        refine a_aload_n 0 dX6_likely_31 rfl ?_
        refine a_getI (j := 3) dX6_likely_32 KX6 rfl (by decide) rfl kf_RX6_21 ?_
        refine bp_s h (fun r13 e14 h => ?_)
        refine a_callVL dX6_likely_35 mX5_allGood KX5 rfl kv_X5_allGood ks_X5_allGood rfl km_RX6_69 rfl (T_X5_allGood rfl rfl e14) (fun _ => rfl) rfl (Nat.le_of_ble_eq_true rfl) (Nat.le_of_ble_eq_true rfl) ⟨(Nat.le_of_ble_eq_true rfl), (Nat.le_of_ble_eq_true rfl)⟩ (Nat.le_of_ble_eq_true rfl) ?_
        refine a_goto 49 dX6_likely_38 (by decide) ?_
        have hh := hK5 _ h
        exact a_sub [0, 2] rfl hh
  · skip
    refine a_ldc2 (z := -1) dX6_likely_14 kc_RX6_67 (by decide) ?_
    exact a_lret dX6_likely_17 rfl (s_inj h) rfl

def X7_act (σ : sM) (a2 : Int) : Option (Int × sM) := if ¬ wi a2 = 6 then bp (X1_hadBy σ (σ 26 2) a2 (σ 26 0)) (fun r2 => bp (X1_standAfter σ (σ 26 2) a2) (fun r4 => if 3 ≤ wi a2 then some (r2, (sU (sU (sU σ 26 2 r4) 26 1 1) 26 5 (((sU (sU σ 26 2 r4) 26 1 1) 26 5) + r2))) else some (r2, (sU (sU (sU σ 26 2 r4) 26 1 1) 26 4 (((sU (sU σ 26 2 r4) 26 1 1) 26 4) + r2))))) else some (0, σ)
set_option maxRecDepth 100000 in
set_option maxHeartbeats 400000 in
theorem T_X7_act {G : sG} {q_0 : qT} {x_0 : List Nat} {σ s_0 : sM} {r_0 : Int} {a2 : Int}  (h : X7_act σ a2 = some (r_0, s_0)) : aM G yX7_act cX7_act 4 (some .int) 3 0 0 [.ref (gP G 26), .ref (gP G 2), vI a2] (mkSh q_0 x_0, σ) (r_0, (mkSh q_0 x_0, s_0)) := by
  unfold X7_act at h
  refine aM_of (by decide) (Nat.le_of_ble_eq_true rfl) ?_
  show aW G cX7_act RX7 "act" 4 (some .int) _ _ aX 0 0 _ [(0, .ref (gP G 26)), (1, .ref (gP G 2)), (2, vI a2)] 0 []
  refine a_iload_n 2 dX7_act_0 rfl ?_
  refine a_bipush dX7_act_1 (by decide) ?_
  refine a_icmp_ne 8 dX7_act_3 (by decide) rfl (by decide) h (fun c1 h => ?_) (fun c1 h => ?_)
  · skip
    refine a_aload_n 1 dX7_act_8 rfl ?_
    refine a_aload_n 0 dX7_act_9 rfl ?_
    refine a_getI (j := 2) dX7_act_10 KX7 rfl (by decide) rfl kf_RX7_19 ?_
    refine a_iload_n 2 dX7_act_13 rfl ?_
    refine a_aload_n 0 dX7_act_14 rfl ?_
    refine a_getI (j := 0) dX7_act_15 KX7 rfl (by decide) rfl kf_RX7_9 ?_
    refine bp_s h (fun r2 e3 h => ?_)
    refine a_callVI dX7_act_18 mX1_hadBy KX1 rfl kv_X1_hadBy ks_X1_hadBy rfl km_RX7_37 rfl (T_X1_hadBy e3) (fun _ => rfl) rfl (Nat.le_of_ble_eq_true rfl) (Nat.le_of_ble_eq_true rfl) ⟨(Nat.le_of_ble_eq_true rfl), (Nat.le_of_ble_eq_true rfl)⟩ (Nat.le_of_ble_eq_true rfl) ?_
    refine a_istore_n (L' := [(3, vI r2), (0, .ref (gP G 26)), (1, .ref (gP G 2)), (2, vI a2)]) dX7_act_21 (by decide) rfl ?_
    refine a_aload_n 1 dX7_act_22 rfl ?_
    refine a_aload_n 2 dX7_act_23 rfl ?_
    refine a_aload_n 1 dX7_act_24 rfl ?_
    refine a_getI (j := 2) dX7_act_25 KX7 rfl (by decide) rfl kf_RX7_19 ?_
    refine a_iload_n 3 dX7_act_28 rfl ?_
    refine bp_s h (fun r4 e5 h => ?_)
    refine a_callVI dX7_act_29 mX1_standAfter KX1 rfl kv_X1_standAfter ks_X1_standAfter rfl km_RX7_43 rfl (T_X1_standAfter e5) (fun _ => rfl) rfl (Nat.le_of_ble_eq_true rfl) (Nat.le_of_ble_eq_true rfl) ⟨(Nat.le_of_ble_eq_true rfl), (Nat.le_of_ble_eq_true rfl)⟩ (Nat.le_of_ble_eq_true rfl) ?_
    refine a_putI (j := 2) dX7_act_32 KX7 rfl (by decide) rfl rfl rfl kf_RX7_19 ?_
    refine a_aload_n 1 dX7_act_35 rfl ?_
    refine a_iconst dX7_act_36 ?_
    refine a_putZ (j := 1) dX7_act_37 KX7 rfl (by decide) rfl rfl rfl kf_RX7_15 (by decide) ?_
    refine a_iload_n 3 dX7_act_40 rfl ?_
    refine a_iconst dX7_act_41 ?_
    refine a_icmp_ge 58 dX7_act_42 (by decide) rfl (by decide) h (fun c6 h => ?_) (fun c6 h => ?_)
    · skip
      refine a_aload_n 1 dX7_act_58 rfl ?_
      refine a_dupR dX7_act_59 ?_
      refine a_getI (j := 5) dX7_act_60 KX7 rfl (by decide) rfl kf_RX7_28 ?_
      refine a_iload_n 0 dX7_act_63 rfl ?_
      refine a_iadd dX7_act_64 ?_
      refine a_putI (j := 5) dX7_act_65 KX7 rfl (by decide) rfl rfl rfl kf_RX7_28 ?_
      refine a_iload_n 0 dX7_act_68 rfl ?_
      exact a_iret dX7_act_69 rfl (p_1 h) (p_S (p_2 h))
    · skip
      refine a_aload_n 1 dX7_act_45 rfl ?_
      refine a_dupR dX7_act_46 ?_
      refine a_getI (j := 4) dX7_act_47 KX7 rfl (by decide) rfl kf_RX7_25 ?_
      refine a_iload_n 0 dX7_act_50 rfl ?_
      refine a_iadd dX7_act_51 ?_
      refine a_putI (j := 4) dX7_act_52 KX7 rfl (by decide) rfl rfl rfl kf_RX7_25 ?_
      refine a_goto 68 dX7_act_55 (by decide) ?_
      refine a_iload_n 0 dX7_act_68 rfl ?_
      exact a_iret dX7_act_69 rfl (p_1 h) (p_S (p_2 h))
  · skip
    refine a_iconst dX7_act_6 ?_
    exact a_iret dX7_act_7 rfl (p_1 h) (p_S (p_2 h))

def X7_goOn (F : Nat) (σ : sM) : Option (Int × sM) := lp (fun K2 (q1 : sM × Int × Int) => if 3 ≤ wi q1.2.2 then some (q1.2.1, (sU (sU q1.1 26 0 ((q1.1 26 0) + 1)) 26 1 0)) else bp (X1_mayGoOn q1.1 (q1.1 26 2) (q1.1 26 3) q1.2.2) (fun r4 => jn (fun q6 : sM × Int => K2 (q6.1, q6.2, q1.2.2 + 1)) (fun K7 => if wi r4 = 0 then K7 (q1.1, q1.2.1) else bp (X1_tenthsNow (sU q1.1 26 6 (((q1.1 26 6) * 1103515245) + 12345)) ((sU q1.1 26 6 (((q1.1 26 6) * 1103515245) + 12345)) 26 2) ((sU q1.1 26 6 (((q1.1 26 6) * 1103515245) + 12345)) 26 3) q1.2.2 ((sU q1.1 26 6 (((q1.1 26 6) * 1103515245) + 12345)) 26 0)) (fun r9 => if wi r9 ≤ wi (q_rem (q_ushr ((sU q1.1 26 6 (((q1.1 26 6) * 1103515245) + 12345)) 26 6) 16) 10) then K7 ((sU q1.1 26 6 (((q1.1 26 6) * 1103515245) + 12345)), q1.2.1) else bp (X8_field (sU q1.1 26 6 (((q1.1 26 6) * 1103515245) + 12345)) q1.2.2 1 0) (fun r12 => nm (sU (sU q1.1 26 6 (((q1.1 26 6) * 1103515245) + 12345)) 26 2 (((sU q1.1 26 6 (((q1.1 26 6) * 1103515245) + 12345)) 26 2) + r12)) (fun σ14 => K7 (σ14, q1.2.1 + 1))))))) F (σ, 0, 0)
set_option maxRecDepth 100000 in
set_option maxHeartbeats 400000 in
theorem T_X7_goOn {G : sG} {q_0 : qT} {x_0 : List Nat} {σ s_0 : sM} {r_0 : Int} {F : Nat}  (h : X7_goOn F σ = some (r_0, s_0)) : aM G yX7_goOn cX7_goOn 4 (some .int) 3 0 0 [.ref (gP G 26), .ref (gP G 2)] (mkSh q_0 x_0, σ) (r_0, (mkSh q_0 x_0, s_0)) := by
  unfold X7_goOn at h
  refine aM_of (by decide) (Nat.le_of_ble_eq_true rfl) ?_
  show aW G cX7_goOn RX7 "goOn" 4 (some .int) _ _ aX 0 0 _ [(0, .ref (gP G 26)), (1, .ref (gP G 2))] 0 []
  refine a_iconst dX7_goOn_0 ?_
  refine a_istore_n (L' := [(2, vI 0), (0, .ref (gP G 26)), (1, .ref (gP G 2))]) dX7_goOn_1 (by decide) rfl ?_
  refine a_iconst dX7_goOn_2 ?_
  refine a_istore_n (L' := [(3, vI 0), (2, vI 0), (0, .ref (gP G 26)), (1, .ref (gP G 2))]) dX7_goOn_3 (by decide) rfl ?_
  refine a_sub (L' := [(0, .ref (gP G 26)), (1, .ref (gP G 2)), (2, vI 0), (3, vI 0)]) [2, 3, 1, 0] rfl (lp_s (x := (σ, 0, 0)) (fun q1 : sM × Int × Int => aW G cX7_goOn RX7 "goOn" 4 (some .int) (sR 3 0 0) (aQ G (some .int) 0 0 (r_0, (mkSh q_0 x_0, s_0))) aX 0 0 (mkSh q_0 x_0, q1.1) [(0, .ref (gP G 26)), (1, .ref (gP G 2)), (2, vI q1.2.1), (3, vI q1.2.2)] 4 []) h (fun K2 hK2 q1 h => ?_))
  refine a_iload_n 3 dX7_goOn_4 rfl ?_
  refine a_iconst dX7_goOn_5 ?_
  refine a_icmp_ge 94 dX7_goOn_6 (by decide) rfl (by decide) h (fun c3 h => ?_) (fun c3 h => ?_)
  · skip
    refine a_aload_n 0 dX7_goOn_94 rfl ?_
    refine a_dupR dX7_goOn_95 ?_
    refine a_getI (j := 0) dX7_goOn_96 KX7 rfl (by decide) rfl kf_RX7_9 ?_
    refine a_iconst dX7_goOn_99 ?_
    refine a_iadd dX7_goOn_100 ?_
    refine a_putI (j := 0) dX7_goOn_101 KX7 rfl (by decide) rfl rfl rfl kf_RX7_9 ?_
    refine a_aload_n 0 dX7_goOn_104 rfl ?_
    refine a_iconst dX7_goOn_105 ?_
    refine a_putZ (j := 1) dX7_goOn_106 KX7 rfl (by decide) rfl rfl rfl kf_RX7_15 (by decide) ?_
    refine a_iload_n 2 dX7_goOn_109 rfl ?_
    exact a_iret dX7_goOn_110 rfl (p_1 h) (p_S (p_2 h))
  · skip
    refine a_aload_n 1 dX7_goOn_9 rfl ?_
    refine a_aload_n 0 dX7_goOn_10 rfl ?_
    refine a_getI (j := 2) dX7_goOn_11 KX7 rfl (by decide) rfl kf_RX7_19 ?_
    refine a_aload_n 0 dX7_goOn_14 rfl ?_
    refine a_getI (j := 3) dX7_goOn_15 KX7 rfl (by decide) rfl kf_RX7_22 ?_
    refine a_iload_n 3 dX7_goOn_18 rfl ?_
    refine bp_s h (fun r4 e5 h => ?_)
    refine a_callVI dX7_goOn_19 mX1_mayGoOn KX1 rfl kv_X1_mayGoOn ks_X1_mayGoOn rfl km_RX7_47 rfl (T_X1_mayGoOn e5) (fun _ => rfl) rfl (Nat.le_of_ble_eq_true rfl) (Nat.le_of_ble_eq_true rfl) ⟨(Nat.le_of_ble_eq_true rfl), (Nat.le_of_ble_eq_true rfl)⟩ (Nat.le_of_ble_eq_true rfl) ?_
    refine jn_s (fun q6 : sM × Int => aW G cX7_goOn RX7 "goOn" 4 (some .int) (sR 3 0 0) (aQ G (some .int) 0 0 (r_0, (mkSh q_0 x_0, s_0))) aX 0 0 (mkSh q_0 x_0, q6.1) [(0, .ref (gP G 26)), (1, .ref (gP G 2)), (2, vI q6.2), (3, vI q1.2.2)] 88 []) h (fun q6 h => ?_) (fun K7 hK7 h => ?_)
    · skip
      refine a_iinc (L' := [(3, vI (q1.2.2 + 1)), (0, .ref (gP G 26)), (1, .ref (gP G 2)), (2, vI q6.2)]) 3 dX7_goOn_88 rfl (by decide) rfl ?_
      refine a_goto 4 dX7_goOn_91 (by decide) ?_
      have hh := hK2 _ h
      exact a_sub [1, 2, 3, 0] rfl hh
    · skip
      refine a_if_eq 88 dX7_goOn_22 (by decide) rfl h (fun c8 h => ?_) (fun c8 h => ?_)
      · skip
        have hh := hK7 _ h
        exact a_sub [0, 1, 2, 3] rfl hh
      · skip
        refine a_aload_n 0 dX7_goOn_25 rfl ?_
        refine a_aload_n 0 dX7_goOn_26 rfl ?_
        refine a_getI (j := 6) dX7_goOn_27 KX7 rfl (by decide) rfl kf_RX7_31 ?_
        refine a_ldc (z := 1103515245) dX7_goOn_30 kc_RX7_51 (by decide) ?_
        refine a_imul dX7_goOn_32 ?_
        refine a_sipush dX7_goOn_33 (by decide) ?_
        refine a_iadd dX7_goOn_36 ?_
        refine a_putI (j := 6) dX7_goOn_37 KX7 rfl (by decide) rfl rfl rfl kf_RX7_31 ?_
        refine a_aload_n 0 dX7_goOn_40 rfl ?_
        refine a_getI (j := 6) dX7_goOn_41 KX7 rfl (by decide) rfl kf_RX7_31 ?_
        refine a_bipush dX7_goOn_44 (by decide) ?_
        refine a_iushr dX7_goOn_46 ?_
        refine a_bipush dX7_goOn_47 (by decide) ?_
        refine a_irem dX7_goOn_49 (by decide) ?_
        refine a_aload_n 1 dX7_goOn_50 rfl ?_
        refine a_aload_n 0 dX7_goOn_51 rfl ?_
        refine a_getI (j := 2) dX7_goOn_52 KX7 rfl (by decide) rfl kf_RX7_19 ?_
        refine a_aload_n 0 dX7_goOn_55 rfl ?_
        refine a_getI (j := 3) dX7_goOn_56 KX7 rfl (by decide) rfl kf_RX7_22 ?_
        refine a_iload_n 3 dX7_goOn_59 rfl ?_
        refine a_aload_n 0 dX7_goOn_60 rfl ?_
        refine a_getI (j := 0) dX7_goOn_61 KX7 rfl (by decide) rfl kf_RX7_9 ?_
        refine bp_s h (fun r9 e10 h => ?_)
        refine a_callVI dX7_goOn_64 mX1_tenthsNow KX1 rfl kv_X1_tenthsNow ks_X1_tenthsNow rfl km_RX7_52 rfl (T_X1_tenthsNow e10) (fun _ => rfl) rfl (Nat.le_of_ble_eq_true rfl) (Nat.le_of_ble_eq_true rfl) ⟨(Nat.le_of_ble_eq_true rfl), (Nat.le_of_ble_eq_true rfl)⟩ (Nat.le_of_ble_eq_true rfl) ?_
        refine a_icmp_ge 88 dX7_goOn_67 (by decide) rfl rfl h (fun c11 h => ?_) (fun c11 h => ?_)
        · skip
          have hh := hK7 _ h
          exact a_sub [0, 1, 2, 3] rfl hh
        · skip
          refine a_aload_n 0 dX7_goOn_70 rfl ?_
          refine a_dupR dX7_goOn_71 ?_
          refine a_getI (j := 2) dX7_goOn_72 KX7 rfl (by decide) rfl kf_RX7_19 ?_
          refine a_iload_n 3 dX7_goOn_75 rfl ?_
          refine a_iconst dX7_goOn_76 ?_
          refine a_iconst dX7_goOn_77 ?_
          refine bp_s h (fun r12 e13 h => ?_)
          refine a_callSNI dX7_goOn_78 mX8_field kv_X8_field km_RX7_56 rfl (T_X8_field e13) (fun _ => rfl) rfl (Nat.le_of_ble_eq_true rfl) (Nat.le_of_ble_eq_true rfl) ⟨(Nat.le_of_ble_eq_true rfl), (Nat.le_of_ble_eq_true rfl)⟩ (Nat.le_of_ble_eq_true rfl) ?_
          refine a_iadd dX7_goOn_81 ?_
          refine a_putI (j := 2) dX7_goOn_82 KX7 rfl (by decide) rfl rfl rfl kf_RX7_19 ?_
          refine a_nmS h (fun σ14 w15 h => ?_)
          refine a_iinc (L' := [(2, vI (q1.2.1 + 1)), (0, .ref (gP G 26)), (1, .ref (gP G 2)), (3, vI q1.2.2)]) 2 dX7_goOn_85 rfl (by decide) rfl ?_
          have hh := hK7 _ h
          exact a_sub [1, 2, 0, 3] rfl hh

