def X4_readItem (F : Nat) (σ : sM) (a1 : Int) : Option (Int × sM) := if wi (σ 22 7) = 4 then if wi a1 = 0 then some (0, σ) else bn (X4_readWeeks σ) (fun r3 σ5 => if wi r3 = 0 then some (0, σ5) else some (1, σ5)) else if wi (σ 22 7) = 5 then if 4 ≤ wi (σ 12 5) then some (0, σ) else bn (X4_readSort F σ) (fun r9 σ11 => if wi r9 = 0 then some (0, σ11) else some (1, σ11)) else if wi (σ 22 7) = 6 then some (0, σ) else if wi (σ 22 7) = 7 then some (0, σ) else if wi (σ 22 7) = 8 then some (0, σ) else if wi (σ 22 7) = 9 then if 3 ≤ wi (σ 12 6) then some (0, σ) else bn (X4_readWheel σ) (fun r18 σ20 => if wi r18 = 0 then some (0, σ20) else some (1, σ20)) else if wi (σ 22 7) = 10 then bn (X4_readOpen σ) (fun r23 σ25 => if wi r23 = 0 ∨ wi r23 = 1 then some (r23, σ25) else none) else if wi (σ 22 7) = 11 then bn (X4_readOfWeek 20 8 σ 5) (fun r28 σ30 => if wi r28 = 0 ∨ wi r28 = 1 then some (r28, σ30) else none) else if wi (σ 22 7) = 12 then bn (X4_readOfWeek 21 8 σ 99) (fun r33 σ35 => if wi r33 = 0 ∨ wi r33 = 1 then some (r33, σ35) else none) else some (0, σ)
set_option maxRecDepth 100000 in
set_option maxHeartbeats 400000 in
theorem T_X4_readItem {G : sG} {q_0 : qT} {x_0 : List Nat} {σ s_0 : sM} {r_0 : Int} {a1 : Int} {F : Nat}  (h : X4_readItem F σ a1 = some (r_0, s_0)) : aM G yX4_readItem cX4_readItem 2 (some .boolean) 3 0 0 [.ref (gB G + 22), vI a1] (mkSh q_0 x_0, σ) (r_0, (mkSh q_0 x_0, s_0)) := by
  unfold X4_readItem at h
  refine aM_of (by decide) (Nat.le_of_ble_eq_true rfl) ?_
  show aW G cX4_readItem RX4 "readItem" 2 (some .boolean) _ _ aX 0 0 _ [(0, .ref (gB G + 22)), (1, vI a1)] 0 []
  refine a_aload_n 0 dX4_readItem_0 rfl ?_
  refine a_getI (j := 7) dX4_readItem_1 KX4 rfl (by decide) rfl kf_RX4_28 ?_
  refine a_if h (fun c1 h => ?_) (fun c1 h => ?_)
  · skip
    refine a_tsIn (off := 52) 56 dX4_readItem_4 c1 (by decide) (by decide) (by decide) ?_
    refine a_iload_n 1 dX4_readItem_56 rfl ?_
    refine a_if_eq 71 dX4_readItem_57 (by decide) rfl h (fun c2 h => ?_) (fun c2 h => ?_)
    · skip
      refine a_iconst dX4_readItem_71 ?_
      exact a_zret dX4_readItem_72 rfl (by decide) (p_1 h) (p_S (p_2 h))
    · skip
      refine a_aload_n 0 dX4_readItem_60 rfl ?_
      refine bn_s h (fun r3 σ5 e4 h => ?_)
      refine a_callVI dX4_readItem_61 mX4_readWeeks KX4 rfl kv_X4_readWeeks ks_X4_readWeeks rfl km_RX4_67 rfl (T_X4_readWeeks e4) (fun _ => rfl) rfl (Nat.le_of_ble_eq_true rfl) (Nat.le_of_ble_eq_true rfl) ⟨(Nat.le_of_ble_eq_true rfl), (Nat.le_of_ble_eq_true rfl)⟩ (Nat.le_of_ble_eq_true rfl) ?_
      refine a_if_eq 71 dX4_readItem_64 (by decide) rfl h (fun c6 h => ?_) (fun c6 h => ?_)
      · skip
        refine a_iconst dX4_readItem_71 ?_
        exact a_zret dX4_readItem_72 rfl (by decide) (p_1 h) (p_S (p_2 h))
      · skip
        refine a_iconst dX4_readItem_67 ?_
        refine a_goto 72 dX4_readItem_68 (by decide) ?_
        exact a_zret dX4_readItem_72 rfl (by decide) (p_1 h) (p_S (p_2 h))
  · skip
    refine a_if h (fun c7 h => ?_) (fun c7 h => ?_)
    · skip
      refine a_tsIn (off := 69) 73 dX4_readItem_4 c7 (by decide) (by decide) (by decide) ?_
      refine a_aload_n 0 dX4_readItem_73 rfl ?_
      refine a_getR (j := 1) dX4_readItem_74 KX4 rfl (by decide) rfl kf_RX4_38 ?_
      refine a_getIN (j := 5) dX4_readItem_77 KX1 rfl (by decide) rfl kf_RX4_71 ?_
      refine a_iconst dX4_readItem_80 ?_
      refine a_icmp_ge 95 dX4_readItem_81 (by decide) rfl (by decide) h (fun c8 h => ?_) (fun c8 h => ?_)
      · skip
        refine a_iconst dX4_readItem_95 ?_
        exact a_zret dX4_readItem_96 rfl (by decide) (p_1 h) (p_S (p_2 h))
      · skip
        refine a_aload_n 0 dX4_readItem_84 rfl ?_
        refine bn_s h (fun r9 σ11 e10 h => ?_)
        refine a_callVI dX4_readItem_85 mX4_readSort KX4 rfl kv_X4_readSort ks_X4_readSort rfl km_RX4_74 rfl (T_X4_readSort e10) (fun _ => rfl) rfl (Nat.le_of_ble_eq_true rfl) (Nat.le_of_ble_eq_true rfl) ⟨(Nat.le_of_ble_eq_true rfl), (Nat.le_of_ble_eq_true rfl)⟩ (Nat.le_of_ble_eq_true rfl) ?_
        refine a_if_eq 95 dX4_readItem_88 (by decide) rfl h (fun c12 h => ?_) (fun c12 h => ?_)
        · skip
          refine a_iconst dX4_readItem_95 ?_
          exact a_zret dX4_readItem_96 rfl (by decide) (p_1 h) (p_S (p_2 h))
        · skip
          refine a_iconst dX4_readItem_91 ?_
          refine a_goto 96 dX4_readItem_92 (by decide) ?_
          exact a_zret dX4_readItem_96 rfl (by decide) (p_1 h) (p_S (p_2 h))
    · skip
      refine a_if h (fun c13 h => ?_) (fun c13 h => ?_)
      · skip
        refine a_tsIn (off := 149) 153 dX4_readItem_4 c13 (by decide) (by decide) (by decide) ?_
        refine a_iconst dX4_readItem_153 ?_
        exact a_zret dX4_readItem_154 rfl (by decide) (p_1 h) (p_S (p_2 h))
      · skip
        refine a_if h (fun c14 h => ?_) (fun c14 h => ?_)
        · skip
          refine a_tsIn (off := 149) 153 dX4_readItem_4 c14 (by decide) (by decide) (by decide) ?_
          refine a_iconst dX4_readItem_153 ?_
          exact a_zret dX4_readItem_154 rfl (by decide) (p_1 h) (p_S (p_2 h))
        · skip
          refine a_if h (fun c15 h => ?_) (fun c15 h => ?_)
          · skip
            refine a_tsIn (off := 149) 153 dX4_readItem_4 c15 (by decide) (by decide) (by decide) ?_
            refine a_iconst dX4_readItem_153 ?_
            exact a_zret dX4_readItem_154 rfl (by decide) (p_1 h) (p_S (p_2 h))
          · skip
            refine a_if h (fun c16 h => ?_) (fun c16 h => ?_)
            · skip
              refine a_tsIn (off := 93) 97 dX4_readItem_4 c16 (by decide) (by decide) (by decide) ?_
              refine a_aload_n 0 dX4_readItem_97 rfl ?_
              refine a_getR (j := 1) dX4_readItem_98 KX4 rfl (by decide) rfl kf_RX4_38 ?_
              refine a_getIN (j := 6) dX4_readItem_101 KX1 rfl (by decide) rfl kf_RX4_77 ?_
              refine a_iconst dX4_readItem_104 ?_
              refine a_icmp_ge 119 dX4_readItem_105 (by decide) rfl (by decide) h (fun c17 h => ?_) (fun c17 h => ?_)
              · skip
                refine a_iconst dX4_readItem_119 ?_
                exact a_zret dX4_readItem_120 rfl (by decide) (p_1 h) (p_S (p_2 h))
              · skip
                refine a_aload_n 0 dX4_readItem_108 rfl ?_
                refine bn_s h (fun r18 σ20 e19 h => ?_)
                refine a_callVI dX4_readItem_109 mX4_readWheel KX4 rfl kv_X4_readWheel ks_X4_readWheel rfl km_RX4_80 rfl (T_X4_readWheel e19) (fun _ => rfl) rfl (Nat.le_of_ble_eq_true rfl) (Nat.le_of_ble_eq_true rfl) ⟨(Nat.le_of_ble_eq_true rfl), (Nat.le_of_ble_eq_true rfl)⟩ (Nat.le_of_ble_eq_true rfl) ?_
                refine a_if_eq 119 dX4_readItem_112 (by decide) rfl h (fun c21 h => ?_) (fun c21 h => ?_)
                · skip
                  refine a_iconst dX4_readItem_119 ?_
                  exact a_zret dX4_readItem_120 rfl (by decide) (p_1 h) (p_S (p_2 h))
                · skip
                  refine a_iconst dX4_readItem_115 ?_
                  refine a_goto 120 dX4_readItem_116 (by decide) ?_
                  exact a_zret dX4_readItem_120 rfl (by decide) (p_1 h) (p_S (p_2 h))
            · skip
              refine a_if h (fun c22 h => ?_) (fun c22 h => ?_)
              · skip
                refine a_tsIn (off := 117) 121 dX4_readItem_4 c22 (by decide) (by decide) (by decide) ?_
                refine a_aload_n 0 dX4_readItem_121 rfl ?_
                refine bn_s h (fun r23 σ25 e24 h => ?_)
                refine a_callVI dX4_readItem_122 mX4_readOpen KX4 rfl kv_X4_readOpen ks_X4_readOpen rfl km_RX4_83 rfl (T_X4_readOpen e24) (fun _ => rfl) rfl (Nat.le_of_ble_eq_true rfl) (Nat.le_of_ble_eq_true rfl) ⟨(Nat.le_of_ble_eq_true rfl), (Nat.le_of_ble_eq_true rfl)⟩ (Nat.le_of_ble_eq_true rfl) ?_
                refine a_gd h (fun c26 h => ?_)
                exact a_zret dX4_readItem_125 rfl (nb_01 c26) (p_1 h) (p_S (p_2 h))
              · skip
                refine a_if h (fun c27 h => ?_) (fun c27 h => ?_)
                · skip
                  refine a_tsIn (off := 122) 126 dX4_readItem_4 c27 (by decide) (by decide) (by decide) ?_
                  refine a_aload_n 0 dX4_readItem_126 rfl ?_
                  refine a_aload_n 0 dX4_readItem_127 rfl ?_
                  refine a_getR (j := 1) dX4_readItem_128 KX4 rfl (by decide) rfl kf_RX4_38 ?_
                  refine a_getRN (j := 3) dX4_readItem_131 KX1 rfl (by decide) rfl kf_RX4_86 ?_
                  refine a_iconst dX4_readItem_134 ?_
                  refine bn_s h (fun r28 σ30 e29 h => ?_)
                  refine a_callVI dX4_readItem_135 mX4_readOfWeek KX4 rfl kv_X4_readOfWeek ks_X4_readOfWeek rfl km_RX4_89 rfl (T_X4_readOfWeek rfl e29) (fun _ => rfl) rfl (Nat.le_of_ble_eq_true rfl) (Nat.le_of_ble_eq_true rfl) ⟨(Nat.le_of_ble_eq_true rfl), (Nat.le_of_ble_eq_true rfl)⟩ (Nat.le_of_ble_eq_true rfl) ?_
                  refine a_gd h (fun c31 h => ?_)
                  exact a_zret dX4_readItem_138 rfl (nb_01 c31) (p_1 h) (p_S (p_2 h))
                · skip
                  refine a_if h (fun c32 h => ?_) (fun c32 h => ?_)
                  · skip
                    refine a_tsIn (off := 135) 139 dX4_readItem_4 c32 (by decide) (by decide) (by decide) ?_
                    refine a_aload_n 0 dX4_readItem_139 rfl ?_
                    refine a_aload_n 0 dX4_readItem_140 rfl ?_
                    refine a_getR (j := 1) dX4_readItem_141 KX4 rfl (by decide) rfl kf_RX4_38 ?_
                    refine a_getRN (j := 4) dX4_readItem_144 KX1 rfl (by decide) rfl kf_RX4_93 ?_
                    refine a_bipush dX4_readItem_147 (by decide) ?_
                    refine bn_s h (fun r33 σ35 e34 h => ?_)
                    refine a_callVI dX4_readItem_149 mX4_readOfWeek KX4 rfl kv_X4_readOfWeek ks_X4_readOfWeek rfl km_RX4_89 rfl (T_X4_readOfWeek rfl e34) (fun _ => rfl) rfl (Nat.le_of_ble_eq_true rfl) (Nat.le_of_ble_eq_true rfl) ⟨(Nat.le_of_ble_eq_true rfl), (Nat.le_of_ble_eq_true rfl)⟩ (Nat.le_of_ble_eq_true rfl) ?_
                    refine a_gd h (fun c36 h => ?_)
                    exact a_zret dX4_readItem_152 rfl (nb_01 c36) (p_1 h) (p_S (p_2 h))
                  · skip
                    refine a_tsOut (v := wi (σ 22 7)) 153 dX4_readItem_4 rfl (by omega) (by decide) ?_
                    refine a_iconst dX4_readItem_153 ?_
                    exact a_zret dX4_readItem_154 rfl (by decide) (p_1 h) (p_S (p_2 h))

def X8_blind (F : Nat) (σ : sM) (a1 : Int) : Option (Int × sM) := if (-2) ≤ wi a1 then bn (X0_lookFrom F σ) (fun r2 σ4 => if ¬ wi a1 = (-1) then if ¬ wi a1 = (-2) then if wi (σ4 37 9) ≤ wi a1 then some ((-1000000), σ4) else bp (X0_codeAt σ4 a1) (fun r8 => some (r8, σ4)) else some (σ4 37 9, σ4) else some (σ4 37 8, σ4)) else some ((-1000000), σ)
set_option maxRecDepth 100000 in
set_option maxHeartbeats 400000 in
theorem T_X8_blind {G : sG} {q_0 : qT} {x_0 : List Nat} {σ s_0 : sM} {r_0 : Int} {a1 : Int} {F : Nat}  (h : X8_blind F σ a1 = some (r_0, s_0)) : aM G yX8_blind cX8_blind 2 (some .int) 34 0 0 [.ref (gB G + 0), vI a1] (mkSh q_0 x_0, σ) (r_0, (mkSh q_0 x_0, s_0)) := by
  unfold X8_blind at h
  refine aM_of (by decide) (Nat.le_of_ble_eq_true rfl) ?_
  show aW G cX8_blind RX8 "blind" 2 (some .int) _ _ aX 0 0 _ [(0, .ref (gB G + 0)), (1, vI a1)] 0 []
  refine a_iload_n 1 dX8_blind_0 rfl ?_
  refine a_bipush dX8_blind_1 (by decide) ?_
  refine a_icmp_ge 9 dX8_blind_3 (by decide) rfl (by decide) h (fun c1 h => ?_) (fun c1 h => ?_)
  · skip
    refine a_aload_n 0 dX8_blind_9 rfl ?_
    refine a_getR (j := 10) dX8_blind_10 KX8 rfl (by decide) rfl kf_RX8_64 ?_
    refine a_aload_n 0 dX8_blind_13 rfl ?_
    refine a_getR (j := 5) dX8_blind_14 KX8 rfl (by decide) rfl kf_RX8_39 ?_
    refine bn_s h (fun r2 σ4 e3 h => ?_)
    refine a_callVV dX8_blind_17 mX0_lookFrom KX0 rfl kv_X0_lookFrom ks_X0_lookFrom rfl km_RX8_254 rfl (T_X0_lookFrom e3) (fun _ => rfl) rfl (Nat.le_of_ble_eq_true rfl) (Nat.le_of_ble_eq_true rfl) ⟨(Nat.le_of_ble_eq_true rfl), (Nat.le_of_ble_eq_true rfl)⟩ (Nat.le_of_ble_eq_true rfl) ?_
    refine a_iload_n 1 dX8_blind_20 rfl ?_
    refine a_iconst dX8_blind_21 ?_
    refine a_icmp_ne 33 dX8_blind_22 (by decide) rfl (by decide) h (fun c5 h => ?_) (fun c5 h => ?_)
    · skip
      refine a_iload_n 1 dX8_blind_33 rfl ?_
      refine a_bipush dX8_blind_34 (by decide) ?_
      refine a_icmp_ne 47 dX8_blind_36 (by decide) rfl (by decide) h (fun c6 h => ?_) (fun c6 h => ?_)
      · skip
        refine a_iload_n 1 dX8_blind_47 rfl ?_
        refine a_aload_n 0 dX8_blind_48 rfl ?_
        refine a_getR (j := 10) dX8_blind_49 KX8 rfl (by decide) rfl kf_RX8_64 ?_
        refine a_getIN (j := 9) dX8_blind_52 KX0 rfl (by decide) rfl kf_RX8_260 ?_
        refine a_icmp_ge 69 dX8_blind_55 (by decide) rfl rfl h (fun c7 h => ?_) (fun c7 h => ?_)
        · skip
          refine a_ldc (z := -1000000) dX8_blind_69 kc_RX8_250 (by decide) ?_
          exact a_iret dX8_blind_71 rfl (p_1 h) (p_S (p_2 h))
        · skip
          refine a_aload_n 0 dX8_blind_58 rfl ?_
          refine a_getR (j := 10) dX8_blind_59 KX8 rfl (by decide) rfl kf_RX8_64 ?_
          refine a_iload_n 1 dX8_blind_62 rfl ?_
          refine bp_s h (fun r8 e9 h => ?_)
          refine a_callVI dX8_blind_63 mX0_codeAt KX0 rfl kv_X0_codeAt ks_X0_codeAt rfl km_RX8_263 rfl (T_X0_codeAt e9) (fun _ => rfl) rfl (Nat.le_of_ble_eq_true rfl) (Nat.le_of_ble_eq_true rfl) ⟨(Nat.le_of_ble_eq_true rfl), (Nat.le_of_ble_eq_true rfl)⟩ (Nat.le_of_ble_eq_true rfl) ?_
          refine a_goto 71 dX8_blind_66 (by decide) ?_
          exact a_iret dX8_blind_71 rfl (p_1 h) (p_S (p_2 h))
      · skip
        refine a_aload_n 0 dX8_blind_39 rfl ?_
        refine a_getR (j := 10) dX8_blind_40 KX8 rfl (by decide) rfl kf_RX8_64 ?_
        refine a_getIN (j := 9) dX8_blind_43 KX0 rfl (by decide) rfl kf_RX8_260 ?_
        exact a_iret dX8_blind_46 rfl (p_1 h) (p_S (p_2 h))
    · skip
      refine a_aload_n 0 dX8_blind_25 rfl ?_
      refine a_getR (j := 10) dX8_blind_26 KX8 rfl (by decide) rfl kf_RX8_64 ?_
      refine a_getIN (j := 8) dX8_blind_29 KX0 rfl (by decide) rfl kf_RX8_258 ?_
      exact a_iret dX8_blind_32 rfl (p_1 h) (p_S (p_2 h))
  · skip
    refine a_ldc (z := -1000000) dX8_blind_6 kc_RX8_250 (by decide) ?_
    exact a_iret dX8_blind_8 rfl (p_1 h) (p_S (p_2 h))

