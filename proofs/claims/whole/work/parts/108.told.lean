def X8_wheel (σ : sM) (a1 a2 : Int) : Option Int := bp (X1_isWheel σ a1) (fun r1 => if ¬ wi r1 = 0 then if wi a2 = 0 then bp (X1_sortOf σ a1) (fun r5 => some r5) else if wi a2 = 1 then bp (X1_portionsAtFirst σ a1) (fun r8 => some r8) else if wi a2 = 2 then bp (X8_stepOf σ (σ 26 2) a1) (fun r11 => some r11) else if wi a2 = 3 then bp (X8_portionsOf σ (σ 26 2) a1) (fun r14 => some r14) else if wi a2 = 4 then bp (X1_isOpen σ (σ 26 2) a1) (fun r17 => if wi r17 = 0 then some 0 else some 1) else if wi a2 = 5 then bp (X8_has σ (σ 26 3) a1) (fun r21 => if wi r21 = 0 then some 0 else some 1) else if wi a2 = 6 then bp (X1_goodNow σ (σ 26 2) a1) (fun r25 => some r25) else if wi a2 = 7 then bp (X1_tenthsNow σ (σ 26 2) (σ 26 3) a1 (σ 26 0)) (fun r28 => some r28) else some (-1) else some (-1))
set_option maxRecDepth 100000 in
set_option maxHeartbeats 400000 in
theorem T_X8_wheel {G : sG} {q_0 : qT} {x_0 : List Nat} {σ : sM} {r_0 : Int} {a1 a2 : Int}  (h : X8_wheel σ a1 a2 = some r_0) : aM G yX8_wheel cX8_wheel 3 (some .int) 3 0 0 [.ref (gP G 0), vI a1, vI a2] (mkSh q_0 x_0, σ) (r_0, (mkSh q_0 x_0, σ)) := by
  unfold X8_wheel at h
  refine aM_of (by decide) (Nat.le_of_ble_eq_true rfl) ?_
  show aW G cX8_wheel RX8 "wheel" 3 (some .int) _ _ aX 0 0 _ [(0, .ref (gP G 0)), (1, vI a1), (2, vI a2)] 0 []
  refine a_aload_n 0 dX8_wheel_0 rfl ?_
  refine a_getR (j := 2) dX8_wheel_1 KX8 rfl (by decide) rfl kf_RX8_20 ?_
  refine a_iload_n 1 dX8_wheel_4 rfl ?_
  refine bp_s h (fun r1 e2 h => ?_)
  refine a_callVI dX8_wheel_5 mX1_isWheel KX1 rfl kv_X1_isWheel ks_X1_isWheel rfl km_RX8_124 rfl (T_X1_isWheel e2) (fun _ => rfl) rfl (Nat.le_of_ble_eq_true rfl) (Nat.le_of_ble_eq_true rfl) ⟨(Nat.le_of_ble_eq_true rfl), (Nat.le_of_ble_eq_true rfl)⟩ (Nat.le_of_ble_eq_true rfl) ?_
  refine a_if_ne 13 dX8_wheel_8 (by decide) rfl h (fun c3 h => ?_) (fun c3 h => ?_)
  · skip
    refine a_iload_n 2 dX8_wheel_13 rfl ?_
    refine a_if h (fun c4 h => ?_) (fun c4 h => ?_)
    · skip
      refine a_tsIn (off := 46) 60 dX8_wheel_14 c4 (by decide) (by decide) (by decide) ?_
      refine a_aload_n 0 dX8_wheel_60 rfl ?_
      refine a_getR (j := 2) dX8_wheel_61 KX8 rfl (by decide) rfl kf_RX8_20 ?_
      refine a_iload_n 1 dX8_wheel_64 rfl ?_
      refine bp_s h (fun r5 e6 h => ?_)
      refine a_callVI dX8_wheel_65 mX1_sortOf KX1 rfl kv_X1_sortOf ks_X1_sortOf rfl km_RX8_127 rfl (T_X1_sortOf e6) (fun _ => rfl) rfl (Nat.le_of_ble_eq_true rfl) (Nat.le_of_ble_eq_true rfl) ⟨(Nat.le_of_ble_eq_true rfl), (Nat.le_of_ble_eq_true rfl)⟩ (Nat.le_of_ble_eq_true rfl) ?_
      exact a_iret dX8_wheel_68 rfl (s_inj h) rfl
    · skip
      refine a_if h (fun c7 h => ?_) (fun c7 h => ?_)
      · skip
        refine a_tsIn (off := 55) 69 dX8_wheel_14 c7 (by decide) (by decide) (by decide) ?_
        refine a_aload_n 0 dX8_wheel_69 rfl ?_
        refine a_getR (j := 2) dX8_wheel_70 KX8 rfl (by decide) rfl kf_RX8_20 ?_
        refine a_iload_n 1 dX8_wheel_73 rfl ?_
        refine bp_s h (fun r8 e9 h => ?_)
        refine a_callVI dX8_wheel_74 mX1_portionsAtFirst KX1 rfl kv_X1_portionsAtFirst ks_X1_portionsAtFirst rfl km_RX8_130 rfl (T_X1_portionsAtFirst e9) (fun _ => rfl) rfl (Nat.le_of_ble_eq_true rfl) (Nat.le_of_ble_eq_true rfl) ⟨(Nat.le_of_ble_eq_true rfl), (Nat.le_of_ble_eq_true rfl)⟩ (Nat.le_of_ble_eq_true rfl) ?_
        exact a_iret dX8_wheel_77 rfl (s_inj h) rfl
      · skip
        refine a_if h (fun c10 h => ?_) (fun c10 h => ?_)
        · skip
          refine a_tsIn (off := 64) 78 dX8_wheel_14 c10 (by decide) (by decide) (by decide) ?_
          refine a_aload_n 0 dX8_wheel_78 rfl ?_
          refine a_getR (j := 5) dX8_wheel_79 KX8 rfl (by decide) rfl kf_RX8_39 ?_
          refine a_getIN (j := 2) dX8_wheel_82 KX7 rfl (by decide) rfl kf_RX8_133 ?_
          refine a_iload_n 1 dX8_wheel_85 rfl ?_
          refine bp_s h (fun r11 e12 h => ?_)
          refine a_callSI dX8_wheel_86 mX8_stepOf kv_X8_stepOf km_RX8_136 rfl (T_X8_stepOf e12) (fun _ => rfl) rfl (Nat.le_of_ble_eq_true rfl) (Nat.le_of_ble_eq_true rfl) ⟨(Nat.le_of_ble_eq_true rfl), (Nat.le_of_ble_eq_true rfl)⟩ (Nat.le_of_ble_eq_true rfl) ?_
          exact a_iret dX8_wheel_89 rfl (s_inj h) rfl
        · skip
          refine a_if h (fun c13 h => ?_) (fun c13 h => ?_)
          · skip
            refine a_tsIn (off := 76) 90 dX8_wheel_14 c13 (by decide) (by decide) (by decide) ?_
            refine a_aload_n 0 dX8_wheel_90 rfl ?_
            refine a_getR (j := 5) dX8_wheel_91 KX8 rfl (by decide) rfl kf_RX8_39 ?_
            refine a_getIN (j := 2) dX8_wheel_94 KX7 rfl (by decide) rfl kf_RX8_133 ?_
            refine a_iload_n 1 dX8_wheel_97 rfl ?_
            refine bp_s h (fun r14 e15 h => ?_)
            refine a_callSI dX8_wheel_98 mX8_portionsOf kv_X8_portionsOf km_RX8_139 rfl (T_X8_portionsOf e15) (fun _ => rfl) rfl (Nat.le_of_ble_eq_true rfl) (Nat.le_of_ble_eq_true rfl) ⟨(Nat.le_of_ble_eq_true rfl), (Nat.le_of_ble_eq_true rfl)⟩ (Nat.le_of_ble_eq_true rfl) ?_
            exact a_iret dX8_wheel_101 rfl (s_inj h) rfl
          · skip
            refine a_if h (fun c16 h => ?_) (fun c16 h => ?_)
            · skip
              refine a_tsIn (off := 88) 102 dX8_wheel_14 c16 (by decide) (by decide) (by decide) ?_
              refine a_aload_n 0 dX8_wheel_102 rfl ?_
              refine a_getR (j := 2) dX8_wheel_103 KX8 rfl (by decide) rfl kf_RX8_20 ?_
              refine a_aload_n 0 dX8_wheel_106 rfl ?_
              refine a_getR (j := 5) dX8_wheel_107 KX8 rfl (by decide) rfl kf_RX8_39 ?_
              refine a_getIN (j := 2) dX8_wheel_110 KX7 rfl (by decide) rfl kf_RX8_133 ?_
              refine a_iload_n 1 dX8_wheel_113 rfl ?_
              refine bp_s h (fun r17 e18 h => ?_)
              refine a_callVI dX8_wheel_114 mX1_isOpen KX1 rfl kv_X1_isOpen ks_X1_isOpen rfl km_RX8_142 rfl (T_X1_isOpen e18) (fun _ => rfl) rfl (Nat.le_of_ble_eq_true rfl) (Nat.le_of_ble_eq_true rfl) ⟨(Nat.le_of_ble_eq_true rfl), (Nat.le_of_ble_eq_true rfl)⟩ (Nat.le_of_ble_eq_true rfl) ?_
              refine a_if_eq 124 dX8_wheel_117 (by decide) rfl h (fun c19 h => ?_) (fun c19 h => ?_)
              · skip
                refine a_iconst dX8_wheel_124 ?_
                exact a_iret dX8_wheel_125 rfl (s_inj h) rfl
              · skip
                refine a_iconst dX8_wheel_120 ?_
                refine a_goto 125 dX8_wheel_121 (by decide) ?_
                exact a_iret dX8_wheel_125 rfl (s_inj h) rfl
            · skip
              refine a_if h (fun c20 h => ?_) (fun c20 h => ?_)
              · skip
                refine a_tsIn (off := 112) 126 dX8_wheel_14 c20 (by decide) (by decide) (by decide) ?_
                refine a_aload_n 0 dX8_wheel_126 rfl ?_
                refine a_getR (j := 5) dX8_wheel_127 KX8 rfl (by decide) rfl kf_RX8_39 ?_
                refine a_getIN (j := 3) dX8_wheel_130 KX7 rfl (by decide) rfl kf_RX8_146 ?_
                refine a_iload_n 1 dX8_wheel_133 rfl ?_
                refine bp_s h (fun r21 e22 h => ?_)
                refine a_callSI dX8_wheel_134 mX8_has kv_X8_has km_RX8_149 rfl (T_X8_has e22) (fun _ => rfl) rfl (Nat.le_of_ble_eq_true rfl) (Nat.le_of_ble_eq_true rfl) ⟨(Nat.le_of_ble_eq_true rfl), (Nat.le_of_ble_eq_true rfl)⟩ (Nat.le_of_ble_eq_true rfl) ?_
                refine a_if_eq 144 dX8_wheel_137 (by decide) rfl h (fun c23 h => ?_) (fun c23 h => ?_)
                · skip
                  refine a_iconst dX8_wheel_144 ?_
                  exact a_iret dX8_wheel_145 rfl (s_inj h) rfl
                · skip
                  refine a_iconst dX8_wheel_140 ?_
                  refine a_goto 145 dX8_wheel_141 (by decide) ?_
                  exact a_iret dX8_wheel_145 rfl (s_inj h) rfl
              · skip
                refine a_if h (fun c24 h => ?_) (fun c24 h => ?_)
                · skip
                  refine a_tsIn (off := 132) 146 dX8_wheel_14 c24 (by decide) (by decide) (by decide) ?_
                  refine a_aload_n 0 dX8_wheel_146 rfl ?_
                  refine a_getR (j := 2) dX8_wheel_147 KX8 rfl (by decide) rfl kf_RX8_20 ?_
                  refine a_aload_n 0 dX8_wheel_150 rfl ?_
                  refine a_getR (j := 5) dX8_wheel_151 KX8 rfl (by decide) rfl kf_RX8_39 ?_
                  refine a_getIN (j := 2) dX8_wheel_154 KX7 rfl (by decide) rfl kf_RX8_133 ?_
                  refine a_iload_n 1 dX8_wheel_157 rfl ?_
                  refine bp_s h (fun r25 e26 h => ?_)
                  refine a_callVI dX8_wheel_158 mX1_goodNow KX1 rfl kv_X1_goodNow ks_X1_goodNow rfl km_RX8_152 rfl (T_X1_goodNow e26) (fun _ => rfl) rfl (Nat.le_of_ble_eq_true rfl) (Nat.le_of_ble_eq_true rfl) ⟨(Nat.le_of_ble_eq_true rfl), (Nat.le_of_ble_eq_true rfl)⟩ (Nat.le_of_ble_eq_true rfl) ?_
                  exact a_iret dX8_wheel_161 rfl (s_inj h) rfl
                · skip
                  refine a_if h (fun c27 h => ?_) (fun c27 h => ?_)
                  · skip
                    refine a_tsIn (off := 148) 162 dX8_wheel_14 c27 (by decide) (by decide) (by decide) ?_
                    refine a_aload_n 0 dX8_wheel_162 rfl ?_
                    refine a_getR (j := 2) dX8_wheel_163 KX8 rfl (by decide) rfl kf_RX8_20 ?_
                    refine a_aload_n 0 dX8_wheel_166 rfl ?_
                    refine a_getR (j := 5) dX8_wheel_167 KX8 rfl (by decide) rfl kf_RX8_39 ?_
                    refine a_getIN (j := 2) dX8_wheel_170 KX7 rfl (by decide) rfl kf_RX8_133 ?_
                    refine a_aload_n 0 dX8_wheel_173 rfl ?_
                    refine a_getR (j := 5) dX8_wheel_174 KX8 rfl (by decide) rfl kf_RX8_39 ?_
                    refine a_getIN (j := 3) dX8_wheel_177 KX7 rfl (by decide) rfl kf_RX8_146 ?_
                    refine a_iload_n 1 dX8_wheel_180 rfl ?_
                    refine a_aload_n 0 dX8_wheel_181 rfl ?_
                    refine a_getR (j := 5) dX8_wheel_182 KX8 rfl (by decide) rfl kf_RX8_39 ?_
                    refine a_getIN (j := 0) dX8_wheel_185 KX7 rfl (by decide) rfl kf_RX8_155 ?_
                    refine bp_s h (fun r28 e29 h => ?_)
                    refine a_callVI dX8_wheel_188 mX1_tenthsNow KX1 rfl kv_X1_tenthsNow ks_X1_tenthsNow rfl km_RX8_158 rfl (T_X1_tenthsNow e29) (fun _ => rfl) rfl (Nat.le_of_ble_eq_true rfl) (Nat.le_of_ble_eq_true rfl) ⟨(Nat.le_of_ble_eq_true rfl), (Nat.le_of_ble_eq_true rfl)⟩ (Nat.le_of_ble_eq_true rfl) ?_
                    exact a_iret dX8_wheel_191 rfl (s_inj h) rfl
                  · skip
                    refine a_tsOut (v := wi a2) 192 dX8_wheel_14 rfl (by omega) (by decide) ?_
                    refine a_iconst dX8_wheel_192 ?_
                    exact a_iret dX8_wheel_193 rfl (s_inj h) rfl
  · skip
    refine a_iconst dX8_wheel_11 ?_
    exact a_iret dX8_wheel_12 rfl (s_inj h) rfl

def X8_place (σ : sM) (a1 a2 a3 : Int) : Option (Int × sM) := bp (X1_isWheel σ a1) (fun r1 => if wi r1 = 0 then some ((-1), σ) else if wi a2 < 0 then some ((-1), σ) else if wi a2 ≤ 3 then if wi a3 < 0 then some ((-1), σ) else bp (X1_portionsAtFirst σ a1) (fun r7 => if wi a3 ≤ wi r7 then bp (X8_stepOf σ (σ 26 2) a1) (fun r10 => bp (X8_portionsOf σ (σ 26 2) a1) (fun r12 => bp (X8_without σ (σ 26 2) a1) (fun r14 => bp (X8_field σ a1 a2 a3) (fun r16 => some ((10 * r10) + r12, (sU σ 26 2 (q_or r14 r16))))))) else some ((-1), σ)) else some ((-1), σ))
set_option maxRecDepth 100000 in
set_option maxHeartbeats 400000 in
theorem T_X8_place {G : sG} {q_0 : qT} {x_0 : List Nat} {σ s_0 : sM} {r_0 : Int} {a1 a2 a3 : Int}  (h : X8_place σ a1 a2 a3 = some (r_0, s_0)) : aM G yX8_place cX8_place 5 (some .int) 1 0 0 [.ref (gP G 0), vI a1, vI a2, vI a3] (mkSh q_0 x_0, σ) (r_0, (mkSh q_0 x_0, s_0)) := by
  unfold X8_place at h
  refine aM_of (by decide) (Nat.le_of_ble_eq_true rfl) ?_
  show aW G cX8_place RX8 "place" 5 (some .int) _ _ aX 0 0 _ [(0, .ref (gP G 0)), (1, vI a1), (2, vI a2), (3, vI a3)] 0 []
  refine a_aload_n 0 dX8_place_0 rfl ?_
  refine a_getR (j := 2) dX8_place_1 KX8 rfl (by decide) rfl kf_RX8_20 ?_
  refine a_iload_n 1 dX8_place_4 rfl ?_
  refine bp_s h (fun r1 e2 h => ?_)
  refine a_callVI dX8_place_5 mX1_isWheel KX1 rfl kv_X1_isWheel ks_X1_isWheel rfl km_RX8_124 rfl (T_X1_isWheel e2) (fun _ => rfl) rfl (Nat.le_of_ble_eq_true rfl) (Nat.le_of_ble_eq_true rfl) ⟨(Nat.le_of_ble_eq_true rfl), (Nat.le_of_ble_eq_true rfl)⟩ (Nat.le_of_ble_eq_true rfl) ?_
  refine a_if_eq 20 dX8_place_8 (by decide) rfl h (fun c3 h => ?_) (fun c3 h => ?_)
  · skip
    refine a_iconst dX8_place_20 ?_
    exact a_iret dX8_place_21 rfl (p_1 h) (p_S (p_2 h))
  · skip
    refine a_iload_n 2 dX8_place_11 rfl ?_
    refine a_if_lt 20 dX8_place_12 (by decide) rfl h (fun c4 h => ?_) (fun c4 h => ?_)
    · skip
      refine a_iconst dX8_place_20 ?_
      exact a_iret dX8_place_21 rfl (p_1 h) (p_S (p_2 h))
    · skip
      refine a_iload_n 2 dX8_place_15 rfl ?_
      refine a_iconst dX8_place_16 ?_
      refine a_icmp_le 22 dX8_place_17 (by decide) rfl (by decide) h (fun c5 h => ?_) (fun c5 h => ?_)
      · skip
        refine a_iload_n 3 dX8_place_22 rfl ?_
        refine a_if_lt 38 dX8_place_23 (by decide) rfl h (fun c6 h => ?_) (fun c6 h => ?_)
        · skip
          refine a_iconst dX8_place_38 ?_
          exact a_iret dX8_place_39 rfl (p_1 h) (p_S (p_2 h))
        · skip
          refine a_iload_n 3 dX8_place_26 rfl ?_
          refine a_aload_n 0 dX8_place_27 rfl ?_
          refine a_getR (j := 2) dX8_place_28 KX8 rfl (by decide) rfl kf_RX8_20 ?_
          refine a_iload_n 1 dX8_place_31 rfl ?_
          refine bp_s h (fun r7 e8 h => ?_)
          refine a_callVI dX8_place_32 mX1_portionsAtFirst KX1 rfl kv_X1_portionsAtFirst ks_X1_portionsAtFirst rfl km_RX8_130 rfl (T_X1_portionsAtFirst e8) (fun _ => rfl) rfl (Nat.le_of_ble_eq_true rfl) (Nat.le_of_ble_eq_true rfl) ⟨(Nat.le_of_ble_eq_true rfl), (Nat.le_of_ble_eq_true rfl)⟩ (Nat.le_of_ble_eq_true rfl) ?_
          refine a_icmp_le 40 dX8_place_35 (by decide) rfl rfl h (fun c9 h => ?_) (fun c9 h => ?_)
          · skip
            refine a_bipush dX8_place_40 (by decide) ?_
            refine a_aload_n 0 dX8_place_42 rfl ?_
            refine a_getR (j := 5) dX8_place_43 KX8 rfl (by decide) rfl kf_RX8_39 ?_
            refine a_getIN (j := 2) dX8_place_46 KX7 rfl (by decide) rfl kf_RX8_133 ?_
            refine a_iload_n 1 dX8_place_49 rfl ?_
            refine bp_s h (fun r10 e11 h => ?_)
            refine a_callSI dX8_place_50 mX8_stepOf kv_X8_stepOf km_RX8_136 rfl (T_X8_stepOf e11) (fun _ => rfl) rfl (Nat.le_of_ble_eq_true rfl) (Nat.le_of_ble_eq_true rfl) ⟨(Nat.le_of_ble_eq_true rfl), (Nat.le_of_ble_eq_true rfl)⟩ (Nat.le_of_ble_eq_true rfl) ?_
            refine a_imul dX8_place_53 ?_
            refine a_aload_n 0 dX8_place_54 rfl ?_
            refine a_getR (j := 5) dX8_place_55 KX8 rfl (by decide) rfl kf_RX8_39 ?_
            refine a_getIN (j := 2) dX8_place_58 KX7 rfl (by decide) rfl kf_RX8_133 ?_
            refine a_iload_n 1 dX8_place_61 rfl ?_
            refine bp_s h (fun r12 e13 h => ?_)
            refine a_callSI dX8_place_62 mX8_portionsOf kv_X8_portionsOf km_RX8_139 rfl (T_X8_portionsOf e13) (fun _ => rfl) rfl (Nat.le_of_ble_eq_true rfl) (Nat.le_of_ble_eq_true rfl) ⟨(Nat.le_of_ble_eq_true rfl), (Nat.le_of_ble_eq_true rfl)⟩ (Nat.le_of_ble_eq_true rfl) ?_
            refine a_iadd dX8_place_65 ?_
            refine a_istore (L' := [(4, vI ((10 * r10) + r12)), (0, .ref (gP G 0)), (1, vI a1), (2, vI a2), (3, vI a3)]) dX8_place_66 (by decide) rfl ?_
            refine a_aload_n 1 dX8_place_68 rfl ?_
            refine a_getR (j := 5) dX8_place_69 KX8 rfl (by decide) rfl kf_RX8_39 ?_
            refine a_aload_n 1 dX8_place_72 rfl ?_
            refine a_getR (j := 5) dX8_place_73 KX8 rfl (by decide) rfl kf_RX8_39 ?_
            refine a_getIN (j := 2) dX8_place_76 KX7 rfl (by decide) rfl kf_RX8_133 ?_
            refine a_iload_n 2 dX8_place_79 rfl ?_
            refine bp_s h (fun r14 e15 h => ?_)
            refine a_callSI dX8_place_80 mX8_without kv_X8_without km_RX8_168 rfl (T_X8_without e15) (fun _ => rfl) rfl (Nat.le_of_ble_eq_true rfl) (Nat.le_of_ble_eq_true rfl) ⟨(Nat.le_of_ble_eq_true rfl), (Nat.le_of_ble_eq_true rfl)⟩ (Nat.le_of_ble_eq_true rfl) ?_
            refine a_iload_n 2 dX8_place_83 rfl ?_
            refine a_iload_n 3 dX8_place_84 rfl ?_
            refine a_iload_n 4 dX8_place_85 rfl ?_
            refine bp_s h (fun r16 e17 h => ?_)
            refine a_callSI dX8_place_86 mX8_field kv_X8_field km_RX8_171 rfl (T_X8_field e17) (fun _ => rfl) rfl (Nat.le_of_ble_eq_true rfl) (Nat.le_of_ble_eq_true rfl) ⟨(Nat.le_of_ble_eq_true rfl), (Nat.le_of_ble_eq_true rfl)⟩ (Nat.le_of_ble_eq_true rfl) ?_
            refine a_ior dX8_place_89 ?_
            refine a_putIN (j := 2) dX8_place_90 KX7 rfl (by decide) rfl rfl rfl kf_RX8_133 ?_
            refine a_iload 0 dX8_place_93 rfl ?_
            exact a_iret dX8_place_95 rfl (p_1 h) (p_S (p_2 h))
          · skip
            refine a_iconst dX8_place_38 ?_
            exact a_iret dX8_place_39 rfl (p_1 h) (p_S (p_2 h))
      · skip
        refine a_iconst dX8_place_20 ?_
        exact a_iret dX8_place_21 rfl (p_1 h) (p_S (p_2 h))

def X8_actIfMay (F : Nat) (σ : sM) (a1 : Int) : Option (Int × sM) := bp (X8_mayActNow σ) (fun r1 => if wi r1 = 0 then some ((-2), σ) else bp (X1_mayBe F σ (σ 26 2) a1) (fun r4 => if ¬ wi r4 = 0 then bn (X7_act σ a1) (fun r7 σ9 => some (r7, σ9)) else some ((-2), σ)))
set_option maxRecDepth 100000 in
set_option maxHeartbeats 400000 in
theorem T_X8_actIfMay {G : sG} {q_0 : qT} {x_0 : List Nat} {σ s_0 : sM} {r_0 : Int} {a1 : Int} {F : Nat}  (h : X8_actIfMay F σ a1 = some (r_0, s_0)) : aM G yX8_actIfMay cX8_actIfMay 2 (some .int) 4 0 0 [.ref (gP G 0), vI a1] (mkSh q_0 x_0, σ) (r_0, (mkSh q_0 x_0, s_0)) := by
  unfold X8_actIfMay at h
  refine aM_of (by decide) (Nat.le_of_ble_eq_true rfl) ?_
  show aW G cX8_actIfMay RX8 "actIfMay" 2 (some .int) _ _ aX 0 0 _ [(0, .ref (gP G 0)), (1, vI a1)] 0 []
  refine a_aload_n 0 dX8_actIfMay_0 rfl ?_
  refine bp_s h (fun r1 e2 h => ?_)
  refine a_callVI dX8_actIfMay_1 mX8_mayActNow KX8 rfl kv_X8_mayActNow ks_X8_mayActNow rfl km_RX8_178 rfl (T_X8_mayActNow e2) (fun _ => rfl) rfl (Nat.le_of_ble_eq_true rfl) (Nat.le_of_ble_eq_true rfl) ⟨(Nat.le_of_ble_eq_true rfl), (Nat.le_of_ble_eq_true rfl)⟩ (Nat.le_of_ble_eq_true rfl) ?_
  refine a_if_eq 25 dX8_actIfMay_4 (by decide) rfl h (fun c3 h => ?_) (fun c3 h => ?_)
  · skip
    refine a_bipush dX8_actIfMay_25 (by decide) ?_
    exact a_iret dX8_actIfMay_27 rfl (p_1 h) (p_S (p_2 h))
  · skip
    refine a_aload_n 0 dX8_actIfMay_7 rfl ?_
    refine a_getR (j := 2) dX8_actIfMay_8 KX8 rfl (by decide) rfl kf_RX8_20 ?_
    refine a_aload_n 0 dX8_actIfMay_11 rfl ?_
    refine a_getR (j := 5) dX8_actIfMay_12 KX8 rfl (by decide) rfl kf_RX8_39 ?_
    refine a_getIN (j := 2) dX8_actIfMay_15 KX7 rfl (by decide) rfl kf_RX8_133 ?_
    refine a_iload_n 1 dX8_actIfMay_18 rfl ?_
    refine bp_s h (fun r4 e5 h => ?_)
    refine a_callVI dX8_actIfMay_19 mX1_mayBe KX1 rfl kv_X1_mayBe ks_X1_mayBe rfl km_RX8_182 rfl (T_X1_mayBe e5) (fun _ => rfl) rfl (Nat.le_of_ble_eq_true rfl) (Nat.le_of_ble_eq_true rfl) ⟨(Nat.le_of_ble_eq_true rfl), (Nat.le_of_ble_eq_true rfl)⟩ (Nat.le_of_ble_eq_true rfl) ?_
    refine a_if_ne 28 dX8_actIfMay_22 (by decide) rfl h (fun c6 h => ?_) (fun c6 h => ?_)
    · skip
      refine a_aload_n 0 dX8_actIfMay_28 rfl ?_
      refine a_getR (j := 5) dX8_actIfMay_29 KX8 rfl (by decide) rfl kf_RX8_39 ?_
      refine a_aload_n 0 dX8_actIfMay_32 rfl ?_
      refine a_getR (j := 2) dX8_actIfMay_33 KX8 rfl (by decide) rfl kf_RX8_20 ?_
      refine a_iload_n 1 dX8_actIfMay_36 rfl ?_
      refine bn_s h (fun r7 σ9 e8 h => ?_)
      refine a_callVI dX8_actIfMay_37 mX7_act KX7 rfl kv_X7_act ks_X7_act rfl km_RX8_185 rfl (T_X7_act e8) (fun _ => rfl) rfl (Nat.le_of_ble_eq_true rfl) (Nat.le_of_ble_eq_true rfl) ⟨(Nat.le_of_ble_eq_true rfl), (Nat.le_of_ble_eq_true rfl)⟩ (Nat.le_of_ble_eq_true rfl) ?_
      exact a_iret dX8_actIfMay_40 rfl (p_1 h) (p_S (p_2 h))
    · skip
      refine a_bipush dX8_actIfMay_25 (by decide) ?_
      exact a_iret dX8_actIfMay_27 rfl (p_1 h) (p_S (p_2 h))

def X8_stop (σ : sM) (a1 : Int) : Option (Int × sM) := bp (X1_isWheel σ a1) (fun r1 => if ¬ wi r1 = 0 then bp (X8_has σ (σ 26 3) a1) (fun r4 => jn (fun q6 : Int => some (q6, (sU σ 26 3 (q_or (σ 26 3) (q_shl 1 a1))))) (fun K7 => if wi r4 = 0 then K7 1 else K7 0)) else some ((-1), σ))
set_option maxRecDepth 100000 in
set_option maxHeartbeats 400000 in
theorem T_X8_stop {G : sG} {q_0 : qT} {x_0 : List Nat} {σ s_0 : sM} {r_0 : Int} {a1 : Int}  (h : X8_stop σ a1 = some (r_0, s_0)) : aM G yX8_stop cX8_stop 3 (some .int) 1 0 0 [.ref (gP G 0), vI a1] (mkSh q_0 x_0, σ) (r_0, (mkSh q_0 x_0, s_0)) := by
  unfold X8_stop at h
  refine aM_of (by decide) (Nat.le_of_ble_eq_true rfl) ?_
  show aW G cX8_stop RX8 "stop" 3 (some .int) _ _ aX 0 0 _ [(0, .ref (gP G 0)), (1, vI a1)] 0 []
  refine a_aload_n 0 dX8_stop_0 rfl ?_
  refine a_getR (j := 2) dX8_stop_1 KX8 rfl (by decide) rfl kf_RX8_20 ?_
  refine a_iload_n 1 dX8_stop_4 rfl ?_
  refine bp_s h (fun r1 e2 h => ?_)
  refine a_callVI dX8_stop_5 mX1_isWheel KX1 rfl kv_X1_isWheel ks_X1_isWheel rfl km_RX8_124 rfl (T_X1_isWheel e2) (fun _ => rfl) rfl (Nat.le_of_ble_eq_true rfl) (Nat.le_of_ble_eq_true rfl) ⟨(Nat.le_of_ble_eq_true rfl), (Nat.le_of_ble_eq_true rfl)⟩ (Nat.le_of_ble_eq_true rfl) ?_
  refine a_if_ne 13 dX8_stop_8 (by decide) rfl h (fun c3 h => ?_) (fun c3 h => ?_)
  · skip
    refine a_aload_n 0 dX8_stop_13 rfl ?_
    refine a_getR (j := 5) dX8_stop_14 KX8 rfl (by decide) rfl kf_RX8_39 ?_
    refine a_getIN (j := 3) dX8_stop_17 KX7 rfl (by decide) rfl kf_RX8_146 ?_
    refine a_iload_n 1 dX8_stop_20 rfl ?_
    refine bp_s h (fun r4 e5 h => ?_)
    refine a_callSI dX8_stop_21 mX8_has kv_X8_has km_RX8_149 rfl (T_X8_has e5) (fun _ => rfl) rfl (Nat.le_of_ble_eq_true rfl) (Nat.le_of_ble_eq_true rfl) ⟨(Nat.le_of_ble_eq_true rfl), (Nat.le_of_ble_eq_true rfl)⟩ (Nat.le_of_ble_eq_true rfl) ?_
    refine jn_s (fun q6 : Int => aW G cX8_stop RX8 "stop" 3 (some .int) (sR 1 0 0) (aQ G (some .int) 0 0 (r_0, (mkSh q_0 x_0, s_0))) aX 0 0 (mkSh q_0 x_0, σ) [(0, .ref (gP G 0)), (1, vI a1)] 32 [vI q6]) h (fun q6 h => ?_) (fun K7 hK7 h => ?_)
    · skip
      refine a_istore_n (L' := [(2, vI q6), (0, .ref (gP G 0)), (1, vI a1)]) dX8_stop_32 (by decide) rfl ?_
      refine a_aload_n 1 dX8_stop_33 rfl ?_
      refine a_getR (j := 5) dX8_stop_34 KX8 rfl (by decide) rfl kf_RX8_39 ?_
      refine a_dupR dX8_stop_37 ?_
      refine a_getIN (j := 3) dX8_stop_38 KX7 rfl (by decide) rfl kf_RX8_146 ?_
      refine a_iconst dX8_stop_41 ?_
      refine a_iload_n 2 dX8_stop_42 rfl ?_
      refine a_ishl dX8_stop_43 ?_
      refine a_ior dX8_stop_44 ?_
      refine a_putIN (j := 3) dX8_stop_45 KX7 rfl (by decide) rfl rfl rfl kf_RX8_146 ?_
      refine a_iload_n 0 dX8_stop_48 rfl ?_
      exact a_iret dX8_stop_49 rfl (p_1 h) (p_S (p_2 h))
    · skip
      refine a_if_eq 31 dX8_stop_24 (by decide) rfl h (fun c8 h => ?_) (fun c8 h => ?_)
      · skip
        refine a_iconst dX8_stop_31 ?_
        have hh := hK7 _ h
        exact a_sub [0, 1] rfl hh
      · skip
        refine a_iconst dX8_stop_27 ?_
        refine a_goto 32 dX8_stop_28 (by decide) ?_
        have hh := hK7 _ h
        exact a_sub [0, 1] rfl hh
  · skip
    refine a_iconst dX8_stop_11 ?_
    exact a_iret dX8_stop_12 rfl (p_1 h) (p_S (p_2 h))

def X8_next (F : Nat) (σ : sM) : Option (Int × sM) := bp (X8_isOver σ) (fun r1 => if wi r1 = 0 then bn (X7_goOn F σ) (fun r4 σ6 => some (r4, σ6)) else some ((-2), σ))
set_option maxRecDepth 100000 in
set_option maxHeartbeats 400000 in
theorem T_X8_next {G : sG} {q_0 : qT} {x_0 : List Nat} {σ s_0 : sM} {r_0 : Int} {F : Nat}  (h : X8_next F σ = some (r_0, s_0)) : aM G yX8_next cX8_next 1 (some .int) 4 0 0 [.ref (gP G 0)] (mkSh q_0 x_0, σ) (r_0, (mkSh q_0 x_0, s_0)) := by
  unfold X8_next at h
  refine aM_of (by decide) (Nat.le_of_ble_eq_true rfl) ?_
  show aW G cX8_next RX8 "next" 1 (some .int) _ _ aX 0 0 _ [(0, .ref (gP G 0))] 0 []
  refine a_aload_n 0 dX8_next_0 rfl ?_
  refine bp_s h (fun r1 e2 h => ?_)
  refine a_callVI dX8_next_1 mX8_isOver KX8 rfl kv_X8_isOver ks_X8_isOver rfl km_RX8_195 rfl (T_X8_isOver e2) (fun _ => rfl) rfl (Nat.le_of_ble_eq_true rfl) (Nat.le_of_ble_eq_true rfl) ⟨(Nat.le_of_ble_eq_true rfl), (Nat.le_of_ble_eq_true rfl)⟩ (Nat.le_of_ble_eq_true rfl) ?_
  refine a_if_eq 12 dX8_next_4 (by decide) rfl h (fun c3 h => ?_) (fun c3 h => ?_)
  · skip
    refine a_aload_n 0 dX8_next_12 rfl ?_
    refine a_getR (j := 5) dX8_next_13 KX8 rfl (by decide) rfl kf_RX8_39 ?_
    refine a_aload_n 0 dX8_next_16 rfl ?_
    refine a_getR (j := 2) dX8_next_17 KX8 rfl (by decide) rfl kf_RX8_20 ?_
    refine bn_s h (fun r4 σ6 e5 h => ?_)
    refine a_callVI dX8_next_20 mX7_goOn KX7 rfl kv_X7_goOn ks_X7_goOn rfl km_RX8_198 rfl (T_X7_goOn e5) (fun _ => rfl) rfl (Nat.le_of_ble_eq_true rfl) (Nat.le_of_ble_eq_true rfl) ⟨(Nat.le_of_ble_eq_true rfl), (Nat.le_of_ble_eq_true rfl)⟩ (Nat.le_of_ble_eq_true rfl) ?_
    exact a_iret dX8_next_23 rfl (p_1 h) (p_S (p_2 h))
  · skip
    refine a_bipush dX8_next_7 (by decide) ?_
    refine a_goto 23 dX8_next_9 (by decide) ?_
    exact a_iret dX8_next_23 rfl (p_1 h) (p_S (p_2 h))

def X8_now (F : Nat) (σ : sM) (a1 : Int) : Option Int := if wi a1 = 0 then some (σ 26 0) else if wi a1 = 1 then if wi (σ 26 1) = 0 then some 0 else some 1 else if wi a1 = 2 then some (σ 26 4) else if wi a1 = 3 then some (σ 26 5) else if wi a1 = 4 then bp (X8_allPortions σ (σ 26 2)) (fun r7 => some r7) else if wi a1 = 5 then bp (X8_isOver σ) (fun r10 => if wi r10 = 0 then some 0 else some 1) else if wi a1 = 6 then bp (X1_countOpen F σ (σ 26 2)) (fun r14 => some r14) else some (-1)
set_option maxRecDepth 100000 in
set_option maxHeartbeats 400000 in
theorem T_X8_now {G : sG} {q_0 : qT} {x_0 : List Nat} {σ : sM} {r_0 : Int} {a1 : Int} {F : Nat}  (h : X8_now F σ a1 = some r_0) : aM G yX8_now cX8_now 2 (some .int) 2 0 0 [.ref (gP G 0), vI a1] (mkSh q_0 x_0, σ) (r_0, (mkSh q_0 x_0, σ)) := by
  unfold X8_now at h
  refine aM_of (by decide) (Nat.le_of_ble_eq_true rfl) ?_
  show aW G cX8_now RX8 "now" 2 (some .int) _ _ aX 0 0 _ [(0, .ref (gP G 0)), (1, vI a1)] 0 []
  refine a_iload_n 1 dX8_now_0 rfl ?_
  refine a_if h (fun c1 h => ?_) (fun c1 h => ?_)
  · skip
    refine a_tsIn (off := 43) 44 dX8_now_1 c1 (by decide) (by decide) (by decide) ?_
    refine a_aload_n 0 dX8_now_44 rfl ?_
    refine a_getR (j := 5) dX8_now_45 KX8 rfl (by decide) rfl kf_RX8_39 ?_
    refine a_getIN (j := 0) dX8_now_48 KX7 rfl (by decide) rfl kf_RX8_155 ?_
    exact a_iret dX8_now_51 rfl (s_inj h) rfl
  · skip
    refine a_if h (fun c2 h => ?_) (fun c2 h => ?_)
    · skip
      refine a_tsIn (off := 51) 52 dX8_now_1 c2 (by decide) (by decide) (by decide) ?_
      refine a_aload_n 0 dX8_now_52 rfl ?_
      refine a_getR (j := 5) dX8_now_53 KX8 rfl (by decide) rfl kf_RX8_39 ?_
      refine a_getIN (j := 1) dX8_now_56 KX7 rfl (by decide) rfl kf_RX8_192 ?_
      refine a_if_eq 66 dX8_now_59 (by decide) rfl h (fun c3 h => ?_) (fun c3 h => ?_)
      · skip
        refine a_iconst dX8_now_66 ?_
        exact a_iret dX8_now_67 rfl (s_inj h) rfl
      · skip
        refine a_iconst dX8_now_62 ?_
        refine a_goto 67 dX8_now_63 (by decide) ?_
        exact a_iret dX8_now_67 rfl (s_inj h) rfl
    · skip
      refine a_if h (fun c4 h => ?_) (fun c4 h => ?_)
      · skip
        refine a_tsIn (off := 67) 68 dX8_now_1 c4 (by decide) (by decide) (by decide) ?_
        refine a_aload_n 0 dX8_now_68 rfl ?_
        refine a_getR (j := 5) dX8_now_69 KX8 rfl (by decide) rfl kf_RX8_39 ?_
        refine a_getIN (j := 4) dX8_now_72 KX7 rfl (by decide) rfl kf_RX8_202 ?_
        exact a_iret dX8_now_75 rfl (s_inj h) rfl
      · skip
        refine a_if h (fun c5 h => ?_) (fun c5 h => ?_)
        · skip
          refine a_tsIn (off := 75) 76 dX8_now_1 c5 (by decide) (by decide) (by decide) ?_
          refine a_aload_n 0 dX8_now_76 rfl ?_
          refine a_getR (j := 5) dX8_now_77 KX8 rfl (by decide) rfl kf_RX8_39 ?_
          refine a_getIN (j := 5) dX8_now_80 KX7 rfl (by decide) rfl kf_RX8_205 ?_
          exact a_iret dX8_now_83 rfl (s_inj h) rfl
        · skip
          refine a_if h (fun c6 h => ?_) (fun c6 h => ?_)
          · skip
            refine a_tsIn (off := 83) 84 dX8_now_1 c6 (by decide) (by decide) (by decide) ?_
            refine a_aload_n 0 dX8_now_84 rfl ?_
            refine a_getR (j := 5) dX8_now_85 KX8 rfl (by decide) rfl kf_RX8_39 ?_
            refine a_getIN (j := 2) dX8_now_88 KX7 rfl (by decide) rfl kf_RX8_133 ?_
            refine bp_s h (fun r7 e8 h => ?_)
            refine a_callSI dX8_now_91 mX8_allPortions kv_X8_allPortions km_RX8_208 rfl (T_X8_allPortions e8) (fun _ => rfl) rfl (Nat.le_of_ble_eq_true rfl) (Nat.le_of_ble_eq_true rfl) ⟨(Nat.le_of_ble_eq_true rfl), (Nat.le_of_ble_eq_true rfl)⟩ (Nat.le_of_ble_eq_true rfl) ?_
            exact a_iret dX8_now_94 rfl (s_inj h) rfl
          · skip
            refine a_if h (fun c9 h => ?_) (fun c9 h => ?_)
            · skip
              refine a_tsIn (off := 94) 95 dX8_now_1 c9 (by decide) (by decide) (by decide) ?_
              refine a_aload_n 0 dX8_now_95 rfl ?_
              refine bp_s h (fun r10 e11 h => ?_)
              refine a_callVI dX8_now_96 mX8_isOver KX8 rfl kv_X8_isOver ks_X8_isOver rfl km_RX8_195 rfl (T_X8_isOver e11) (fun _ => rfl) rfl (Nat.le_of_ble_eq_true rfl) (Nat.le_of_ble_eq_true rfl) ⟨(Nat.le_of_ble_eq_true rfl), (Nat.le_of_ble_eq_true rfl)⟩ (Nat.le_of_ble_eq_true rfl) ?_
              refine a_if_eq 106 dX8_now_99 (by decide) rfl h (fun c12 h => ?_) (fun c12 h => ?_)
              · skip
                refine a_iconst dX8_now_106 ?_
                exact a_iret dX8_now_107 rfl (s_inj h) rfl
              · skip
                refine a_iconst dX8_now_102 ?_
                refine a_goto 107 dX8_now_103 (by decide) ?_
                exact a_iret dX8_now_107 rfl (s_inj h) rfl
            · skip
              refine a_if h (fun c13 h => ?_) (fun c13 h => ?_)
              · skip
                refine a_tsIn (off := 107) 108 dX8_now_1 c13 (by decide) (by decide) (by decide) ?_
                refine a_aload_n 0 dX8_now_108 rfl ?_
                refine a_getR (j := 2) dX8_now_109 KX8 rfl (by decide) rfl kf_RX8_20 ?_
                refine a_aload_n 0 dX8_now_112 rfl ?_
                refine a_getR (j := 5) dX8_now_113 KX8 rfl (by decide) rfl kf_RX8_39 ?_
                refine a_getIN (j := 2) dX8_now_116 KX7 rfl (by decide) rfl kf_RX8_133 ?_
                refine bp_s h (fun r14 e15 h => ?_)
                refine a_callVI dX8_now_119 mX1_countOpen KX1 rfl kv_X1_countOpen ks_X1_countOpen rfl km_RX8_211 rfl (T_X1_countOpen e15) (fun _ => rfl) rfl (Nat.le_of_ble_eq_true rfl) (Nat.le_of_ble_eq_true rfl) ⟨(Nat.le_of_ble_eq_true rfl), (Nat.le_of_ble_eq_true rfl)⟩ (Nat.le_of_ble_eq_true rfl) ?_
                exact a_iret dX8_now_122 rfl (s_inj h) rfl
              · skip
                refine a_tsOut (v := wi a1) 123 dX8_now_1 rfl (by omega) (by decide) ?_
                refine a_iconst dX8_now_123 ?_
                exact a_iret dX8_now_124 rfl (s_inj h) rfl

def X8_stands (F : Nat) (σ : sM) (a1 a2 a3 a4 : Int) : Option (Int × sM) := bp (X1_isWheel σ a1) (fun r1 => jn (fun q3 : Unit => some ((-1), σ)) (fun K4 => if wi r1 = 0 then K4 () else if wi a2 < 0 then K4 () else if wi a2 ≤ 8 then jn (fun q8 : Unit => some ((-1), σ)) (fun K9 => if wi a3 < 0 then K9 () else if 3 < wi a3 then K9 () else if wi a4 < 0 then K9 () else if wi a4 ≤ 1 then bp (X8_stepOf σ (σ 26 2) a1) (fun r14 => bn (X5_startAt F 47 σ r14) (fun r16 σ18 => bp (X1_mayGoOn σ18 (σ18 26 2) (σ18 26 3) a1) (fun r19 => jn (fun q21 : sM => bp (X5_weightOf 47 q21 a3) (fun r23 => bp (X5_total 47 q21) (fun r25 => bp (X8_partOfLeast F q21 r23 r25 a4) (fun r27 => some (r27, q21))))) (fun K22 => if wi r19 = 0 then K22 σ18 else bp (X1_isWhole σ18 (σ18 26 2) a1) (fun r30 => jn (fun q32 : Int => lp (fun K35 (q34 : sM × Int) => if wi a2 ≤ wi q34.2 then K22 q34.1 else bp (X1_sortOf q34.1 a1) (fun r37 => bn (X5_weekGoesBy F 47 q34.1 r37 q32 ((q34.1 26 0) + q34.2)) (fun r39 σ41 => K35 (σ41, q34.2 + 1)))) F (σ18, 0)) (fun K33 => if ¬ wi r30 = 0 then K33 0 else K33 1)))))) else K9 ()) else K4 ()))
set_option maxRecDepth 100000 in
set_option maxHeartbeats 400000 in
theorem T_X8_stands {G : sG} {q_0 : qT} {x_0 : List Nat} {σ s_0 : sM} {r_0 : Int} {a1 a2 a3 a4 : Int} {F : Nat}  (h : X8_stands F σ a1 a2 a3 a4 = some (r_0, s_0)) : aM G yX8_stands cX8_stands 7 (some .long) 3 0 0 [.ref (gP G 0), vI a1, vI a2, vI a3, vI a4] (mkSh q_0 x_0, σ) (r_0, (mkSh q_0 x_0, s_0)) := by
  unfold X8_stands at h
  refine aM_of (by decide) (Nat.le_of_ble_eq_true rfl) ?_
  show aW G cX8_stands RX8 "stands" 7 (some .long) _ _ aX 0 0 _ [(0, .ref (gP G 0)), (1, vI a1), (2, vI a2), (3, vI a3), (4, vI a4)] 0 []
  refine a_aload_n 0 dX8_stands_0 rfl ?_
  refine a_getR (j := 2) dX8_stands_1 KX8 rfl (by decide) rfl kf_RX8_20 ?_
  refine a_iload_n 1 dX8_stands_4 rfl ?_
  refine bp_s h (fun r1 e2 h => ?_)
  refine a_callVI dX8_stands_5 mX1_isWheel KX1 rfl kv_X1_isWheel ks_X1_isWheel rfl km_RX8_124 rfl (T_X1_isWheel e2) (fun _ => rfl) rfl (Nat.le_of_ble_eq_true rfl) (Nat.le_of_ble_eq_true rfl) ⟨(Nat.le_of_ble_eq_true rfl), (Nat.le_of_ble_eq_true rfl)⟩ (Nat.le_of_ble_eq_true rfl) ?_
  refine jn_s (fun q3 : Unit => aW G cX8_stands RX8 "stands" 7 (some .long) (sR 3 0 0) (aQ G (some .long) 0 0 (r_0, (mkSh q_0 x_0, s_0))) aX 0 0 (mkSh q_0 x_0, σ) [] 21 []) h (fun q3 h => ?_) (fun K4 hK4 h => ?_)
  · skip
    refine a_ldc2 (z := -1) dX8_stands_21 kc_RX8_263 (by decide) ?_
    exact a_lret dX8_stands_24 rfl (p_1 h) (p_S (p_2 h))
  · skip
    refine a_if_eq 21 dX8_stands_8 (by decide) rfl h (fun c5 h => ?_) (fun c5 h => ?_)
    · skip
      have hh := hK4 _ h
      exact a_sub [] rfl hh
    · skip
      refine a_iload_n 2 dX8_stands_11 rfl ?_
      refine a_if_lt 21 dX8_stands_12 (by decide) rfl h (fun c6 h => ?_) (fun c6 h => ?_)
      · skip
        have hh := hK4 _ h
        exact a_sub [] rfl hh
      · skip
        refine a_iload_n 2 dX8_stands_15 rfl ?_
        refine a_bipush dX8_stands_16 (by decide) ?_
        refine a_icmp_le 25 dX8_stands_18 (by decide) rfl (by decide) h (fun c7 h => ?_) (fun c7 h => ?_)
        · skip
          refine a_iload_n 3 dX8_stands_25 rfl ?_
          refine jn_s (fun q8 : Unit => aW G cX8_stands RX8 "stands" 7 (some .long) (sR 3 0 0) (aQ G (some .long) 0 0 (r_0, (mkSh q_0 x_0, s_0))) aX 0 0 (mkSh q_0 x_0, σ) [] 45 []) h (fun q8 h => ?_) (fun K9 hK9 h => ?_)
          · skip
            refine a_ldc2 (z := -1) dX8_stands_45 kc_RX8_263 (by decide) ?_
            exact a_lret dX8_stands_48 rfl (p_1 h) (p_S (p_2 h))
          · skip
            refine a_if_lt 45 dX8_stands_26 (by decide) rfl h (fun c10 h => ?_) (fun c10 h => ?_)
            · skip
              have hh := hK9 _ h
              exact a_sub [] rfl hh
            · skip
              refine a_iload_n 3 dX8_stands_29 rfl ?_
              refine a_iconst dX8_stands_30 ?_
              refine a_icmp_gt 45 dX8_stands_31 (by decide) rfl (by decide) h (fun c11 h => ?_) (fun c11 h => ?_)
              · skip
                have hh := hK9 _ h
                exact a_sub [] rfl hh
              · skip
                refine a_iload 4 dX8_stands_34 rfl ?_
                refine a_if_lt 45 dX8_stands_36 (by decide) rfl h (fun c12 h => ?_) (fun c12 h => ?_)
                · skip
                  have hh := hK9 _ h
                  exact a_sub [] rfl hh
                · skip
                  refine a_iload 4 dX8_stands_39 rfl ?_
                  refine a_iconst dX8_stands_41 ?_
                  refine a_icmp_le 49 dX8_stands_42 (by decide) rfl (by decide) h (fun c13 h => ?_) (fun c13 h => ?_)
                  · skip
                    refine a_aload_n 0 dX8_stands_49 rfl ?_
                    refine a_getR (j := 11) dX8_stands_50 KX8 rfl (by decide) rfl kf_RX8_71 ?_
                    refine a_aload_n 0 dX8_stands_53 rfl ?_
                    refine a_getR (j := 5) dX8_stands_54 KX8 rfl (by decide) rfl kf_RX8_39 ?_
                    refine a_getIN (j := 2) dX8_stands_57 KX7 rfl (by decide) rfl kf_RX8_133 ?_
                    refine a_iload_n 1 dX8_stands_60 rfl ?_
                    refine bp_s h (fun r14 e15 h => ?_)
                    refine a_callSI dX8_stands_61 mX8_stepOf kv_X8_stepOf km_RX8_136 rfl (T_X8_stepOf e15) (fun _ => rfl) rfl (Nat.le_of_ble_eq_true rfl) (Nat.le_of_ble_eq_true rfl) ⟨(Nat.le_of_ble_eq_true rfl), (Nat.le_of_ble_eq_true rfl)⟩ (Nat.le_of_ble_eq_true rfl) ?_
                    refine bn_s h (fun r16 σ18 e17 h => ?_)
                    refine a_callVV dX8_stands_64 mX5_startAt KX5 rfl kv_X5_startAt ks_X5_startAt rfl km_RX8_265 rfl (T_X5_startAt rfl rfl e17) (fun _ => rfl) rfl (Nat.le_of_ble_eq_true rfl) (Nat.le_of_ble_eq_true rfl) ⟨(Nat.le_of_ble_eq_true rfl), (Nat.le_of_ble_eq_true rfl)⟩ (Nat.le_of_ble_eq_true rfl) ?_
                    refine a_aload_n 0 dX8_stands_67 rfl ?_
                    refine a_getR (j := 2) dX8_stands_68 KX8 rfl (by decide) rfl kf_RX8_20 ?_
                    refine a_aload_n 0 dX8_stands_71 rfl ?_
                    refine a_getR (j := 5) dX8_stands_72 KX8 rfl (by decide) rfl kf_RX8_39 ?_
                    refine a_getIN (j := 2) dX8_stands_75 KX7 rfl (by decide) rfl kf_RX8_133 ?_
                    refine a_aload_n 0 dX8_stands_78 rfl ?_
                    refine a_getR (j := 5) dX8_stands_79 KX8 rfl (by decide) rfl kf_RX8_39 ?_
                    refine a_getIN (j := 3) dX8_stands_82 KX7 rfl (by decide) rfl kf_RX8_146 ?_
                    refine a_iload_n 1 dX8_stands_85 rfl ?_
                    refine bp_s h (fun r19 e20 h => ?_)
                    refine a_callVI dX8_stands_86 mX1_mayGoOn KX1 rfl kv_X1_mayGoOn ks_X1_mayGoOn rfl km_RX8_268 rfl (T_X1_mayGoOn e20) (fun _ => rfl) rfl (Nat.le_of_ble_eq_true rfl) (Nat.le_of_ble_eq_true rfl) ⟨(Nat.le_of_ble_eq_true rfl), (Nat.le_of_ble_eq_true rfl)⟩ (Nat.le_of_ble_eq_true rfl) ?_
                    refine jn_s (fun q21 : sM => aW G cX8_stands RX8 "stands" 7 (some .long) (sR 3 0 0) (aQ G (some .long) 0 0 (r_0, (mkSh q_0 x_0, s_0))) aX 0 0 (mkSh q_0 x_0, q21) [(0, .ref (gP G 0)), (3, vI a3), (4, vI a4)] 163 []) h (fun q21 h => ?_) (fun K22 hK22 h => ?_)
                    · skip
                      refine a_aload_n 0 dX8_stands_163 rfl ?_
                      refine a_getR (j := 11) dX8_stands_164 KX8 rfl (by decide) rfl kf_RX8_71 ?_
                      refine a_iload_n 1 dX8_stands_167 rfl ?_
                      refine bp_s h (fun r23 e24 h => ?_)
                      refine a_callVL dX8_stands_168 mX5_weightOf KX5 rfl kv_X5_weightOf ks_X5_weightOf rfl km_RX8_279 rfl (T_X5_weightOf rfl rfl e24) (fun _ => rfl) rfl (Nat.le_of_ble_eq_true rfl) (Nat.le_of_ble_eq_true rfl) ⟨(Nat.le_of_ble_eq_true rfl), (Nat.le_of_ble_eq_true rfl)⟩ (Nat.le_of_ble_eq_true rfl) ?_
                      refine a_aload_n 0 dX8_stands_171 rfl ?_
                      refine a_getR (j := 11) dX8_stands_172 KX8 rfl (by decide) rfl kf_RX8_71 ?_
                      refine bp_s h (fun r25 e26 h => ?_)
                      refine a_callVL dX8_stands_175 mX5_total KX5 rfl kv_X5_total ks_X5_total rfl km_RX8_283 rfl (T_X5_total rfl rfl e26) (fun _ => rfl) rfl (Nat.le_of_ble_eq_true rfl) (Nat.le_of_ble_eq_true rfl) ⟨(Nat.le_of_ble_eq_true rfl), (Nat.le_of_ble_eq_true rfl)⟩ (Nat.le_of_ble_eq_true rfl) ?_
                      refine a_iload 2 dX8_stands_178 rfl ?_
                      refine bp_s h (fun r27 e28 h => ?_)
                      refine a_callSL dX8_stands_180 mX8_partOfLeast kv_X8_partOfLeast km_RX8_287 rfl (T_X8_partOfLeast e28) (fun _ => rfl) rfl (Nat.le_of_ble_eq_true rfl) (Nat.le_of_ble_eq_true rfl) ⟨(Nat.le_of_ble_eq_true rfl), (Nat.le_of_ble_eq_true rfl)⟩ (Nat.le_of_ble_eq_true rfl) ?_
                      exact a_lret dX8_stands_183 rfl (p_1 h) (p_S (p_2 h))
                    · skip
                      refine a_if_eq 163 dX8_stands_89 (by decide) rfl h (fun c29 h => ?_) (fun c29 h => ?_)
                      · skip
                        have hh := hK22 _ h
                        exact a_sub [0, 3, 4] rfl hh
                      · skip
                        refine a_aload_n 0 dX8_stands_92 rfl ?_
                        refine a_getR (j := 2) dX8_stands_93 KX8 rfl (by decide) rfl kf_RX8_20 ?_
                        refine a_aload_n 0 dX8_stands_96 rfl ?_
                        refine a_getR (j := 5) dX8_stands_97 KX8 rfl (by decide) rfl kf_RX8_39 ?_
                        refine a_getIN (j := 2) dX8_stands_100 KX7 rfl (by decide) rfl kf_RX8_133 ?_
                        refine a_iload_n 1 dX8_stands_103 rfl ?_
                        refine bp_s h (fun r30 e31 h => ?_)
                        refine a_callVI dX8_stands_104 mX1_isWhole KX1 rfl kv_X1_isWhole ks_X1_isWhole rfl km_RX8_272 rfl (T_X1_isWhole e31) (fun _ => rfl) rfl (Nat.le_of_ble_eq_true rfl) (Nat.le_of_ble_eq_true rfl) ⟨(Nat.le_of_ble_eq_true rfl), (Nat.le_of_ble_eq_true rfl)⟩ (Nat.le_of_ble_eq_true rfl) ?_
                        refine jn_s (fun q32 : Int => aW G cX8_stands RX8 "stands" 7 (some .long) (sR 3 0 0) (aQ G (some .long) 0 0 (r_0, (mkSh q_0 x_0, s_0))) aX 0 0 (mkSh q_0 x_0, σ18) [(0, .ref (gP G 0)), (1, vI a1), (2, vI a2), (3, vI a3), (4, vI a4)] 115 [vI q32]) h (fun q32 h => ?_) (fun K33 hK33 h => ?_)
                        · skip
                          refine a_istore (L' := [(5, vI q32), (0, .ref (gP G 0)), (1, vI a1), (2, vI a2), (3, vI a3), (4, vI a4)]) dX8_stands_115 (by decide) rfl ?_
                          refine a_iconst dX8_stands_117 ?_
                          refine a_istore (L' := [(6, vI 0), (5, vI q32), (0, .ref (gP G 0)), (1, vI a1), (2, vI a2), (3, vI a3), (4, vI a4)]) dX8_stands_118 (by decide) rfl ?_
                          refine a_sub (L' := [(0, .ref (gP G 0)), (1, vI a1), (2, vI a2), (3, vI a3), (4, vI a4), (5, vI q32), (6, vI 0)]) [2, 3, 4, 5, 6, 1, 0] rfl (lp_s (x := (σ18, 0)) (fun q34 : sM × Int => aW G cX8_stands RX8 "stands" 7 (some .long) (sR 3 0 0) (aQ G (some .long) 0 0 (r_0, (mkSh q_0 x_0, s_0))) aX 0 0 (mkSh q_0 x_0, q34.1) [(0, .ref (gP G 0)), (1, vI a1), (2, vI a2), (3, vI a3), (4, vI a4), (5, vI q32), (6, vI q34.2)] 120 []) h (fun K35 hK35 q34 h => ?_))
                          refine a_iload 6 dX8_stands_120 rfl ?_
                          refine a_iload_n 2 dX8_stands_122 rfl ?_
                          refine a_icmp_ge 163 dX8_stands_123 (by decide) rfl rfl h (fun c36 h => ?_) (fun c36 h => ?_)
                          · skip
                            have hh := hK22 _ h
                            exact a_sub [0, 3, 4] rfl hh
                          · skip
                            refine a_aload_n 0 dX8_stands_126 rfl ?_
                            refine a_getR (j := 11) dX8_stands_127 KX8 rfl (by decide) rfl kf_RX8_71 ?_
                            refine a_aload_n 0 dX8_stands_130 rfl ?_
                            refine a_getR (j := 2) dX8_stands_131 KX8 rfl (by decide) rfl kf_RX8_20 ?_
                            refine a_aload_n 0 dX8_stands_134 rfl ?_
                            refine a_getR (j := 2) dX8_stands_135 KX8 rfl (by decide) rfl kf_RX8_20 ?_
                            refine a_iload_n 1 dX8_stands_138 rfl ?_
                            refine bp_s h (fun r37 e38 h => ?_)
                            refine a_callVI dX8_stands_139 mX1_sortOf KX1 rfl kv_X1_sortOf ks_X1_sortOf rfl km_RX8_127 rfl (T_X1_sortOf e38) (fun _ => rfl) rfl (Nat.le_of_ble_eq_true rfl) (Nat.le_of_ble_eq_true rfl) ⟨(Nat.le_of_ble_eq_true rfl), (Nat.le_of_ble_eq_true rfl)⟩ (Nat.le_of_ble_eq_true rfl) ?_
                            refine a_iload 5 dX8_stands_142 rfl ?_
                            refine a_aload_n 0 dX8_stands_144 rfl ?_
                            refine a_getR (j := 5) dX8_stands_145 KX8 rfl (by decide) rfl kf_RX8_39 ?_
                            refine a_getIN (j := 0) dX8_stands_148 KX7 rfl (by decide) rfl kf_RX8_155 ?_
                            refine a_iload 6 dX8_stands_151 rfl ?_
                            refine a_iadd dX8_stands_153 ?_
                            refine bn_s h (fun r39 σ41 e40 h => ?_)
                            refine a_callVV dX8_stands_154 mX5_weekGoesBy KX5 rfl kv_X5_weekGoesBy ks_X5_weekGoesBy rfl km_RX8_275 rfl (T_X5_weekGoesBy rfl rfl e40) (fun _ => rfl) rfl (Nat.le_of_ble_eq_true rfl) (Nat.le_of_ble_eq_true rfl) ⟨(Nat.le_of_ble_eq_true rfl), (Nat.le_of_ble_eq_true rfl)⟩ (Nat.le_of_ble_eq_true rfl) ?_
                            refine a_iinc (L' := [(6, vI (q34.2 + 1)), (0, .ref (gP G 0)), (1, vI a1), (2, vI a2), (3, vI a3), (4, vI a4), (5, vI q32)]) 6 dX8_stands_157 rfl (by decide) rfl ?_
                            refine a_goto 120 dX8_stands_160 (by decide) ?_
                            have hh := hK35 _ h
                            exact a_sub [1, 2, 3, 4, 5, 6, 0] rfl hh
                        · skip
                          refine a_if_ne 114 dX8_stands_107 (by decide) rfl h (fun c42 h => ?_) (fun c42 h => ?_)
                          · skip
                            refine a_iconst dX8_stands_114 ?_
                            have hh := hK33 _ h
                            exact a_sub [0, 1, 2, 3, 4] rfl hh
                          · skip
                            refine a_iconst dX8_stands_110 ?_
                            refine a_goto 115 dX8_stands_111 (by decide) ?_
                            have hh := hK33 _ h
                            exact a_sub [0, 1, 2, 3, 4] rfl hh
                  · skip
                    have hh := hK9 _ h
                    exact a_sub [] rfl hh
        · skip
          have hh := hK4 _ h
          exact a_sub [] rfl hh

def X8_thinks (F : Nat) (σ : sM) (a1 a2 : Int) : Option Int := jn (fun q1 : Unit => some (-1)) (fun K2 => if wi a1 < 0 then K2 () else if 4 < wi a1 then K2 () else if wi a2 < 0 then K2 () else if wi a2 ≤ 1 then bp (X6_likely F σ a1 a2) (fun r7 => some r7) else K2 ())
set_option maxRecDepth 100000 in
set_option maxHeartbeats 400000 in
theorem T_X8_thinks {G : sG} {q_0 : qT} {x_0 : List Nat} {σ : sM} {r_0 : Int} {a1 a2 : Int} {F : Nat}  (h : X8_thinks F σ a1 a2 = some r_0) : aM G yX8_thinks cX8_thinks 3 (some .long) 3 0 0 [.ref (gP G 0), vI a1, vI a2] (mkSh q_0 x_0, σ) (r_0, (mkSh q_0 x_0, σ)) := by
  unfold X8_thinks at h
  refine aM_of (by decide) (Nat.le_of_ble_eq_true rfl) ?_
  show aW G cX8_thinks RX8 "thinks" 3 (some .long) _ _ aX 0 0 _ [(0, .ref (gP G 0)), (1, vI a1), (2, vI a2)] 0 []
  refine a_iload_n 1 dX8_thinks_0 rfl ?_
  refine jn_s (fun q1 : Unit => aW G cX8_thinks RX8 "thinks" 3 (some .long) (sR 3 0 0) (aQ G (some .long) 0 0 (r_0, (mkSh q_0 x_0, σ))) aX 0 0 (mkSh q_0 x_0, σ) [] 18 []) h (fun q1 h => ?_) (fun K2 hK2 h => ?_)
  · skip
    refine a_ldc2 (z := -1) dX8_thinks_18 kc_RX8_263 (by decide) ?_
    exact a_lret dX8_thinks_21 rfl (s_inj h) rfl
  · skip
    refine a_if_lt 18 dX8_thinks_1 (by decide) rfl h (fun c3 h => ?_) (fun c3 h => ?_)
    · skip
      have hh := hK2 _ h
      exact a_sub [] rfl hh
    · skip
      refine a_iload_n 1 dX8_thinks_4 rfl ?_
      refine a_iconst dX8_thinks_5 ?_
      refine a_icmp_gt 18 dX8_thinks_6 (by decide) rfl (by decide) h (fun c4 h => ?_) (fun c4 h => ?_)
      · skip
        have hh := hK2 _ h
        exact a_sub [] rfl hh
      · skip
        refine a_iload_n 2 dX8_thinks_9 rfl ?_
        refine a_if_lt 18 dX8_thinks_10 (by decide) rfl h (fun c5 h => ?_) (fun c5 h => ?_)
        · skip
          have hh := hK2 _ h
          exact a_sub [] rfl hh
        · skip
          refine a_iload_n 2 dX8_thinks_13 rfl ?_
          refine a_iconst dX8_thinks_14 ?_
          refine a_icmp_le 22 dX8_thinks_15 (by decide) rfl (by decide) h (fun c6 h => ?_) (fun c6 h => ?_)
          · skip
            refine a_aload_n 0 dX8_thinks_22 rfl ?_
            refine a_getR (j := 12) dX8_thinks_23 KX8 rfl (by decide) rfl kf_RX8_78 ?_
            refine a_iload_n 1 dX8_thinks_26 rfl ?_
            refine a_iload_n 2 dX8_thinks_27 rfl ?_
            refine bp_s h (fun r7 e8 h => ?_)
            refine a_callVL dX8_thinks_28 mX6_likely KX6 rfl kv_X6_likely ks_X6_likely rfl km_RX8_298 rfl (T_X6_likely e8) (fun _ => rfl) rfl (Nat.le_of_ble_eq_true rfl) (Nat.le_of_ble_eq_true rfl) ⟨(Nat.le_of_ble_eq_true rfl), (Nat.le_of_ble_eq_true rfl)⟩ (Nat.le_of_ble_eq_true rfl) ?_
            exact a_lret dX8_thinks_31 rfl (s_inj h) rfl
          · skip
            have hh := hK2 _ h
            exact a_sub [] rfl hh

def X9_cellar (F : Nat) (σ : sM) : Option (Int × sM) := lp (fun K2 (q1 : sM × Int) => if 8 ≤ wi q1.2 then bn (X9_read F q1.1) (fun r4 σ6 => lp (fun K8 (q7 : sM × Int) => jn (fun q9 : Unit => if wi (q7.1 55 16) = (-9) then nm (sU (sU (sU q7.1 57 0 (q7.1 57 1)) 58 0 ((sU q7.1 57 0 (q7.1 57 1)) 58 1)) 59 0 ((sU (sU q7.1 57 0 (q7.1 57 1)) 58 0 ((sU q7.1 57 0 (q7.1 57 1)) 58 1)) 59 1)) (fun σ12 => lp (fun K15 (q14 : sM × Int) => if 56 ≤ wi q14.2 then lp (fun K18 (q17 : sM × Int) => if 3 ≤ wi q17.2 then lp (fun K21 (q20 : sM × Int) => if 8 ≤ wi q20.2 then bn (X9_begin F q20.1) (fun r23 σ25 => bn (X9_think F (sU (sU σ25 74 0 (q_z 0)) 74 1 (q_z 0)) 0) (fun r26 σ28 => some (q7.2, (sU σ28 55 2 0)))) else if 0 ≤ wi (8 + q20.2) ∧ wi (8 + q20.2) < 16 then if 0 ≤ wi q20.2 ∧ wi q20.2 < 16 then if 0 ≤ wi (8 + q20.2) ∧ wi (8 + q20.2) < 16 then if 0 ≤ wi q20.2 ∧ wi q20.2 < 16 then nm (sU (sU q20.1 64 (wi q20.2).toNat (q20.1 64 (wi (8 + q20.2)).toNat)) 65 (wi q20.2).toNat ((sU q20.1 64 (wi q20.2).toNat (q20.1 64 (wi (8 + q20.2)).toNat)) 65 (wi (8 + q20.2)).toNat)) (fun σ33 => K21 (σ33, q20.2 + 1)) else none else none else none else none) F (q17.1, 0) else if 0 ≤ wi (3 + q17.2) ∧ wi (3 + q17.2) < 6 then if 0 ≤ wi q17.2 ∧ wi q17.2 < 6 then if 0 ≤ wi (3 + q17.2) ∧ wi (3 + q17.2) < 6 then if 0 ≤ wi q17.2 ∧ wi q17.2 < 6 then nm (sU (sU q17.1 62 (wi q17.2).toNat (q17.1 62 (wi (3 + q17.2)).toNat)) 63 (wi q17.2).toNat ((sU q17.1 62 (wi q17.2).toNat (q17.1 62 (wi (3 + q17.2)).toNat)) 63 (wi (3 + q17.2)).toNat)) (fun σ39 => K18 (σ39, q17.2 + 1)) else none else none else none else none) F (q14.1, 0) else if 0 ≤ wi (56 + q14.2) ∧ wi (56 + q14.2) < 112 then if 0 ≤ wi q14.2 ∧ wi q14.2 < 112 then K15 ((sU q14.1 61 (wi q14.2).toNat (q14.1 61 (wi (56 + q14.2)).toNat)), q14.2 + 1) else none else none) F ((sU σ12 60 0 (σ12 60 1)), 0)) else some ((-10) - (q7.1 55 16), q7.1)) (fun K10 => if ¬ wi (q7.1 55 16) = (-9) then K10 () else if wi (q7.1 55 14) = 0 then K10 () else bn (X9_item F q7.1 (q7.1 55 14) q7.2) (fun r45 σ47 => K8 (σ47, q7.2 + 1)))) F (σ6, 0)) else if 0 ≤ wi (8 + q1.2) ∧ wi (8 + q1.2) < 16 then if 0 ≤ wi (8 + q1.2) ∧ wi (8 + q1.2) < 16 then K2 ((sU (sU q1.1 64 (wi (8 + q1.2)).toNat 0) 65 (wi (8 + q1.2)).toNat 0), q1.2 + 1) else none else none) F ((sU (sU (sU (sU (sU (sU σ 55 12 0) 55 16 (-9)) 57 1 0) 58 1 0) 59 1 6) 60 1 3), 0)
set_option maxRecDepth 100000 in
set_option maxHeartbeats 400000 in
theorem T_X9_cellar {G : sG} {q_0 : qT} {x_0 : List Nat} {σ s_0 : sM} {r_0 : Int} {F : Nat}  (h : X9_cellar F σ = some (r_0, s_0)) : aM G yX9_cellar cX9_cellar 3 (some .int) 6 0 0 [.ref (gP G 55)] (mkSh q_0 x_0, σ) (r_0, (mkSh q_0 x_0, s_0)) := by
  unfold X9_cellar at h
  refine aM_of (by decide) (Nat.le_of_ble_eq_true rfl) ?_
  show aW G cX9_cellar RX9 "cellar" 3 (some .int) _ _ aX 0 0 _ [(0, .ref (gP G 55))] 0 []
  refine a_aload_n 0 dX9_cellar_0 rfl ?_
  refine a_iconst dX9_cellar_1 ?_
  refine a_putI (j := 12) dX9_cellar_2 KX9 rfl (by decide) rfl rfl rfl kf_RX9_113 ?_
  refine a_aload_n 0 dX9_cellar_5 rfl ?_
  refine a_bipush dX9_cellar_6 (by decide) ?_
  refine a_putI (j := 16) dX9_cellar_8 KX9 rfl (by decide) rfl rfl rfl kf_RX9_133 ?_
  refine a_aload_n 0 dX9_cellar_11 rfl ?_
  refine a_getR (j := 3) dX9_cellar_12 KX9 rfl (by decide) rfl kf_RX9_13 ?_
  refine a_iconst dX9_cellar_15 ?_
  refine a_iconst dX9_cellar_16 ?_
  refine a_iast (x' := 1) dX9_cellar_17 rfl (by decide) (by decide) rfl ?_
  refine a_aload_n 0 dX9_cellar_18 rfl ?_
  refine a_getR (j := 4) dX9_cellar_19 KX9 rfl (by decide) rfl kf_RX9_17 ?_
  refine a_iconst dX9_cellar_22 ?_
  refine a_iconst dX9_cellar_23 ?_
  refine a_iast (x' := 1) dX9_cellar_24 rfl (by decide) (by decide) rfl ?_
  refine a_aload_n 0 dX9_cellar_25 rfl ?_
  refine a_getR (j := 5) dX9_cellar_26 KX9 rfl (by decide) rfl kf_RX9_20 ?_
  refine a_iconst dX9_cellar_29 ?_
  refine a_bipush dX9_cellar_30 (by decide) ?_
  refine a_iast (x' := 1) dX9_cellar_32 rfl (by decide) (by decide) rfl ?_
  refine a_aload_n 0 dX9_cellar_33 rfl ?_
  refine a_getR (j := 6) dX9_cellar_34 KX9 rfl (by decide) rfl kf_RX9_23 ?_
  refine a_iconst dX9_cellar_37 ?_
  refine a_iconst dX9_cellar_38 ?_
  refine a_iast (x' := 1) dX9_cellar_39 rfl (by decide) (by decide) rfl ?_
  refine a_iconst dX9_cellar_40 ?_
  refine a_istore_n (L' := [(1, vI 0), (0, .ref (gP G 55))]) dX9_cellar_41 (by decide) rfl ?_
  refine a_sub (L' := [(0, .ref (gP G 55)), (1, vI 0)]) [1, 0] rfl (lp_s (x := ((sU (sU (sU (sU (sU (sU σ 55 12 0) 55 16 (-9)) 57 1 0) 58 1 0) 59 1 6) 60 1 3), 0)) (fun q1 : sM × Int => aW G cX9_cellar RX9 "cellar" 3 (some .int) (sR 6 0 0) (aQ G (some .int) 0 0 (r_0, (mkSh q_0 x_0, s_0))) aX 0 0 (mkSh q_0 x_0, q1.1) [(0, .ref (gP G 55)), (1, vI q1.2)] 42 []) h (fun K2 hK2 q1 h => ?_))
  refine a_iload_n 1 dX9_cellar_42 rfl ?_
  refine a_bipush dX9_cellar_43 (by decide) ?_
  refine a_icmp_ge 74 dX9_cellar_45 (by decide) rfl (by decide) h (fun c3 h => ?_) (fun c3 h => ?_)
  · skip
    refine a_iconst dX9_cellar_74 ?_
    refine a_istore_n (L' := [(1, vI 0), (0, .ref (gP G 55))]) dX9_cellar_75 (by decide) rfl ?_
    refine a_aload_n 1 dX9_cellar_76 rfl ?_
    refine bn_s h (fun r4 σ6 e5 h => ?_)
    refine a_callVV dX9_cellar_77 mX9_read KX9 rfl kv_X9_read ks_X9_read rfl km_RX9_136 rfl (T_X9_read e5) (fun _ => rfl) rfl (Nat.le_of_ble_eq_true rfl) (Nat.le_of_ble_eq_true rfl) ⟨(Nat.le_of_ble_eq_true rfl), (Nat.le_of_ble_eq_true rfl)⟩ (Nat.le_of_ble_eq_true rfl) ?_
    refine a_sub (L' := [(0, .ref (gP G 55)), (1, vI 0)]) [1, 0] rfl (lp_s (x := (σ6, 0)) (fun q7 : sM × Int => aW G cX9_cellar RX9 "cellar" 3 (some .int) (sR 6 0 0) (aQ G (some .int) 0 0 (r_0, (mkSh q_0 x_0, s_0))) aX 0 0 (mkSh q_0 x_0, q7.1) [(0, .ref (gP G 55)), (1, vI q7.2)] 80 []) h (fun K8 hK8 q7 h => ?_))
    refine a_aload_n 0 dX9_cellar_80 rfl ?_
    refine a_getI (j := 16) dX9_cellar_81 KX9 rfl (by decide) rfl kf_RX9_133 ?_
    refine a_bipush dX9_cellar_84 (by decide) ?_
    refine jn_s (fun q9 : Unit => aW G cX9_cellar RX9 "cellar" 3 (some .int) (sR 6 0 0) (aQ G (some .int) 0 0 (r_0, (mkSh q_0 x_0, s_0))) aX 0 0 (mkSh q_0 x_0, q7.1) [(0, .ref (gP G 55)), (1, vI q7.2)] 111 []) h (fun q9 h => ?_) (fun K10 hK10 h => ?_)
    · skip
      refine a_aload_n 0 dX9_cellar_111 rfl ?_
      refine a_getI (j := 16) dX9_cellar_112 KX9 rfl (by decide) rfl kf_RX9_133 ?_
      refine a_bipush dX9_cellar_115 (by decide) ?_
      refine a_icmp_eq 128 dX9_cellar_117 (by decide) rfl (by decide) h (fun c11 h => ?_) (fun c11 h => ?_)
      · skip
        refine a_aload_n 0 dX9_cellar_128 rfl ?_
        refine a_getR (j := 3) dX9_cellar_129 KX9 rfl (by decide) rfl kf_RX9_13 ?_
        refine a_iconst dX9_cellar_132 ?_
        refine a_aload_n 0 dX9_cellar_133 rfl ?_
        refine a_getR (j := 3) dX9_cellar_134 KX9 rfl (by decide) rfl kf_RX9_13 ?_
        refine a_iconst dX9_cellar_137 ?_
        refine a_iald (x' := 1) dX9_cellar_138 rfl (by decide) (by decide) rfl ?_
        refine a_iast (x' := 0) dX9_cellar_139 rfl (by decide) (by decide) rfl ?_
        refine a_aload_n 0 dX9_cellar_140 rfl ?_
        refine a_getR (j := 4) dX9_cellar_141 KX9 rfl (by decide) rfl kf_RX9_17 ?_
        refine a_iconst dX9_cellar_144 ?_
        refine a_aload_n 0 dX9_cellar_145 rfl ?_
        refine a_getR (j := 4) dX9_cellar_146 KX9 rfl (by decide) rfl kf_RX9_17 ?_
        refine a_iconst dX9_cellar_149 ?_
        refine a_iald (x' := 1) dX9_cellar_150 rfl (by decide) (by decide) rfl ?_
        refine a_iast (x' := 0) dX9_cellar_151 rfl (by decide) (by decide) rfl ?_
        refine a_aload_n 0 dX9_cellar_152 rfl ?_
        refine a_getR (j := 5) dX9_cellar_153 KX9 rfl (by decide) rfl kf_RX9_20 ?_
        refine a_iconst dX9_cellar_156 ?_
        refine a_aload_n 0 dX9_cellar_157 rfl ?_
        refine a_getR (j := 5) dX9_cellar_158 KX9 rfl (by decide) rfl kf_RX9_20 ?_
        refine a_iconst dX9_cellar_161 ?_
        refine a_iald (x' := 1) dX9_cellar_162 rfl (by decide) (by decide) rfl ?_
        refine a_iast (x' := 0) dX9_cellar_163 rfl (by decide) (by decide) rfl ?_
        refine a_nmS h (fun σ12 w13 h => ?_)
        refine a_aload_n 0 dX9_cellar_164 rfl ?_
        refine a_getR (j := 6) dX9_cellar_165 KX9 rfl (by decide) rfl kf_RX9_23 ?_
        refine a_iconst dX9_cellar_168 ?_
        refine a_aload_n 0 dX9_cellar_169 rfl ?_
        refine a_getR (j := 6) dX9_cellar_170 KX9 rfl (by decide) rfl kf_RX9_23 ?_
        refine a_iconst dX9_cellar_173 ?_
        refine a_iald (x' := 1) dX9_cellar_174 rfl (by decide) (by decide) rfl ?_
        refine a_iast (x' := 0) dX9_cellar_175 rfl (by decide) (by decide) rfl ?_
        refine a_iconst dX9_cellar_176 ?_
        refine a_istore_n (L' := [(2, vI 0), (0, .ref (gP G 55)), (1, vI q7.2)]) dX9_cellar_177 (by decide) rfl ?_
        refine a_sub (L' := [(0, .ref (gP G 55)), (1, vI q7.2), (2, vI 0)]) [1, 2, 0] rfl (lp_s (x := ((sU σ12 60 0 (σ12 60 1)), 0)) (fun q14 : sM × Int => aW G cX9_cellar RX9 "cellar" 3 (some .int) (sR 6 0 0) (aQ G (some .int) 0 0 (r_0, (mkSh q_0 x_0, s_0))) aX 0 0 (mkSh q_0 x_0, q14.1) [(0, .ref (gP G 55)), (1, vI q7.2), (2, vI q14.2)] 178 []) h (fun K15 hK15 q14 h => ?_))
        refine a_iload_n 2 dX9_cellar_178 rfl ?_
        refine a_bipush dX9_cellar_179 (by decide) ?_
        refine a_icmp_ge 205 dX9_cellar_181 (by decide) rfl (by decide) h (fun c16 h => ?_) (fun c16 h => ?_)
        · skip
          refine a_iconst dX9_cellar_205 ?_
          refine a_istore_n (L' := [(2, vI 0), (0, .ref (gP G 55)), (1, vI q7.2)]) dX9_cellar_206 (by decide) rfl ?_
          refine a_sub (L' := [(0, .ref (gP G 55)), (1, vI q7.2), (2, vI 0)]) [1, 2, 0] rfl (lp_s (x := (q14.1, 0)) (fun q17 : sM × Int => aW G cX9_cellar RX9 "cellar" 3 (some .int) (sR 6 0 0) (aQ G (some .int) 0 0 (r_0, (mkSh q_0 x_0, s_0))) aX 0 0 (mkSh q_0 x_0, q17.1) [(0, .ref (gP G 55)), (1, vI q7.2), (2, vI q17.2)] 207 []) h (fun K18 hK18 q17 h => ?_))
          refine a_iload_n 2 dX9_cellar_207 rfl ?_
          refine a_iconst dX9_cellar_208 ?_
          refine a_icmp_ge 246 dX9_cellar_209 (by decide) rfl (by decide) h (fun c19 h => ?_) (fun c19 h => ?_)
          · skip
            refine a_iconst dX9_cellar_246 ?_
            refine a_istore_n (L' := [(2, vI 0), (0, .ref (gP G 55)), (1, vI q7.2)]) dX9_cellar_247 (by decide) rfl ?_
            refine a_sub (L' := [(0, .ref (gP G 55)), (1, vI q7.2), (2, vI 0)]) [1, 2, 0] rfl (lp_s (x := (q17.1, 0)) (fun q20 : sM × Int => aW G cX9_cellar RX9 "cellar" 3 (some .int) (sR 6 0 0) (aQ G (some .int) 0 0 (r_0, (mkSh q_0 x_0, s_0))) aX 0 0 (mkSh q_0 x_0, q20.1) [(0, .ref (gP G 55)), (1, vI q7.2), (2, vI q20.2)] 248 []) h (fun K21 hK21 q20 h => ?_))
            refine a_iload_n 2 dX9_cellar_248 rfl ?_
            refine a_bipush dX9_cellar_249 (by decide) ?_
            refine a_icmp_ge 290 dX9_cellar_251 (by decide) rfl (by decide) h (fun c22 h => ?_) (fun c22 h => ?_)
            · skip
              refine a_aload_n 0 dX9_cellar_290 rfl ?_
              refine bn_s h (fun r23 σ25 e24 h => ?_)
              refine a_callVV dX9_cellar_291 mX9_begin KX9 rfl kv_X9_begin ks_X9_begin rfl km_RX9_154 rfl (T_X9_begin e24) (fun _ => rfl) rfl (Nat.le_of_ble_eq_true rfl) (Nat.le_of_ble_eq_true rfl) ⟨(Nat.le_of_ble_eq_true rfl), (Nat.le_of_ble_eq_true rfl)⟩ (Nat.le_of_ble_eq_true rfl) ?_
              refine a_aload_n 0 dX9_cellar_294 rfl ?_
              refine a_getR (j := 25) dX9_cellar_295 KX9 rfl (by decide) rfl kf_RX9_66 ?_
              refine a_iconst dX9_cellar_298 ?_
              refine a_iconst dX9_cellar_299 ?_
              refine a_zast (x' := 0) dX9_cellar_300 rfl (by decide) (by decide) rfl ?_
              refine a_aload_n 0 dX9_cellar_301 rfl ?_
              refine a_getR (j := 25) dX9_cellar_302 KX9 rfl (by decide) rfl kf_RX9_66 ?_
              refine a_iconst dX9_cellar_305 ?_
              refine a_iconst dX9_cellar_306 ?_
              refine a_zast (x' := 1) dX9_cellar_307 rfl (by decide) (by decide) rfl ?_
              refine a_aload_n 0 dX9_cellar_308 rfl ?_
              refine a_iconst dX9_cellar_309 ?_
              refine bn_s h (fun r26 σ28 e27 h => ?_)
              refine a_callVV dX9_cellar_310 mX9_think KX9 rfl kv_X9_think ks_X9_think rfl km_RX9_157 rfl (T_X9_think e27) (fun _ => rfl) rfl (Nat.le_of_ble_eq_true rfl) (Nat.le_of_ble_eq_true rfl) ⟨(Nat.le_of_ble_eq_true rfl), (Nat.le_of_ble_eq_true rfl)⟩ (Nat.le_of_ble_eq_true rfl) ?_
              refine a_aload_n 0 dX9_cellar_313 rfl ?_
              refine a_iconst dX9_cellar_314 ?_
              refine a_putI (j := 2) dX9_cellar_315 KX9 rfl (by decide) rfl rfl rfl kf_RX9_107 ?_
              refine a_iload_n 1 dX9_cellar_318 rfl ?_
              exact a_iret dX9_cellar_319 rfl (p_1 h) (p_S (p_2 h))
            · skip
              refine a_aload_n 0 dX9_cellar_254 rfl ?_
              refine a_getR (j := 10) dX9_cellar_255 KX9 rfl (by decide) rfl kf_RX9_35 ?_
              refine a_iload_n 2 dX9_cellar_258 rfl ?_
              refine a_aload_n 0 dX9_cellar_259 rfl ?_
              refine a_getR (j := 10) dX9_cellar_260 KX9 rfl (by decide) rfl kf_RX9_35 ?_
              refine a_bipush dX9_cellar_263 (by decide) ?_
              refine a_iload_n 2 dX9_cellar_265 rfl ?_
              refine a_iadd dX9_cellar_266 ?_
              refine a_gd h (fun c29 h => ?_)
              refine a_iald (x' := wi (8 + q20.2)) dX9_cellar_267 rfl rfl c29 rfl ?_
              refine a_gd h (fun c30 h => ?_)
              refine a_iast (x' := wi q20.2) dX9_cellar_268 rfl rfl c30 rfl ?_
              refine a_aload_n 0 dX9_cellar_269 rfl ?_
              refine a_getR (j := 11) dX9_cellar_270 KX9 rfl (by decide) rfl kf_RX9_38 ?_
              refine a_iload_n 2 dX9_cellar_273 rfl ?_
              refine a_aload_n 0 dX9_cellar_274 rfl ?_
              refine a_getR (j := 11) dX9_cellar_275 KX9 rfl (by decide) rfl kf_RX9_38 ?_
              refine a_bipush dX9_cellar_278 (by decide) ?_
              refine a_iload_n 2 dX9_cellar_280 rfl ?_
              refine a_iadd dX9_cellar_281 ?_
              refine a_gd h (fun c31 h => ?_)
              refine a_iald (x' := wi (8 + q20.2)) dX9_cellar_282 rfl rfl c31 rfl ?_
              refine a_gd h (fun c32 h => ?_)
              refine a_iast (x' := wi q20.2) dX9_cellar_283 rfl rfl c32 rfl ?_
              refine a_nmS h (fun σ33 w34 h => ?_)
              refine a_iinc (L' := [(2, vI (q20.2 + 1)), (0, .ref (gP G 55)), (1, vI q7.2)]) 2 dX9_cellar_284 rfl (by decide) rfl ?_
              refine a_goto 248 dX9_cellar_287 (by decide) ?_
              have hh := hK21 _ h
              exact a_sub [1, 2, 0] rfl hh
          · skip
            refine a_aload_n 0 dX9_cellar_212 rfl ?_
            refine a_getR (j := 8) dX9_cellar_213 KX9 rfl (by decide) rfl kf_RX9_29 ?_
            refine a_iload_n 2 dX9_cellar_216 rfl ?_
            refine a_aload_n 0 dX9_cellar_217 rfl ?_
            refine a_getR (j := 8) dX9_cellar_218 KX9 rfl (by decide) rfl kf_RX9_29 ?_
            refine a_iconst dX9_cellar_221 ?_
            refine a_iload_n 2 dX9_cellar_222 rfl ?_
            refine a_iadd dX9_cellar_223 ?_
            refine a_gd h (fun c35 h => ?_)
            refine a_iald (x' := wi (3 + q17.2)) dX9_cellar_224 rfl rfl c35 rfl ?_
            refine a_gd h (fun c36 h => ?_)
            refine a_iast (x' := wi q17.2) dX9_cellar_225 rfl rfl c36 rfl ?_
            refine a_aload_n 0 dX9_cellar_226 rfl ?_
            refine a_getR (j := 9) dX9_cellar_227 KX9 rfl (by decide) rfl kf_RX9_32 ?_
            refine a_iload_n 2 dX9_cellar_230 rfl ?_
            refine a_aload_n 0 dX9_cellar_231 rfl ?_
            refine a_getR (j := 9) dX9_cellar_232 KX9 rfl (by decide) rfl kf_RX9_32 ?_
            refine a_iconst dX9_cellar_235 ?_
            refine a_iload_n 2 dX9_cellar_236 rfl ?_
            refine a_iadd dX9_cellar_237 ?_
            refine a_gd h (fun c37 h => ?_)
            refine a_iald (x' := wi (3 + q17.2)) dX9_cellar_238 rfl rfl c37 rfl ?_
            refine a_gd h (fun c38 h => ?_)
            refine a_iast (x' := wi q17.2) dX9_cellar_239 rfl rfl c38 rfl ?_
            refine a_nmS h (fun σ39 w40 h => ?_)
            refine a_iinc (L' := [(2, vI (q17.2 + 1)), (0, .ref (gP G 55)), (1, vI q7.2)]) 2 dX9_cellar_240 rfl (by decide) rfl ?_
            refine a_goto 207 dX9_cellar_243 (by decide) ?_
            have hh := hK18 _ h
            exact a_sub [1, 2, 0] rfl hh
        · skip
          refine a_aload_n 0 dX9_cellar_184 rfl ?_
          refine a_getR (j := 7) dX9_cellar_185 KX9 rfl (by decide) rfl kf_RX9_26 ?_
          refine a_iload_n 2 dX9_cellar_188 rfl ?_
          refine a_aload_n 0 dX9_cellar_189 rfl ?_
          refine a_getR (j := 7) dX9_cellar_190 KX9 rfl (by decide) rfl kf_RX9_26 ?_
          refine a_bipush dX9_cellar_193 (by decide) ?_
          refine a_iload_n 2 dX9_cellar_195 rfl ?_
          refine a_iadd dX9_cellar_196 ?_
          refine a_gd h (fun c41 h => ?_)
          refine a_iald (x' := wi (56 + q14.2)) dX9_cellar_197 rfl rfl c41 rfl ?_
          refine a_gd h (fun c42 h => ?_)
          refine a_iast (x' := wi q14.2) dX9_cellar_198 rfl rfl c42 rfl ?_
          refine a_iinc (L' := [(2, vI (q14.2 + 1)), (0, .ref (gP G 55)), (1, vI q7.2)]) 2 dX9_cellar_199 rfl (by decide) rfl ?_
          refine a_goto 178 dX9_cellar_202 (by decide) ?_
          have hh := hK15 _ h
          exact a_sub [1, 2, 0] rfl hh
      · skip
        refine a_bipush dX9_cellar_120 (by decide) ?_
        refine a_aload_n 0 dX9_cellar_122 rfl ?_
        refine a_getI (j := 16) dX9_cellar_123 KX9 rfl (by decide) rfl kf_RX9_133 ?_
        refine a_isub dX9_cellar_126 ?_
        exact a_iret dX9_cellar_127 rfl (p_1 h) (p_S (p_2 h))
    · skip
      refine a_icmp_ne 111 dX9_cellar_86 (by decide) rfl (by decide) h (fun c43 h => ?_) (fun c43 h => ?_)
      · skip
        have hh := hK10 _ h
        exact a_sub [0, 1] rfl hh
      · skip
        refine a_aload_n 0 dX9_cellar_89 rfl ?_
        refine a_getI (j := 14) dX9_cellar_90 KX9 rfl (by decide) rfl kf_RX9_126 ?_
        refine a_if_eq 111 dX9_cellar_93 (by decide) rfl h (fun c44 h => ?_) (fun c44 h => ?_)
        · skip
          have hh := hK10 _ h
          exact a_sub [0, 1] rfl hh
        · skip
          refine a_aload_n 0 dX9_cellar_96 rfl ?_
          refine a_aload_n 0 dX9_cellar_97 rfl ?_
          refine a_getI (j := 14) dX9_cellar_98 KX9 rfl (by decide) rfl kf_RX9_126 ?_
          refine a_iload_n 1 dX9_cellar_101 rfl ?_
          refine bn_s h (fun r45 σ47 e46 h => ?_)
          refine a_callVV dX9_cellar_102 mX9_item KX9 rfl kv_X9_item ks_X9_item rfl km_RX9_150 rfl (T_X9_item e46) (fun _ => rfl) rfl (Nat.le_of_ble_eq_true rfl) (Nat.le_of_ble_eq_true rfl) ⟨(Nat.le_of_ble_eq_true rfl), (Nat.le_of_ble_eq_true rfl)⟩ (Nat.le_of_ble_eq_true rfl) ?_
          refine a_iinc (L' := [(1, vI (q7.2 + 1)), (0, .ref (gP G 55))]) 1 dX9_cellar_105 rfl (by decide) rfl ?_
          refine a_goto 80 dX9_cellar_108 (by decide) ?_
          have hh := hK8 _ h
          exact a_sub [1, 0] rfl hh
  · skip
    refine a_aload_n 0 dX9_cellar_48 rfl ?_
    refine a_getR (j := 10) dX9_cellar_49 KX9 rfl (by decide) rfl kf_RX9_35 ?_
    refine a_bipush dX9_cellar_52 (by decide) ?_
    refine a_iload_n 1 dX9_cellar_54 rfl ?_
    refine a_iadd dX9_cellar_55 ?_
    refine a_iconst dX9_cellar_56 ?_
    refine a_gd h (fun c48 h => ?_)
    refine a_iast (x' := wi (8 + q1.2)) dX9_cellar_57 rfl rfl c48 rfl ?_
    refine a_aload_n 0 dX9_cellar_58 rfl ?_
    refine a_getR (j := 11) dX9_cellar_59 KX9 rfl (by decide) rfl kf_RX9_38 ?_
    refine a_bipush dX9_cellar_62 (by decide) ?_
    refine a_iload_n 1 dX9_cellar_64 rfl ?_
    refine a_iadd dX9_cellar_65 ?_
    refine a_iconst dX9_cellar_66 ?_
    refine a_gd h (fun c49 h => ?_)
    refine a_iast (x' := wi (8 + q1.2)) dX9_cellar_67 rfl rfl c49 rfl ?_
    refine a_iinc (L' := [(1, vI (q1.2 + 1)), (0, .ref (gP G 55))]) 1 dX9_cellar_68 rfl (by decide) rfl ?_
    refine a_goto 42 dX9_cellar_71 (by decide) ?_
    have hh := hK2 _ h
    exact a_sub [1, 0] rfl hh

def X9_meanOf (F : Nat) (σ : sM) (a1 a2 a3 : Int) : Option Int := bp (X9_tenths σ a1 0 a2) (fun r1 => bp (X9_tenths σ a1 1 a2) (fun r3 => bp (X9_tenths σ a1 2 a2) (fun r5 => lp (fun K8 (q7 : Int × Int) => if 8 ≤ wi q7.2 then some (q_ldiv q7.1 1000) else jn (fun q10 : Int => jn (fun q12 : Int => jn (fun q14 : Int => jn (fun q16 : Int => K8 (q16, q7.2 + 1)) (fun K17 => if wi ((q10 * q12) * q14) ≤ 0 then K17 q7.1 else nm (((a1 + (4 * (q_and q7.2 1))) + (32 * (q_and q7.2 2))) + (256 * (q_and q7.2 4))) (fun y19 => jn (fun q21 : Int => K17 (q7.1 + ((wi ((q10 * q12) * q14)) * (wi q21)))) (fun K22 => if wi a3 = 0 then if 0 ≤ wi y19 ∧ wi y19 < 4096 then K22 (σ 76 (wi y19).toNat) else none else if 0 ≤ wi y19 ∧ wi y19 < 4096 then K22 (σ 75 (wi y19).toNat) else none)))) (fun K15 => if ¬ wi (q_and q7.2 4) = 4 then K15 (10 - r5) else K15 r5)) (fun K13 => if ¬ wi (q_and q7.2 2) = 2 then K13 (10 - r3) else K13 r3)) (fun K11 => if ¬ wi (q_and q7.2 1) = 1 then K11 (10 - r1) else K11 r1)) F (0, 0))))
set_option maxRecDepth 100000 in
set_option maxHeartbeats 400000 in
theorem T_X9_meanOf {G : sG} {q_0 : qT} {x_0 : List Nat} {σ : sM} {r_0 : Int} {a1 a2 a3 : Int} {F : Nat}  (h : X9_meanOf F σ a1 a2 a3 = some r_0) : aM G yX9_meanOf cX9_meanOf 12 (some .int) 3 0 0 [.ref (gP G 55), vI a1, vI a2, vI a3] (mkSh q_0 x_0, σ) (r_0, (mkSh q_0 x_0, σ)) := by
  unfold X9_meanOf at h
  refine aM_of (by decide) (Nat.le_of_ble_eq_true rfl) ?_
  show aW G cX9_meanOf RX9 "meanOf" 12 (some .int) _ _ aX 0 0 _ [(0, .ref (gP G 55)), (1, vI a1), (2, vI a2), (3, vI a3)] 0 []
  refine a_aload_n 0 dX9_meanOf_0 rfl ?_
  refine a_iload_n 1 dX9_meanOf_1 rfl ?_
  refine a_iconst dX9_meanOf_2 ?_
  refine a_iload_n 2 dX9_meanOf_3 rfl ?_
  refine bp_s h (fun r1 e2 h => ?_)
  refine a_callVI dX9_meanOf_4 mX9_tenths KX9 rfl kv_X9_tenths ks_X9_tenths rfl km_RX9_199 rfl (T_X9_tenths e2) (fun _ => rfl) rfl (Nat.le_of_ble_eq_true rfl) (Nat.le_of_ble_eq_true rfl) ⟨(Nat.le_of_ble_eq_true rfl), (Nat.le_of_ble_eq_true rfl)⟩ (Nat.le_of_ble_eq_true rfl) ?_
  refine a_istore (L' := [(4, vI r1), (0, .ref (gP G 55)), (1, vI a1), (2, vI a2), (3, vI a3)]) dX9_meanOf_7 (by decide) rfl ?_
  refine a_aload_n 1 dX9_meanOf_9 rfl ?_
  refine a_iload_n 2 dX9_meanOf_10 rfl ?_
  refine a_iconst dX9_meanOf_11 ?_
  refine a_iload_n 3 dX9_meanOf_12 rfl ?_
  refine bp_s h (fun r3 e4 h => ?_)
  refine a_callVI dX9_meanOf_13 mX9_tenths KX9 rfl kv_X9_tenths ks_X9_tenths rfl km_RX9_199 rfl (T_X9_tenths e4) (fun _ => rfl) rfl (Nat.le_of_ble_eq_true rfl) (Nat.le_of_ble_eq_true rfl) ⟨(Nat.le_of_ble_eq_true rfl), (Nat.le_of_ble_eq_true rfl)⟩ (Nat.le_of_ble_eq_true rfl) ?_
  refine a_istore (L' := [(5, vI r3), (4, vI r1), (0, .ref (gP G 55)), (1, vI a1), (2, vI a2), (3, vI a3)]) dX9_meanOf_16 (by decide) rfl ?_
  refine a_aload_n 2 dX9_meanOf_18 rfl ?_
  refine a_iload_n 3 dX9_meanOf_19 rfl ?_
  refine a_iconst dX9_meanOf_20 ?_
  refine a_iload_n 4 dX9_meanOf_21 rfl ?_
  refine bp_s h (fun r5 e6 h => ?_)
  refine a_callVI dX9_meanOf_22 mX9_tenths KX9 rfl kv_X9_tenths ks_X9_tenths rfl km_RX9_199 rfl (T_X9_tenths e6) (fun _ => rfl) rfl (Nat.le_of_ble_eq_true rfl) (Nat.le_of_ble_eq_true rfl) ⟨(Nat.le_of_ble_eq_true rfl), (Nat.le_of_ble_eq_true rfl)⟩ (Nat.le_of_ble_eq_true rfl) ?_
  refine a_istore (L' := [(6, vI r5), (5, vI r3), (4, vI r1), (0, .ref (gP G 55)), (1, vI a1), (2, vI a2), (3, vI a3)]) dX9_meanOf_25 (by decide) rfl ?_
  refine a_lconst (z := 0) dX9_meanOf_27 (by decide) ?_
  refine a_lstore (L' := [(7, vL 0), (6, vI r5), (5, vI r3), (4, vI r1), (0, .ref (gP G 55)), (1, vI a1), (2, vI a2), (3, vI a3)]) dX9_meanOf_28 (by decide) rfl ?_
  refine a_iconst dX9_meanOf_30 ?_
  refine a_istore (L' := [(9, vI 0), (7, vL 0), (6, vI r5), (5, vI r3), (4, vI r1), (0, .ref (gP G 55)), (1, vI a1), (2, vI a2), (3, vI a3)]) dX9_meanOf_31 (by decide) rfl ?_
  refine a_sub (L' := [(0, .ref (gP G 55)), (1, vI a1), (3, vI a3), (4, vI r1), (5, vI r3), (6, vI r5), (7, vL 0), (9, vI 0)]) [5, 6, 8, 4, 3, 2, 1, 0] rfl (lp_s (x := (0, 0)) (fun q7 : Int × Int => aW G cX9_meanOf RX9 "meanOf" 12 (some .int) (sR 3 0 0) (aQ G (some .int) 0 0 (r_0, (mkSh q_0 x_0, σ))) aX 0 0 (mkSh q_0 x_0, σ) [(0, .ref (gP G 55)), (1, vI a1), (3, vI a3), (4, vI r1), (5, vI r3), (6, vI r5), (7, vL q7.1), (9, vI q7.2)] 33 []) h (fun K8 hK8 q7 h => ?_))
  refine a_iload 7 dX9_meanOf_33 rfl ?_
  refine a_bipush dX9_meanOf_35 (by decide) ?_
  refine a_icmp_ge 167 dX9_meanOf_37 (by decide) rfl (by decide) h (fun c9 h => ?_) (fun c9 h => ?_)
  · skip
    refine a_lload 6 dX9_meanOf_167 rfl ?_
    refine a_ldc2 (z := 1000) dX9_meanOf_169 kc_RX9_203 (by decide) ?_
    refine a_ldiv dX9_meanOf_172 (by decide) ?_
    refine a_l2i dX9_meanOf_173 ?_
    exact a_iret dX9_meanOf_174 rfl (s_inj h) rfl
  · skip
    refine a_iload 7 dX9_meanOf_40 rfl ?_
    refine a_iconst dX9_meanOf_42 ?_
    refine a_iand dX9_meanOf_43 ?_
    refine a_iconst dX9_meanOf_44 ?_
    refine jn_s (fun q10 : Int => aW G cX9_meanOf RX9 "meanOf" 12 (some .int) (sR 3 0 0) (aQ G (some .int) 0 0 (r_0, (mkSh q_0 x_0, σ))) aX 0 0 (mkSh q_0 x_0, σ) [(0, .ref (gP G 55)), (1, vI a1), (3, vI a3), (4, vI r1), (5, vI r3), (6, vI r5), (7, vL q7.1), (9, vI q7.2)] 58 [vI q10]) h (fun q10 h => ?_) (fun K11 hK11 h => ?_)
    · skip
      refine a_iload 7 dX9_meanOf_58 rfl ?_
      refine a_iconst dX9_meanOf_60 ?_
      refine a_iand dX9_meanOf_61 ?_
      refine a_iconst dX9_meanOf_62 ?_
      refine jn_s (fun q12 : Int => aW G cX9_meanOf RX9 "meanOf" 12 (some .int) (sR 3 0 0) (aQ G (some .int) 0 0 (r_0, (mkSh q_0 x_0, σ))) aX 0 0 (mkSh q_0 x_0, σ) [(0, .ref (gP G 55)), (1, vI a1), (3, vI a3), (4, vI r1), (5, vI r3), (6, vI r5), (7, vL q7.1), (9, vI q7.2)] 76 [vI q12, vI q10]) h (fun q12 h => ?_) (fun K13 hK13 h => ?_)
      · skip
        refine a_imul dX9_meanOf_76 ?_
        refine a_iload 7 dX9_meanOf_77 rfl ?_
        refine a_iconst dX9_meanOf_79 ?_
        refine a_iand dX9_meanOf_80 ?_
        refine a_iconst dX9_meanOf_81 ?_
        refine jn_s (fun q14 : Int => aW G cX9_meanOf RX9 "meanOf" 12 (some .int) (sR 3 0 0) (aQ G (some .int) 0 0 (r_0, (mkSh q_0 x_0, σ))) aX 0 0 (mkSh q_0 x_0, σ) [(0, .ref (gP G 55)), (1, vI a1), (3, vI a3), (4, vI r1), (5, vI r3), (6, vI r5), (7, vL q7.1), (9, vI q7.2)] 95 [vI q14, vI (q10 * q12)]) h (fun q14 h => ?_) (fun K15 hK15 h => ?_)
        · skip
          refine a_imul dX9_meanOf_95 ?_
          refine a_istore (L' := [(10, vI ((q10 * q12) * q14)), (0, .ref (gP G 55)), (1, vI a1), (3, vI a3), (4, vI r1), (5, vI r3), (6, vI r5), (7, vL q7.1), (9, vI q7.2)]) dX9_meanOf_96 (by decide) rfl ?_
          refine a_iload 0 dX9_meanOf_98 rfl ?_
          refine jn_s (fun q16 : Int => aW G cX9_meanOf RX9 "meanOf" 12 (some .int) (sR 3 0 0) (aQ G (some .int) 0 0 (r_0, (mkSh q_0 x_0, σ))) aX 0 0 (mkSh q_0 x_0, σ) [(0, .ref (gP G 55)), (1, vI a1), (3, vI a3), (4, vI r1), (5, vI r3), (6, vI r5), (7, vL q16), (9, vI q7.2)] 161 []) h (fun q16 h => ?_) (fun K17 hK17 h => ?_)
          · skip
            refine a_iinc (L' := [(9, vI (q7.2 + 1)), (0, .ref (gP G 55)), (1, vI a1), (3, vI a3), (4, vI r1), (5, vI r3), (6, vI r5), (7, vL q16)]) 7 dX9_meanOf_161 rfl (by decide) rfl ?_
            refine a_goto 33 dX9_meanOf_164 (by decide) ?_
            have hh := hK8 _ h
            exact a_sub [1, 2, 3, 4, 5, 6, 7, 0] rfl hh
          · skip
            refine a_if_le 161 dX9_meanOf_100 (by decide) rfl h (fun c18 h => ?_) (fun c18 h => ?_)
            · skip
              have hh := hK17 _ h
              exact a_sub [1, 2, 3, 4, 5, 6, 7, 8] rfl hh
            · skip
              refine a_iload_n 2 dX9_meanOf_103 rfl ?_
              refine a_iconst dX9_meanOf_104 ?_
              refine a_iload 8 dX9_meanOf_105 rfl ?_
              refine a_iconst dX9_meanOf_107 ?_
              refine a_iand dX9_meanOf_108 ?_
              refine a_imul dX9_meanOf_109 ?_
              refine a_iadd dX9_meanOf_110 ?_
              refine a_bipush dX9_meanOf_111 (by decide) ?_
              refine a_iload 8 dX9_meanOf_113 rfl ?_
              refine a_iconst dX9_meanOf_115 ?_
              refine a_iand dX9_meanOf_116 ?_
              refine a_imul dX9_meanOf_117 ?_
              refine a_iadd dX9_meanOf_118 ?_
              refine a_sipush dX9_meanOf_119 (by decide) ?_
              refine a_iload 8 dX9_meanOf_122 rfl ?_
              refine a_iconst dX9_meanOf_124 ?_
              refine a_iand dX9_meanOf_125 ?_
              refine a_imul dX9_meanOf_126 ?_
              refine a_iadd dX9_meanOf_127 ?_
              refine a_nmI h (fun y19 w20 h => ?_)
              refine a_istore (L' := [(11, vI y19), (10, vI ((q10 * q12) * q14)), (0, .ref (gP G 55)), (1, vI a1), (3, vI a3), (4, vI r1), (5, vI r3), (6, vI r5), (7, vL q7.1), (9, vI q7.2)]) dX9_meanOf_128 (by decide) rfl ?_
              refine a_lload 8 dX9_meanOf_130 rfl ?_
              refine a_iload 1 dX9_meanOf_132 rfl ?_
              refine a_i2l dX9_meanOf_134 ?_
              refine a_iload_n 4 dX9_meanOf_135 rfl ?_
              refine jn_s (fun q21 : Int => aW G cX9_meanOf RX9 "meanOf" 12 (some .int) (sR 3 0 0) (aQ G (some .int) 0 0 (r_0, (mkSh q_0 x_0, σ))) aX 0 0 (mkSh q_0 x_0, σ) [(0, .ref (gP G 55)), (1, vI a1), (3, vI a3), (4, vI r1), (5, vI r3), (6, vI r5), (9, vI q7.2)] 156 [vI q21, vL (wi ((q10 * q12) * q14)), vL q7.1]) h (fun q21 h => ?_) (fun K22 hK22 h => ?_)
              · skip
                refine a_i2l dX9_meanOf_156 ?_
                refine a_lmul dX9_meanOf_157 ?_
                refine a_ladd dX9_meanOf_158 ?_
                refine a_lstore (L' := [(7, vL (q7.1 + ((wi ((q10 * q12) * q14)) * (wi q21)))), (0, .ref (gP G 55)), (1, vI a1), (3, vI a3), (4, vI r1), (5, vI r3), (6, vI r5), (9, vI q7.2)]) dX9_meanOf_159 (by decide) rfl ?_
                have hh := hK17 _ h
                exact a_sub [1, 2, 3, 4, 5, 6, 0, 7] rfl hh
              · skip
                refine a_if_eq 149 dX9_meanOf_136 (by decide) rfl h (fun c23 h => ?_) (fun c23 h => ?_)
                · skip
                  refine a_aload_n 2 dX9_meanOf_149 rfl ?_
                  refine a_getR (j := 27) dX9_meanOf_150 KX9 rfl (by decide) rfl kf_RX9_72 ?_
                  refine a_iload 0 dX9_meanOf_153 rfl ?_
                  refine a_gd h (fun c24 h => ?_)
                  refine a_iald (x' := wi y19) dX9_meanOf_155 rfl rfl c24 rfl ?_
                  have hh := hK22 _ h
                  exact a_sub [2, 3, 4, 5, 6, 7, 9] rfl hh
                · skip
                  refine a_aload_n 2 dX9_meanOf_139 rfl ?_
                  refine a_getR (j := 26) dX9_meanOf_140 KX9 rfl (by decide) rfl kf_RX9_69 ?_
                  refine a_iload 0 dX9_meanOf_143 rfl ?_
                  refine a_gd h (fun c25 h => ?_)
                  refine a_iald (x' := wi y19) dX9_meanOf_145 rfl rfl c25 rfl ?_
                  refine a_goto 156 dX9_meanOf_146 (by decide) ?_
                  have hh := hK22 _ h
                  exact a_sub [2, 3, 4, 5, 6, 7, 9] rfl hh
        · skip
          refine a_icmp_ne 90 dX9_meanOf_82 (by decide) rfl (by decide) h (fun c26 h => ?_) (fun c26 h => ?_)
          · skip
            refine a_bipush dX9_meanOf_90 (by decide) ?_
            refine a_iload 5 dX9_meanOf_92 rfl ?_
            refine a_isub dX9_meanOf_94 ?_
            have hh := hK15 _ h
            exact a_sub [0, 1, 2, 3, 4, 5, 6, 7] rfl hh
          · skip
            refine a_iload 5 dX9_meanOf_85 rfl ?_
            refine a_goto 95 dX9_meanOf_87 (by decide) ?_
            have hh := hK15 _ h
            exact a_sub [0, 1, 2, 3, 4, 5, 6, 7] rfl hh
      · skip
        refine a_icmp_ne 71 dX9_meanOf_63 (by decide) rfl (by decide) h (fun c27 h => ?_) (fun c27 h => ?_)
        · skip
          refine a_bipush dX9_meanOf_71 (by decide) ?_
          refine a_iload 4 dX9_meanOf_73 rfl ?_
          refine a_isub dX9_meanOf_75 ?_
          have hh := hK13 _ h
          exact a_sub [0, 1, 2, 3, 4, 5, 6, 7] rfl hh
        · skip
          refine a_iload 4 dX9_meanOf_66 rfl ?_
          refine a_goto 76 dX9_meanOf_68 (by decide) ?_
          have hh := hK13 _ h
          exact a_sub [0, 1, 2, 3, 4, 5, 6, 7] rfl hh
    · skip
      refine a_icmp_ne 53 dX9_meanOf_45 (by decide) rfl (by decide) h (fun c28 h => ?_) (fun c28 h => ?_)
      · skip
        refine a_bipush dX9_meanOf_53 (by decide) ?_
        refine a_iload 3 dX9_meanOf_55 rfl ?_
        refine a_isub dX9_meanOf_57 ?_
        have hh := hK11 _ h
        exact a_sub [0, 1, 2, 3, 4, 5, 6, 7] rfl hh
      · skip
        refine a_iload 3 dX9_meanOf_48 rfl ?_
        refine a_goto 58 dX9_meanOf_50 (by decide) ?_
        have hh := hK11 _ h
        exact a_sub [0, 1, 2, 3, 4, 5, 6, 7] rfl hh

