def X9_note (σ : sM) (a1 a2 : Int) : Option (Int × sM) := bp (X9_in σ a1 0 5) (fun r1 => jn (fun q3 : Unit => some ((-1000000), σ)) (fun K4 => if wi r1 = 0 then K4 () else bp (X9_isWheel σ a2) (fun r6 => if ¬ wi r6 = 0 then if 0 ≤ wi a2 ∧ wi a2 < 9 then if 0 ≤ wi a2 ∧ wi a2 < 9 then bp (X9_goodOf σ a2 (σ 71 (wi a2).toNat)) (fun r11 => if wi a1 = 0 then some (σ 72 (wi a2).toNat, (sU σ 55 0 ((σ 55 0) + 1))) else if wi a1 = 1 then some ((σ 72 (wi a2).toNat) + (σ 71 (wi a2).toNat), (sU σ 55 0 ((σ 55 0) + 11))) else if wi a1 = 2 then some ((σ 72 (wi a2).toNat) * r11, (sU σ 55 0 ((σ 55 0) + 101))) else if wi a1 = 3 then if 0 ≤ wi a2 ∧ wi a2 < 6 then if 0 ≤ wi (((14 * ((sU σ 55 0 ((σ 55 0) + 1101)) 62 (wi a2).toNat)) + 10) + (σ 71 (wi a2).toNat)) ∧ wi (((14 * ((sU σ 55 0 ((σ 55 0) + 1101)) 62 (wi a2).toNat)) + 10) + (σ 71 (wi a2).toNat)) < 112 then some (((σ 72 (wi a2).toNat) * r11) + ((sU σ 55 0 ((σ 55 0) + 1101)) 61 (wi (((14 * ((sU σ 55 0 ((σ 55 0) + 1101)) 62 (wi a2).toNat)) + 10) + (σ 71 (wi a2).toNat))).toNat), (sU σ 55 0 ((σ 55 0) + 1101))) else none else none else if wi a1 = 4 then some ((σ 72 (wi a2).toNat) - a2, (sU σ 55 0 ((σ 55 0) + 10001))) else some (3 * ((σ 72 (wi a2).toNat) + (σ 71 (wi a2).toNat)), (sU σ 55 0 ((σ 55 0) + 100011)))) else none else none else K4 ())))
set_option maxRecDepth 100000 in
set_option maxHeartbeats 400000 in
theorem T_X9_note {G : sG} {q_0 : qT} {x_0 : List Nat} {σ s_0 : sM} {r_0 : Int} {a1 a2 : Int}  (h : X9_note σ a1 a2 = some (r_0, s_0)) : aM G yX9_note cX9_note 6 (some .int) 2 0 0 [.ref (gB G + 55), vI a1, vI a2] (mkSh q_0 x_0, σ) (r_0, (mkSh q_0 x_0, s_0)) := by
  unfold X9_note at h
  refine aM_of (by decide) (Nat.le_of_ble_eq_true rfl) ?_
  show aW G cX9_note RX9 "note" 6 (some .int) _ _ aX 0 0 _ [(0, .ref (gB G + 55)), (1, vI a1), (2, vI a2)] 0 []
  refine a_iload_n 1 dX9_note_0 rfl ?_
  refine a_iconst dX9_note_1 ?_
  refine a_iconst dX9_note_2 ?_
  refine bp_s h (fun r1 e2 h => ?_)
  refine a_callSI dX9_note_3 mX9_in kv_X9_in km_RX9_103 rfl (T_X9_in e2) (fun _ => rfl) rfl (Nat.le_of_ble_eq_true rfl) (Nat.le_of_ble_eq_true rfl) ⟨(Nat.le_of_ble_eq_true rfl), (Nat.le_of_ble_eq_true rfl)⟩ (Nat.le_of_ble_eq_true rfl) ?_
  refine jn_s (fun q3 : Unit => aW G cX9_note RX9 "note" 6 (some .int) (sR 2 0 0) (aQ G (some .int) 0 0 (r_0, (mkSh q_0 x_0, s_0))) aX 0 0 (mkSh q_0 x_0, σ) [] 17 []) h (fun q3 h => ?_) (fun K4 hK4 h => ?_)
  · skip
    refine a_ldc (z := -1000000) dX9_note_17 kc_RX9_242 (by decide) ?_
    exact a_iret dX9_note_19 rfl (p_1 h) (p_S (p_2 h))
  · skip
    refine a_if_eq 17 dX9_note_6 (by decide) rfl h (fun c5 h => ?_) (fun c5 h => ?_)
    · skip
      have hh := hK4 _ h
      exact a_sub [] rfl hh
    · skip
      refine a_aload_n 0 dX9_note_9 rfl ?_
      refine a_iload_n 2 dX9_note_10 rfl ?_
      refine bp_s h (fun r6 e7 h => ?_)
      refine a_callVI dX9_note_11 mX9_isWheel KX9 rfl kv_X9_isWheel ks_X9_isWheel rfl km_RX9_164 rfl (T_X9_isWheel e7) (fun _ => rfl) rfl (Nat.le_of_ble_eq_true rfl) (Nat.le_of_ble_eq_true rfl) ⟨(Nat.le_of_ble_eq_true rfl), (Nat.le_of_ble_eq_true rfl)⟩ (Nat.le_of_ble_eq_true rfl) ?_
      refine a_if_ne 20 dX9_note_14 (by decide) rfl h (fun c8 h => ?_) (fun c8 h => ?_)
      · skip
        refine a_aload_n 0 dX9_note_20 rfl ?_
        refine a_getR (j := 23) dX9_note_21 KX9 rfl (by decide) rfl kf_RX9_60 ?_
        refine a_iload_n 2 dX9_note_24 rfl ?_
        refine a_gd h (fun c9 h => ?_)
        refine a_iald (x' := wi a2) dX9_note_25 rfl rfl c9 rfl ?_
        refine a_istore_n (L' := [(3, vI (σ 72 (wi a2).toNat)), (0, .ref (gB G + 55)), (1, vI a1), (2, vI a2)]) dX9_note_26 (by decide) rfl ?_
        refine a_aload_n 1 dX9_note_27 rfl ?_
        refine a_getR (j := 22) dX9_note_28 KX9 rfl (by decide) rfl kf_RX9_57 ?_
        refine a_iload_n 3 dX9_note_31 rfl ?_
        refine a_gd h (fun c10 h => ?_)
        refine a_iald (x' := wi a2) dX9_note_32 rfl rfl c10 rfl ?_
        refine a_istore (L' := [(4, vI (σ 71 (wi a2).toNat)), (3, vI (σ 72 (wi a2).toNat)), (0, .ref (gB G + 55)), (1, vI a1), (2, vI a2)]) dX9_note_33 (by decide) rfl ?_
        refine a_aload_n 2 dX9_note_35 rfl ?_
        refine a_iload_n 4 dX9_note_36 rfl ?_
        refine a_iload 0 dX9_note_37 rfl ?_
        refine bp_s h (fun r11 e12 h => ?_)
        refine a_callVI dX9_note_39 mX9_goodOf KX9 rfl kv_X9_goodOf ks_X9_goodOf rfl km_RX9_168 rfl (T_X9_goodOf e12) (fun _ => rfl) rfl (Nat.le_of_ble_eq_true rfl) (Nat.le_of_ble_eq_true rfl) ⟨(Nat.le_of_ble_eq_true rfl), (Nat.le_of_ble_eq_true rfl)⟩ (Nat.le_of_ble_eq_true rfl) ?_
        refine a_istore (L' := [(5, vI r11), (4, vI (σ 71 (wi a2).toNat)), (3, vI (σ 72 (wi a2).toNat)), (0, .ref (gB G + 55)), (1, vI a1), (2, vI a2)]) dX9_note_42 (by decide) rfl ?_
        refine a_iload_n 4 dX9_note_44 rfl ?_
        refine a_if h (fun c13 h => ?_) (fun c13 h => ?_)
        · skip
          refine a_tsIn (off := 35) 80 dX9_note_45 c13 (by decide) (by decide) (by decide) ?_
          refine a_aload_n 3 dX9_note_80 rfl ?_
          refine a_dupR dX9_note_81 ?_
          refine a_getL (j := 0) dX9_note_82 KX9 rfl (by decide) rfl kf_RX9_297 ?_
          refine a_lconst (z := 1) dX9_note_85 (by decide) ?_
          refine a_ladd dX9_note_86 ?_
          refine a_putL (j := 0) dX9_note_87 KX9 rfl (by decide) rfl rfl rfl kf_RX9_297 ?_
          refine a_iload_n 2 dX9_note_90 rfl ?_
          exact a_iret dX9_note_91 rfl (p_1 h) (p_S (p_2 h))
        · skip
          refine a_if h (fun c14 h => ?_) (fun c14 h => ?_)
          · skip
            refine a_tsIn (off := 47) 92 dX9_note_45 c14 (by decide) (by decide) (by decide) ?_
            refine a_aload_n 3 dX9_note_92 rfl ?_
            refine a_dupR dX9_note_93 ?_
            refine a_getL (j := 0) dX9_note_94 KX9 rfl (by decide) rfl kf_RX9_297 ?_
            refine a_ldc2 (z := 11) dX9_note_97 kc_RX9_301 (by decide) ?_
            refine a_ladd dX9_note_100 ?_
            refine a_putL (j := 0) dX9_note_101 KX9 rfl (by decide) rfl rfl rfl kf_RX9_297 ?_
            refine a_iload_n 2 dX9_note_104 rfl ?_
            refine a_iload 1 dX9_note_105 rfl ?_
            refine a_iadd dX9_note_107 ?_
            exact a_iret dX9_note_108 rfl (p_1 h) (p_S (p_2 h))
          · skip
            refine a_if h (fun c15 h => ?_) (fun c15 h => ?_)
            · skip
              refine a_tsIn (off := 64) 109 dX9_note_45 c15 (by decide) (by decide) (by decide) ?_
              refine a_aload_n 3 dX9_note_109 rfl ?_
              refine a_dupR dX9_note_110 ?_
              refine a_getL (j := 0) dX9_note_111 KX9 rfl (by decide) rfl kf_RX9_297 ?_
              refine a_ldc2 (z := 101) dX9_note_114 kc_RX9_303 (by decide) ?_
              refine a_ladd dX9_note_117 ?_
              refine a_putL (j := 0) dX9_note_118 KX9 rfl (by decide) rfl rfl rfl kf_RX9_297 ?_
              refine a_iload_n 2 dX9_note_121 rfl ?_
              refine a_iload 0 dX9_note_122 rfl ?_
              refine a_imul dX9_note_124 ?_
              exact a_iret dX9_note_125 rfl (p_1 h) (p_S (p_2 h))
            · skip
              refine a_if h (fun c16 h => ?_) (fun c16 h => ?_)
              · skip
                refine a_tsIn (off := 81) 126 dX9_note_45 c16 (by decide) (by decide) (by decide) ?_
                refine a_aload_n 3 dX9_note_126 rfl ?_
                refine a_dupR dX9_note_127 ?_
                refine a_getL (j := 0) dX9_note_128 KX9 rfl (by decide) rfl kf_RX9_297 ?_
                refine a_ldc2 (z := 1101) dX9_note_131 kc_RX9_305 (by decide) ?_
                refine a_ladd dX9_note_134 ?_
                refine a_putL (j := 0) dX9_note_135 KX9 rfl (by decide) rfl rfl rfl kf_RX9_297 ?_
                refine a_iload_n 2 dX9_note_138 rfl ?_
                refine a_iload 0 dX9_note_139 rfl ?_
                refine a_imul dX9_note_141 ?_
                refine a_aload_n 3 dX9_note_142 rfl ?_
                refine a_getR (j := 7) dX9_note_143 KX9 rfl (by decide) rfl kf_RX9_26 ?_
                refine a_bipush dX9_note_146 (by decide) ?_
                refine a_aload_n 3 dX9_note_148 rfl ?_
                refine a_getR (j := 8) dX9_note_149 KX9 rfl (by decide) rfl kf_RX9_29 ?_
                refine a_iload_n 5 dX9_note_152 rfl ?_
                refine a_gd h (fun c17 h => ?_)
                refine a_iald (x' := wi a2) dX9_note_153 rfl rfl c17 rfl ?_
                refine a_imul dX9_note_154 ?_
                refine a_bipush dX9_note_155 (by decide) ?_
                refine a_iadd dX9_note_157 ?_
                refine a_iload 1 dX9_note_158 rfl ?_
                refine a_iadd dX9_note_160 ?_
                refine a_gd h (fun c18 h => ?_)
                refine a_iald (x' := wi (((14 * ((sU σ 55 0 ((σ 55 0) + 1101)) 62 (wi a2).toNat)) + 10) + (σ 71 (wi a2).toNat))) dX9_note_161 rfl rfl c18 rfl ?_
                refine a_iadd dX9_note_162 ?_
                exact a_iret dX9_note_163 rfl (p_1 h) (p_S (p_2 h))
              · skip
                refine a_if h (fun c19 h => ?_) (fun c19 h => ?_)
                · skip
                  refine a_tsIn (off := 119) 164 dX9_note_45 c19 (by decide) (by decide) (by decide) ?_
                  refine a_aload_n 3 dX9_note_164 rfl ?_
                  refine a_dupR dX9_note_165 ?_
                  refine a_getL (j := 0) dX9_note_166 KX9 rfl (by decide) rfl kf_RX9_297 ?_
                  refine a_ldc2 (z := 10001) dX9_note_169 kc_RX9_307 (by decide) ?_
                  refine a_ladd dX9_note_172 ?_
                  refine a_putL (j := 0) dX9_note_173 KX9 rfl (by decide) rfl rfl rfl kf_RX9_297 ?_
                  refine a_iload_n 2 dX9_note_176 rfl ?_
                  refine a_iload_n 5 dX9_note_177 rfl ?_
                  refine a_isub dX9_note_178 ?_
                  exact a_iret dX9_note_179 rfl (p_1 h) (p_S (p_2 h))
                · skip
                  refine a_tsOut (v := wi a1) 180 dX9_note_45 rfl (by omega) (by decide) ?_
                  refine a_aload_n 3 dX9_note_180 rfl ?_
                  refine a_dupR dX9_note_181 ?_
                  refine a_getL (j := 0) dX9_note_182 KX9 rfl (by decide) rfl kf_RX9_297 ?_
                  refine a_ldc2 (z := 100011) dX9_note_185 kc_RX9_309 (by decide) ?_
                  refine a_ladd dX9_note_188 ?_
                  refine a_putL (j := 0) dX9_note_189 KX9 rfl (by decide) rfl rfl rfl kf_RX9_297 ?_
                  refine a_iconst dX9_note_192 ?_
                  refine a_iload_n 2 dX9_note_193 rfl ?_
                  refine a_iload 1 dX9_note_194 rfl ?_
                  refine a_iadd dX9_note_196 ?_
                  refine a_imul dX9_note_197 ?_
                  exact a_iret dX9_note_198 rfl (p_1 h) (p_S (p_2 h))
      · skip
        have hh := hK4 _ h
        exact a_sub [] rfl hh

def X9_copy (F : Nat) (σ : sM) (a1 a2 : Int) : Option (Int × sM) := if 0 ≤ wi a1 ∧ wi a1 < 3 then if 0 ≤ wi a2 ∧ wi a2 < 3 then if 0 ≤ wi a1 ∧ wi a1 < 3 then if 0 ≤ wi a2 ∧ wi a2 < 3 then nm (sU (sU σ 66 (wi a2).toNat (σ 66 (wi a1).toNat)) 67 (wi a2).toNat (q_z ((sU σ 66 (wi a2).toNat (σ 66 (wi a1).toNat)) 67 (wi a1).toNat))) (fun σ5 => if 0 ≤ wi a1 ∧ wi a1 < 3 then if 0 ≤ wi a2 ∧ wi a2 < 3 then if 0 ≤ wi a1 ∧ wi a1 < 3 then if 0 ≤ wi a2 ∧ wi a2 < 3 then nm (sU (sU σ5 68 (wi a2).toNat (σ5 68 (wi a1).toNat)) 69 (wi a2).toNat ((sU σ5 68 (wi a2).toNat (σ5 68 (wi a1).toNat)) 69 (wi a1).toNat)) (fun σ11 => if 0 ≤ wi a1 ∧ wi a1 < 3 then if 0 ≤ wi a2 ∧ wi a2 < 3 then lp (fun K16 (q15 : sM × Int) => if 3 ≤ wi q15.2 then some (0, q15.1) else if 0 ≤ wi ((3 * a1) + q15.2) ∧ wi ((3 * a1) + q15.2) < 9 then if 0 ≤ wi ((3 * a2) + q15.2) ∧ wi ((3 * a2) + q15.2) < 9 then if 0 ≤ wi ((3 * a1) + q15.2) ∧ wi ((3 * a1) + q15.2) < 9 then if 0 ≤ wi ((3 * a2) + q15.2) ∧ wi ((3 * a2) + q15.2) < 9 then nm (sU (sU q15.1 71 (wi ((3 * a2) + q15.2)).toNat (q15.1 71 (wi ((3 * a1) + q15.2)).toNat)) 72 (wi ((3 * a2) + q15.2)).toNat ((sU q15.1 71 (wi ((3 * a2) + q15.2)).toNat (q15.1 71 (wi ((3 * a1) + q15.2)).toNat)) 72 (wi ((3 * a1) + q15.2)).toNat)) (fun σ22 => if 0 ≤ wi ((3 * a1) + q15.2) ∧ wi ((3 * a1) + q15.2) < 9 then if 0 ≤ wi ((3 * a2) + q15.2) ∧ wi ((3 * a2) + q15.2) < 9 then K16 ((sU σ22 73 (wi ((3 * a2) + q15.2)).toNat (q_z (σ22 73 (wi ((3 * a1) + q15.2)).toNat))), q15.2 + 1) else none else none) else none else none else none else none) F ((sU σ11 70 (wi a2).toNat (σ11 70 (wi a1).toNat)), 0) else none else none) else none else none else none else none) else none else none else none else none
set_option maxRecDepth 100000 in
set_option maxHeartbeats 400000 in
theorem T_X9_copy {G : sG} {q_0 : qT} {x_0 : List Nat} {σ s_0 : sM} {r_0 : Int} {a1 a2 : Int} {F : Nat}  (h : X9_copy F σ a1 a2 = some (r_0, s_0)) : aM G yX9_copy cX9_copy 4 none 0 0 0 [.ref (gB G + 55), vI a1, vI a2] (mkSh q_0 x_0, σ) (r_0, (mkSh q_0 x_0, s_0)) := by
  unfold X9_copy at h
  refine aM_of (by decide) (Nat.le_of_ble_eq_true rfl) ?_
  show aW G cX9_copy RX9 "copy" 4 none _ _ aX 0 0 _ [(0, .ref (gB G + 55)), (1, vI a1), (2, vI a2)] 0 []
  refine a_aload_n 0 dX9_copy_0 rfl ?_
  refine a_getR (j := 17) dX9_copy_1 KX9 rfl (by decide) rfl kf_RX9_41 ?_
  refine a_iload_n 2 dX9_copy_4 rfl ?_
  refine a_aload_n 0 dX9_copy_5 rfl ?_
  refine a_getR (j := 17) dX9_copy_6 KX9 rfl (by decide) rfl kf_RX9_41 ?_
  refine a_iload_n 1 dX9_copy_9 rfl ?_
  refine a_gd h (fun c1 h => ?_)
  refine a_iald (x' := wi a1) dX9_copy_10 rfl rfl c1 rfl ?_
  refine a_gd h (fun c2 h => ?_)
  refine a_iast (x' := wi a2) dX9_copy_11 rfl rfl c2 rfl ?_
  refine a_aload_n 0 dX9_copy_12 rfl ?_
  refine a_getR (j := 18) dX9_copy_13 KX9 rfl (by decide) rfl kf_RX9_44 ?_
  refine a_iload_n 2 dX9_copy_16 rfl ?_
  refine a_aload_n 0 dX9_copy_17 rfl ?_
  refine a_getR (j := 18) dX9_copy_18 KX9 rfl (by decide) rfl kf_RX9_44 ?_
  refine a_iload_n 1 dX9_copy_21 rfl ?_
  refine a_gd h (fun c3 h => ?_)
  refine a_zald (x' := wi a1) dX9_copy_22 rfl rfl c3 rfl ?_
  refine a_gd h (fun c4 h => ?_)
  refine a_zast (x' := wi a2) dX9_copy_23 rfl rfl c4 rfl ?_
  refine a_nmS h (fun σ5 w6 h => ?_)
  refine a_aload_n 0 dX9_copy_24 rfl ?_
  refine a_getR (j := 19) dX9_copy_25 KX9 rfl (by decide) rfl kf_RX9_48 ?_
  refine a_iload_n 2 dX9_copy_28 rfl ?_
  refine a_aload_n 0 dX9_copy_29 rfl ?_
  refine a_getR (j := 19) dX9_copy_30 KX9 rfl (by decide) rfl kf_RX9_48 ?_
  refine a_iload_n 1 dX9_copy_33 rfl ?_
  refine a_gd h (fun c7 h => ?_)
  refine a_iald (x' := wi a1) dX9_copy_34 rfl rfl c7 rfl ?_
  refine a_gd h (fun c8 h => ?_)
  refine a_iast (x' := wi a2) dX9_copy_35 rfl rfl c8 rfl ?_
  refine a_aload_n 0 dX9_copy_36 rfl ?_
  refine a_getR (j := 20) dX9_copy_37 KX9 rfl (by decide) rfl kf_RX9_51 ?_
  refine a_iload_n 2 dX9_copy_40 rfl ?_
  refine a_aload_n 0 dX9_copy_41 rfl ?_
  refine a_getR (j := 20) dX9_copy_42 KX9 rfl (by decide) rfl kf_RX9_51 ?_
  refine a_iload_n 1 dX9_copy_45 rfl ?_
  refine a_gd h (fun c9 h => ?_)
  refine a_iald (x' := wi a1) dX9_copy_46 rfl rfl c9 rfl ?_
  refine a_gd h (fun c10 h => ?_)
  refine a_iast (x' := wi a2) dX9_copy_47 rfl rfl c10 rfl ?_
  refine a_nmS h (fun σ11 w12 h => ?_)
  refine a_aload_n 0 dX9_copy_48 rfl ?_
  refine a_getR (j := 21) dX9_copy_49 KX9 rfl (by decide) rfl kf_RX9_54 ?_
  refine a_iload_n 2 dX9_copy_52 rfl ?_
  refine a_aload_n 0 dX9_copy_53 rfl ?_
  refine a_getR (j := 21) dX9_copy_54 KX9 rfl (by decide) rfl kf_RX9_54 ?_
  refine a_iload_n 1 dX9_copy_57 rfl ?_
  refine a_gd h (fun c13 h => ?_)
  refine a_iald (x' := wi a1) dX9_copy_58 rfl rfl c13 rfl ?_
  refine a_gd h (fun c14 h => ?_)
  refine a_iast (x' := wi a2) dX9_copy_59 rfl rfl c14 rfl ?_
  refine a_iconst dX9_copy_60 ?_
  refine a_istore_n (L' := [(3, vI 0), (0, .ref (gB G + 55)), (1, vI a1), (2, vI a2)]) dX9_copy_61 (by decide) rfl ?_
  refine a_sub (L' := [(0, .ref (gB G + 55)), (1, vI a1), (2, vI a2), (3, vI 0)]) [1, 2, 3, 0] rfl (lp_s (x := ((sU σ11 70 (wi a2).toNat (σ11 70 (wi a1).toNat)), 0)) (fun q15 : sM × Int => aW G cX9_copy RX9 "copy" 4 none (sR 0 0 0) (aQ G none 0 0 (r_0, (mkSh q_0 x_0, s_0))) aX 0 0 (mkSh q_0 x_0, q15.1) [(0, .ref (gB G + 55)), (1, vI a1), (2, vI a2), (3, vI q15.2)] 62 []) h (fun K16 hK16 q15 h => ?_))
  refine a_iload_n 3 dX9_copy_62 rfl ?_
  refine a_iconst dX9_copy_63 ?_
  refine a_icmp_ge 133 dX9_copy_64 (by decide) rfl (by decide) h (fun c17 h => ?_) (fun c17 h => ?_)
  · skip
    exact a_vret dX9_copy_133 rfl (p_S (p_2 h))
  · skip
    refine a_aload_n 0 dX9_copy_67 rfl ?_
    refine a_getR (j := 22) dX9_copy_68 KX9 rfl (by decide) rfl kf_RX9_57 ?_
    refine a_iconst dX9_copy_71 ?_
    refine a_iload_n 2 dX9_copy_72 rfl ?_
    refine a_imul dX9_copy_73 ?_
    refine a_iload_n 3 dX9_copy_74 rfl ?_
    refine a_iadd dX9_copy_75 ?_
    refine a_aload_n 0 dX9_copy_76 rfl ?_
    refine a_getR (j := 22) dX9_copy_77 KX9 rfl (by decide) rfl kf_RX9_57 ?_
    refine a_iconst dX9_copy_80 ?_
    refine a_iload_n 1 dX9_copy_81 rfl ?_
    refine a_imul dX9_copy_82 ?_
    refine a_iload_n 3 dX9_copy_83 rfl ?_
    refine a_iadd dX9_copy_84 ?_
    refine a_gd h (fun c18 h => ?_)
    refine a_iald (x' := wi ((3 * a1) + q15.2)) dX9_copy_85 rfl rfl c18 rfl ?_
    refine a_gd h (fun c19 h => ?_)
    refine a_iast (x' := wi ((3 * a2) + q15.2)) dX9_copy_86 rfl rfl c19 rfl ?_
    refine a_aload_n 0 dX9_copy_87 rfl ?_
    refine a_getR (j := 23) dX9_copy_88 KX9 rfl (by decide) rfl kf_RX9_60 ?_
    refine a_iconst dX9_copy_91 ?_
    refine a_iload_n 2 dX9_copy_92 rfl ?_
    refine a_imul dX9_copy_93 ?_
    refine a_iload_n 3 dX9_copy_94 rfl ?_
    refine a_iadd dX9_copy_95 ?_
    refine a_aload_n 0 dX9_copy_96 rfl ?_
    refine a_getR (j := 23) dX9_copy_97 KX9 rfl (by decide) rfl kf_RX9_60 ?_
    refine a_iconst dX9_copy_100 ?_
    refine a_iload_n 1 dX9_copy_101 rfl ?_
    refine a_imul dX9_copy_102 ?_
    refine a_iload_n 3 dX9_copy_103 rfl ?_
    refine a_iadd dX9_copy_104 ?_
    refine a_gd h (fun c20 h => ?_)
    refine a_iald (x' := wi ((3 * a1) + q15.2)) dX9_copy_105 rfl rfl c20 rfl ?_
    refine a_gd h (fun c21 h => ?_)
    refine a_iast (x' := wi ((3 * a2) + q15.2)) dX9_copy_106 rfl rfl c21 rfl ?_
    refine a_nmS h (fun σ22 w23 h => ?_)
    refine a_aload_n 0 dX9_copy_107 rfl ?_
    refine a_getR (j := 24) dX9_copy_108 KX9 rfl (by decide) rfl kf_RX9_63 ?_
    refine a_iconst dX9_copy_111 ?_
    refine a_iload_n 2 dX9_copy_112 rfl ?_
    refine a_imul dX9_copy_113 ?_
    refine a_iload_n 3 dX9_copy_114 rfl ?_
    refine a_iadd dX9_copy_115 ?_
    refine a_aload_n 0 dX9_copy_116 rfl ?_
    refine a_getR (j := 24) dX9_copy_117 KX9 rfl (by decide) rfl kf_RX9_63 ?_
    refine a_iconst dX9_copy_120 ?_
    refine a_iload_n 1 dX9_copy_121 rfl ?_
    refine a_imul dX9_copy_122 ?_
    refine a_iload_n 3 dX9_copy_123 rfl ?_
    refine a_iadd dX9_copy_124 ?_
    refine a_gd h (fun c24 h => ?_)
    refine a_zald (x' := wi ((3 * a1) + q15.2)) dX9_copy_125 rfl rfl c24 rfl ?_
    refine a_gd h (fun c25 h => ?_)
    refine a_zast (x' := wi ((3 * a2) + q15.2)) dX9_copy_126 rfl rfl c25 rfl ?_
    refine a_iinc (L' := [(3, vI (q15.2 + 1)), (0, .ref (gB G + 55)), (1, vI a1), (2, vI a2)]) 3 dX9_copy_127 rfl (by decide) rfl ?_
    refine a_goto 62 dX9_copy_130 (by decide) ?_
    have hh := hK16 _ h
    exact a_sub [1, 2, 3, 0] rfl hh

def X9_keep (F : Nat) (σ : sM) (a1 : Int) : Option (Int × sM) := bp (X9_in σ a1 0 1) (fun r1 => if ¬ wi r1 = 0 then bn (X9_copy F σ 0 (1 + a1)) (fun r4 σ6 => if 0 ≤ wi a1 ∧ wi a1 < 2 then some ((sU σ6 74 (wi a1).toNat (q_z 1)) 66 0, (sU σ6 74 (wi a1).toNat (q_z 1))) else none) else some ((-1), σ))
set_option maxRecDepth 100000 in
set_option maxHeartbeats 400000 in
theorem T_X9_keep {G : sG} {q_0 : qT} {x_0 : List Nat} {σ s_0 : sM} {r_0 : Int} {a1 : Int} {F : Nat}  (h : X9_keep F σ a1 = some (r_0, s_0)) : aM G yX9_keep cX9_keep 2 (some .int) 1 0 0 [.ref (gB G + 55), vI a1] (mkSh q_0 x_0, σ) (r_0, (mkSh q_0 x_0, s_0)) := by
  unfold X9_keep at h
  refine aM_of (by decide) (Nat.le_of_ble_eq_true rfl) ?_
  show aW G cX9_keep RX9 "keep" 2 (some .int) _ _ aX 0 0 _ [(0, .ref (gB G + 55)), (1, vI a1)] 0 []
  refine a_iload_n 1 dX9_keep_0 rfl ?_
  refine a_iconst dX9_keep_1 ?_
  refine a_iconst dX9_keep_2 ?_
  refine bp_s h (fun r1 e2 h => ?_)
  refine a_callSI dX9_keep_3 mX9_in kv_X9_in km_RX9_103 rfl (T_X9_in e2) (fun _ => rfl) rfl (Nat.le_of_ble_eq_true rfl) (Nat.le_of_ble_eq_true rfl) ⟨(Nat.le_of_ble_eq_true rfl), (Nat.le_of_ble_eq_true rfl)⟩ (Nat.le_of_ble_eq_true rfl) ?_
  refine a_if_ne 11 dX9_keep_6 (by decide) rfl h (fun c3 h => ?_) (fun c3 h => ?_)
  · skip
    refine a_aload_n 0 dX9_keep_11 rfl ?_
    refine a_iconst dX9_keep_12 ?_
    refine a_iconst dX9_keep_13 ?_
    refine a_iload_n 1 dX9_keep_14 rfl ?_
    refine a_iadd dX9_keep_15 ?_
    refine bn_s h (fun r4 σ6 e5 h => ?_)
    refine a_callVV dX9_keep_16 mX9_copy KX9 rfl kv_X9_copy ks_X9_copy rfl km_RX9_311 rfl (T_X9_copy e5) (fun _ => rfl) rfl (Nat.le_of_ble_eq_true rfl) (Nat.le_of_ble_eq_true rfl) ⟨(Nat.le_of_ble_eq_true rfl), (Nat.le_of_ble_eq_true rfl)⟩ (Nat.le_of_ble_eq_true rfl) ?_
    refine a_aload_n 0 dX9_keep_19 rfl ?_
    refine a_getR (j := 25) dX9_keep_20 KX9 rfl (by decide) rfl kf_RX9_66 ?_
    refine a_iload_n 1 dX9_keep_23 rfl ?_
    refine a_iconst dX9_keep_24 ?_
    refine a_gd h (fun c7 h => ?_)
    refine a_zast (x' := wi a1) dX9_keep_25 rfl rfl c7 rfl ?_
    refine a_aload_n 0 dX9_keep_26 rfl ?_
    refine a_getR (j := 17) dX9_keep_27 KX9 rfl (by decide) rfl kf_RX9_41 ?_
    refine a_iconst dX9_keep_30 ?_
    refine a_iald (x' := 0) dX9_keep_31 rfl (by decide) (by decide) rfl ?_
    exact a_iret dX9_keep_32 rfl (p_1 h) (p_S (p_2 h))
  · skip
    refine a_iconst dX9_keep_9 ?_
    exact a_iret dX9_keep_10 rfl (p_1 h) (p_S (p_2 h))

def X9_back (F : Nat) (σ : sM) (a1 : Int) : Option (Int × sM) := bp (X9_in σ a1 0 1) (fun r1 => if ¬ wi r1 = 0 then if 0 ≤ wi a1 ∧ wi a1 < 2 then if ¬ wi (σ 74 (wi a1).toNat) = 0 then bn (X9_copy F σ (1 + a1) 0) (fun r6 σ8 => some (σ8 66 0, σ8)) else some ((-2), σ) else none else some ((-1), σ))
set_option maxRecDepth 100000 in
set_option maxHeartbeats 400000 in
theorem T_X9_back {G : sG} {q_0 : qT} {x_0 : List Nat} {σ s_0 : sM} {r_0 : Int} {a1 : Int} {F : Nat}  (h : X9_back F σ a1 = some (r_0, s_0)) : aM G yX9_back cX9_back 2 (some .int) 1 0 0 [.ref (gB G + 55), vI a1] (mkSh q_0 x_0, σ) (r_0, (mkSh q_0 x_0, s_0)) := by
  unfold X9_back at h
  refine aM_of (by decide) (Nat.le_of_ble_eq_true rfl) ?_
  show aW G cX9_back RX9 "back" 2 (some .int) _ _ aX 0 0 _ [(0, .ref (gB G + 55)), (1, vI a1)] 0 []
  refine a_iload_n 1 dX9_back_0 rfl ?_
  refine a_iconst dX9_back_1 ?_
  refine a_iconst dX9_back_2 ?_
  refine bp_s h (fun r1 e2 h => ?_)
  refine a_callSI dX9_back_3 mX9_in kv_X9_in km_RX9_103 rfl (T_X9_in e2) (fun _ => rfl) rfl (Nat.le_of_ble_eq_true rfl) (Nat.le_of_ble_eq_true rfl) ⟨(Nat.le_of_ble_eq_true rfl), (Nat.le_of_ble_eq_true rfl)⟩ (Nat.le_of_ble_eq_true rfl) ?_
  refine a_if_ne 11 dX9_back_6 (by decide) rfl h (fun c3 h => ?_) (fun c3 h => ?_)
  · skip
    refine a_aload_n 0 dX9_back_11 rfl ?_
    refine a_getR (j := 25) dX9_back_12 KX9 rfl (by decide) rfl kf_RX9_66 ?_
    refine a_iload_n 1 dX9_back_15 rfl ?_
    refine a_gd h (fun c4 h => ?_)
    refine a_zald (x' := wi a1) dX9_back_16 rfl rfl c4 rfl ?_
    refine a_if_ne 23 dX9_back_17 (by decide) rfl h (fun c5 h => ?_) (fun c5 h => ?_)
    · skip
      refine a_aload_n 0 dX9_back_23 rfl ?_
      refine a_iconst dX9_back_24 ?_
      refine a_iload_n 1 dX9_back_25 rfl ?_
      refine a_iadd dX9_back_26 ?_
      refine a_iconst dX9_back_27 ?_
      refine bn_s h (fun r6 σ8 e7 h => ?_)
      refine a_callVV dX9_back_28 mX9_copy KX9 rfl kv_X9_copy ks_X9_copy rfl km_RX9_311 rfl (T_X9_copy e7) (fun _ => rfl) rfl (Nat.le_of_ble_eq_true rfl) (Nat.le_of_ble_eq_true rfl) ⟨(Nat.le_of_ble_eq_true rfl), (Nat.le_of_ble_eq_true rfl)⟩ (Nat.le_of_ble_eq_true rfl) ?_
      refine a_aload_n 0 dX9_back_31 rfl ?_
      refine a_getR (j := 17) dX9_back_32 KX9 rfl (by decide) rfl kf_RX9_41 ?_
      refine a_iconst dX9_back_35 ?_
      refine a_iald (x' := 0) dX9_back_36 rfl (by decide) (by decide) rfl ?_
      exact a_iret dX9_back_37 rfl (p_1 h) (p_S (p_2 h))
    · skip
      refine a_bipush dX9_back_20 (by decide) ?_
      exact a_iret dX9_back_22 rfl (p_1 h) (p_S (p_2 h))
  · skip
    refine a_iconst dX9_back_9 ?_
    exact a_iret dX9_back_10 rfl (p_1 h) (p_S (p_2 h))

def X9_count (σ : sM) (a1 : Int) : Option Int := if wi a1 = 0 then some (σ 57 0) else if wi a1 = 1 then some (σ 58 0) else if wi a1 = 2 then some (σ 59 0) else if wi a1 = 3 then some (σ 60 0) else if wi a1 = 4 then some (σ 55 2) else if wi a1 = 5 then some (σ 55 36) else some (-1)
set_option maxRecDepth 100000 in
set_option maxHeartbeats 400000 in
theorem T_X9_count {G : sG} {q_0 : qT} {x_0 : List Nat} {σ : sM} {r_0 : Int} {a1 : Int}  (h : X9_count σ a1 = some r_0) : aM G yX9_count cX9_count 2 (some .int) 0 0 0 [.ref (gB G + 55), vI a1] (mkSh q_0 x_0, σ) (r_0, (mkSh q_0 x_0, σ)) := by
  unfold X9_count at h
  refine aM_of (by decide) (Nat.le_of_ble_eq_true rfl) ?_
  show aW G cX9_count RX9 "count" 2 (some .int) _ _ aX 0 0 _ [(0, .ref (gB G + 55)), (1, vI a1)] 0 []
  refine a_iload_n 1 dX9_count_0 rfl ?_
  refine a_if h (fun c1 h => ?_) (fun c1 h => ?_)
  · skip
    refine a_tsIn (off := 39) 40 dX9_count_1 c1 (by decide) (by decide) (by decide) ?_
    refine a_aload_n 0 dX9_count_40 rfl ?_
    refine a_getR (j := 3) dX9_count_41 KX9 rfl (by decide) rfl kf_RX9_13 ?_
    refine a_iconst dX9_count_44 ?_
    refine a_iald (x' := 0) dX9_count_45 rfl (by decide) (by decide) rfl ?_
    exact a_iret dX9_count_46 rfl (s_inj h) rfl
  · skip
    refine a_if h (fun c2 h => ?_) (fun c2 h => ?_)
    · skip
      refine a_tsIn (off := 46) 47 dX9_count_1 c2 (by decide) (by decide) (by decide) ?_
      refine a_aload_n 0 dX9_count_47 rfl ?_
      refine a_getR (j := 4) dX9_count_48 KX9 rfl (by decide) rfl kf_RX9_17 ?_
      refine a_iconst dX9_count_51 ?_
      refine a_iald (x' := 0) dX9_count_52 rfl (by decide) (by decide) rfl ?_
      exact a_iret dX9_count_53 rfl (s_inj h) rfl
    · skip
      refine a_if h (fun c3 h => ?_) (fun c3 h => ?_)
      · skip
        refine a_tsIn (off := 53) 54 dX9_count_1 c3 (by decide) (by decide) (by decide) ?_
        refine a_aload_n 0 dX9_count_54 rfl ?_
        refine a_getR (j := 5) dX9_count_55 KX9 rfl (by decide) rfl kf_RX9_20 ?_
        refine a_iconst dX9_count_58 ?_
        refine a_iald (x' := 0) dX9_count_59 rfl (by decide) (by decide) rfl ?_
        exact a_iret dX9_count_60 rfl (s_inj h) rfl
      · skip
        refine a_if h (fun c4 h => ?_) (fun c4 h => ?_)
        · skip
          refine a_tsIn (off := 60) 61 dX9_count_1 c4 (by decide) (by decide) (by decide) ?_
          refine a_aload_n 0 dX9_count_61 rfl ?_
          refine a_getR (j := 6) dX9_count_62 KX9 rfl (by decide) rfl kf_RX9_23 ?_
          refine a_iconst dX9_count_65 ?_
          refine a_iald (x' := 0) dX9_count_66 rfl (by decide) (by decide) rfl ?_
          exact a_iret dX9_count_67 rfl (s_inj h) rfl
        · skip
          refine a_if h (fun c5 h => ?_) (fun c5 h => ?_)
          · skip
            refine a_tsIn (off := 67) 68 dX9_count_1 c5 (by decide) (by decide) (by decide) ?_
            refine a_aload_n 0 dX9_count_68 rfl ?_
            refine a_getI (j := 2) dX9_count_69 KX9 rfl (by decide) rfl kf_RX9_107 ?_
            exact a_iret dX9_count_72 rfl (s_inj h) rfl
          · skip
            refine a_if h (fun c6 h => ?_) (fun c6 h => ?_)
            · skip
              refine a_tsIn (off := 72) 73 dX9_count_1 c6 (by decide) (by decide) (by decide) ?_
              refine a_aload_n 0 dX9_count_73 rfl ?_
              refine a_getI (j := 36) dX9_count_74 KX9 rfl (by decide) rfl kf_RX9_289 ?_
              exact a_iret dX9_count_77 rfl (s_inj h) rfl
            · skip
              refine a_tsOut (v := wi a1) 78 dX9_count_1 rfl (by omega) (by decide) ?_
              refine a_iconst dX9_count_78 ?_
              exact a_iret dX9_count_79 rfl (s_inj h) rfl

def X9_trace (σ : sM) : Option Int := some (σ 55 0)
set_option maxRecDepth 100000 in
set_option maxHeartbeats 400000 in
theorem T_X9_trace {G : sG} {q_0 : qT} {x_0 : List Nat} {σ : sM} {r_0 : Int}  (h : X9_trace σ = some r_0) : aM G yX9_trace cX9_trace 1 (some .long) 0 0 0 [.ref (gB G + 55)] (mkSh q_0 x_0, σ) (r_0, (mkSh q_0 x_0, σ)) := by
  unfold X9_trace at h
  refine aM_of (by decide) (Nat.le_of_ble_eq_true rfl) ?_
  show aW G cX9_trace RX9 "trace" 1 (some .long) _ _ aX 0 0 _ [(0, .ref (gB G + 55))] 0 []
  refine a_aload_n 0 dX9_trace_0 rfl ?_
  refine a_getL (j := 0) dX9_trace_1 KX9 rfl (by decide) rfl kf_RX9_297 ?_
  exact a_lret dX9_trace_4 rfl (s_inj h) rfl

def J7_fill_53178 (F : Nat) (o0 o0n : Nat) (σ : sM) (a1 : Int) : Option (Int × sM) := lp (fun K2 (q1 : sM × Int) => if wi (o0n : Int) ≤ wi q1.2 then some (0, q1.1) else if 0 ≤ wi q1.2 ∧ wi q1.2 < o0n then K2 ((sU q1.1 o0 (wi q1.2).toNat a1), q1.2 + 1) else none) F (σ, 0)
set_option maxRecDepth 100000 in
set_option maxHeartbeats 400000 in
theorem T_J7_fill_53178 {G : sG} {q_0 : qT} {x_0 : List Nat} {σ s_0 : sM} {r_0 : Int} {a1 : Int} {o0 o0n : Nat} {F : Nat} (h_o0 : (mkSh q_0 x_0)[o0]? = some (.inr (.int, o0n, gN))) (h : J7_fill_53178 F o0 o0n σ a1 = some (r_0, s_0)) : aM G yJ7_fill_53178 cJ7_fill_53178 4 none 0 0 0 [.ref (gB G + o0), vI a1] (mkSh q_0 x_0, σ) (r_0, (mkSh q_0 x_0, s_0)) := by
  unfold J7_fill_53178 at h
  refine aM_of (by decide) (Nat.le_of_ble_eq_true rfl) ?_
  show aW G cJ7_fill_53178 RJ7 "fill" 4 none _ _ aX 0 0 _ [(0, .ref (gB G + o0)), (1, vI a1)] 0 []
  refine a_iconst dJ7_fill_53178_0 ?_
  refine a_istore_n (L' := [(2, vI 0), (0, .ref (gB G + o0)), (1, vI a1)]) dJ7_fill_53178_1 (by decide) rfl ?_
  refine a_aload_n 1 dJ7_fill_53178_2 rfl ?_
  refine a_alen dJ7_fill_53178_3 h_o0 ?_
  refine a_istore_n (L' := [(3, vI (o0n : Int)), (2, vI 0), (0, .ref (gB G + o0)), (1, vI a1)]) dJ7_fill_53178_4 (by decide) rfl ?_
  refine a_sub (L' := [(0, .ref (gB G + o0)), (1, vI a1), (2, vI 0), (3, vI (o0n : Int))]) [2, 3, 1, 0] rfl (lp_s (x := (σ, 0)) (fun q1 : sM × Int => aW G cJ7_fill_53178 RJ7 "fill" 4 none (sR 0 0 0) (aQ G none 0 0 (r_0, (mkSh q_0 x_0, s_0))) aX 0 0 (mkSh q_0 x_0, q1.1) [(0, .ref (gB G + o0)), (1, vI a1), (2, vI q1.2), (3, vI (o0n : Int))] 5 []) h (fun K2 hK2 q1 h => ?_))
  refine a_iload_n 2 dJ7_fill_53178_5 rfl ?_
  refine a_iload_n 3 dJ7_fill_53178_6 rfl ?_
  refine a_icmp_ge 20 dJ7_fill_53178_7 (by decide) rfl rfl h (fun c3 h => ?_) (fun c3 h => ?_)
  · skip
    exact a_vret dJ7_fill_53178_20 rfl (p_S (p_2 h))
  · skip
    refine a_aload_n 0 dJ7_fill_53178_10 rfl ?_
    refine a_iload_n 2 dJ7_fill_53178_11 rfl ?_
    refine a_iload_n 1 dJ7_fill_53178_12 rfl ?_
    refine a_gd h (fun c4 h => ?_)
    refine a_iast (x' := wi q1.2) dJ7_fill_53178_13 h_o0 rfl c4 rfl ?_
    refine a_iinc (L' := [(2, vI (q1.2 + 1)), (0, .ref (gB G + o0)), (1, vI a1), (3, vI (o0n : Int))]) 2 dJ7_fill_53178_14 rfl (by decide) rfl ?_
    refine a_goto 5 dJ7_fill_53178_17 (by decide) ?_
    have hh := hK2 _ h
    exact a_sub [1, 2, 0, 3] rfl hh

def X0_tellMeansOfCut (F : Nat) (σ : sM) (a1 a2 a3 : Int) : Option (Int × sM) := bp (X1_sortOf σ a1) (fun r1 => bn (X5_becomeLike 40 38 σ) (fun r3 σ5 => lp (fun K7 (q6 : sM × Int) => if wi (q6.1 2 7) ≤ wi q6.2 then some (0, q6.1) else bp (X0_meanPlace q6.1 a1 a2 q6.2) (fun r9 => bp (X5_total 40 q6.1) (fun r11 => jn (fun q13 : sM => jn (fun q15 : sM => K7 (q15, q6.2 + 1)) (fun K16 => if wi a3 = 0 then K16 q13 else bn (X5_weekGoesBy F 40 q13 r1 1 q6.2) (fun r18 σ20 => K16 σ20))) (fun K14 => if wi r9 < 0 then K14 q6.1 else if 192 ≤ wi r9 then K14 q6.1 else if wi (q_lcmp r11 0) ≤ 0 then K14 q6.1 else bp (X5_allGood F 40 q6.1 r1) (fun r24 => if ¬ wl r11 = 0 then if 0 ≤ wi r9 ∧ wi r9 < 192 then K14 (sU q6.1 42 (wi r9).toNat (q_ldiv (1000 * r24) r11)) else none else none))))) F (σ5, a2)))
set_option maxRecDepth 100000 in
set_option maxHeartbeats 400000 in
theorem T_X0_tellMeansOfCut {G : sG} {q_0 : qT} {x_0 : List Nat} {σ s_0 : sM} {r_0 : Int} {a1 a2 a3 : Int} {F : Nat}  (h : X0_tellMeansOfCut F σ a1 a2 a3 = some (r_0, s_0)) : aM G yX0_tellMeansOfCut cX0_tellMeansOfCut 9 none 3 0 0 [.ref (gB G + 37), vI a1, vI a2, vI a3] (mkSh q_0 x_0, σ) (r_0, (mkSh q_0 x_0, s_0)) := by
  unfold X0_tellMeansOfCut at h
  refine aM_of (by decide) (Nat.le_of_ble_eq_true rfl) ?_
  show aW G cX0_tellMeansOfCut RX0 "tellMeansOfCut" 9 none _ _ aX 0 0 _ [(0, .ref (gB G + 37)), (1, vI a1), (2, vI a2), (3, vI a3)] 0 []
  refine a_aload_n 0 dX0_tellMeansOfCut_0 rfl ?_
  refine a_getR (j := 0) dX0_tellMeansOfCut_1 KX0 rfl (by decide) rfl kf_RX0_63 ?_
  refine a_iload_n 1 dX0_tellMeansOfCut_4 rfl ?_
  refine bp_s h (fun r1 e2 h => ?_)
  refine a_callVI dX0_tellMeansOfCut_5 mX1_sortOf KX1 rfl kv_X1_sortOf ks_X1_sortOf rfl km_RX0_137 rfl (T_X1_sortOf e2) (fun _ => rfl) rfl (Nat.le_of_ble_eq_true rfl) (Nat.le_of_ble_eq_true rfl) ⟨(Nat.le_of_ble_eq_true rfl), (Nat.le_of_ble_eq_true rfl)⟩ (Nat.le_of_ble_eq_true rfl) ?_
  refine a_istore (L' := [(4, vI r1), (0, .ref (gB G + 37)), (1, vI a1), (2, vI a2), (3, vI a3)]) dX0_tellMeansOfCut_8 (by decide) rfl ?_
  refine a_aload_n 1 dX0_tellMeansOfCut_10 rfl ?_
  refine a_getR (j := 2) dX0_tellMeansOfCut_11 KX0 rfl (by decide) rfl kf_RX0_18 ?_
  refine a_aload_n 1 dX0_tellMeansOfCut_14 rfl ?_
  refine a_getR (j := 1) dX0_tellMeansOfCut_15 KX0 rfl (by decide) rfl kf_RX0_12 ?_
  refine bn_s h (fun r3 σ5 e4 h => ?_)
  refine a_callVV dX0_tellMeansOfCut_18 mX5_becomeLike KX5 rfl kv_X5_becomeLike ks_X5_becomeLike rfl km_RX0_145 rfl (T_X5_becomeLike rfl rfl rfl rfl e4) (fun _ => rfl) rfl (Nat.le_of_ble_eq_true rfl) (Nat.le_of_ble_eq_true rfl) ⟨(Nat.le_of_ble_eq_true rfl), (Nat.le_of_ble_eq_true rfl)⟩ (Nat.le_of_ble_eq_true rfl) ?_
  refine a_iload_n 3 dX0_tellMeansOfCut_21 rfl ?_
  refine a_istore (L' := [(5, vI a2), (4, vI r1), (0, .ref (gB G + 37)), (1, vI a1), (2, vI a2), (3, vI a3)]) dX0_tellMeansOfCut_22 (by decide) rfl ?_
  refine a_sub (L' := [(0, .ref (gB G + 37)), (1, vI a1), (2, vI a2), (3, vI a3), (4, vI r1), (5, vI a2)]) [2, 3, 4, 5, 1, 0] rfl (lp_s (x := (σ5, a2)) (fun q6 : sM × Int => aW G cX0_tellMeansOfCut RX0 "tellMeansOfCut" 9 none (sR 3 0 0) (aQ G none 0 0 (r_0, (mkSh q_0 x_0, s_0))) aX 0 0 (mkSh q_0 x_0, q6.1) [(0, .ref (gB G + 37)), (1, vI a1), (2, vI a2), (3, vI a3), (4, vI r1), (5, vI q6.2)] 24 []) h (fun K7 hK7 q6 h => ?_))
  refine a_iload 5 dX0_tellMeansOfCut_24 rfl ?_
  refine a_aload_n 0 dX0_tellMeansOfCut_26 rfl ?_
  refine a_getR (j := 0) dX0_tellMeansOfCut_27 KX0 rfl (by decide) rfl kf_RX0_63 ?_
  refine a_getIN (j := 7) dX0_tellMeansOfCut_30 KX1 rfl (by decide) rfl kf_RX0_81 ?_
  refine a_icmp_ge 130 dX0_tellMeansOfCut_33 (by decide) rfl rfl h (fun c8 h => ?_) (fun c8 h => ?_)
  · skip
    exact a_vret dX0_tellMeansOfCut_130 rfl (p_S (p_2 h))
  · skip
    refine a_iload_n 1 dX0_tellMeansOfCut_36 rfl ?_
    refine a_iload_n 2 dX0_tellMeansOfCut_37 rfl ?_
    refine a_iload 5 dX0_tellMeansOfCut_38 rfl ?_
    refine bp_s h (fun r9 e10 h => ?_)
    refine a_callSI dX0_tellMeansOfCut_40 mX0_meanPlace kv_X0_meanPlace km_RX0_112 rfl (T_X0_meanPlace e10) (fun _ => rfl) rfl (Nat.le_of_ble_eq_true rfl) (Nat.le_of_ble_eq_true rfl) ⟨(Nat.le_of_ble_eq_true rfl), (Nat.le_of_ble_eq_true rfl)⟩ (Nat.le_of_ble_eq_true rfl) ?_
    refine a_istore (L' := [(6, vI r9), (0, .ref (gB G + 37)), (1, vI a1), (2, vI a2), (3, vI a3), (4, vI r1), (5, vI q6.2)]) dX0_tellMeansOfCut_43 (by decide) rfl ?_
    refine a_aload_n 1 dX0_tellMeansOfCut_45 rfl ?_
    refine a_getR (j := 2) dX0_tellMeansOfCut_46 KX0 rfl (by decide) rfl kf_RX0_18 ?_
    refine bp_s h (fun r11 e12 h => ?_)
    refine a_callVL dX0_tellMeansOfCut_49 mX5_total KX5 rfl kv_X5_total ks_X5_total rfl km_RX0_149 rfl (T_X5_total rfl rfl e12) (fun _ => rfl) rfl (Nat.le_of_ble_eq_true rfl) (Nat.le_of_ble_eq_true rfl) ⟨(Nat.le_of_ble_eq_true rfl), (Nat.le_of_ble_eq_true rfl)⟩ (Nat.le_of_ble_eq_true rfl) ?_
    refine a_lstore (L' := [(7, vL r11), (6, vI r9), (0, .ref (gB G + 37)), (1, vI a1), (2, vI a2), (3, vI a3), (4, vI r1), (5, vI q6.2)]) dX0_tellMeansOfCut_52 (by decide) rfl ?_
    refine a_iload 1 dX0_tellMeansOfCut_54 rfl ?_
    refine jn_s (fun q13 : sM => aW G cX0_tellMeansOfCut RX0 "tellMeansOfCut" 9 none (sR 3 0 0) (aQ G none 0 0 (r_0, (mkSh q_0 x_0, s_0))) aX 0 0 (mkSh q_0 x_0, q13) [(0, .ref (gB G + 37)), (1, vI a1), (2, vI a2), (3, vI a3), (4, vI r1), (5, vI q6.2)] 104 []) h (fun q13 h => ?_) (fun K14 hK14 h => ?_)
    · skip
      refine a_iload_n 3 dX0_tellMeansOfCut_104 rfl ?_
      refine jn_s (fun q15 : sM => aW G cX0_tellMeansOfCut RX0 "tellMeansOfCut" 9 none (sR 3 0 0) (aQ G none 0 0 (r_0, (mkSh q_0 x_0, s_0))) aX 0 0 (mkSh q_0 x_0, q15) [(0, .ref (gB G + 37)), (1, vI a1), (2, vI a2), (3, vI a3), (4, vI r1), (5, vI q6.2)] 124 []) h (fun q15 h => ?_) (fun K16 hK16 h => ?_)
      · skip
        refine a_iinc (L' := [(5, vI (q6.2 + 1)), (0, .ref (gB G + 37)), (1, vI a1), (2, vI a2), (3, vI a3), (4, vI r1)]) 5 dX0_tellMeansOfCut_124 rfl (by decide) rfl ?_
        refine a_goto 24 dX0_tellMeansOfCut_127 (by decide) ?_
        have hh := hK7 _ h
        exact a_sub [1, 2, 3, 4, 5, 0] rfl hh
      · skip
        refine a_if_eq 124 dX0_tellMeansOfCut_105 (by decide) rfl h (fun c17 h => ?_) (fun c17 h => ?_)
        · skip
          have hh := hK16 _ h
          exact a_sub [0, 1, 2, 3, 4, 5] rfl hh
        · skip
          refine a_aload_n 0 dX0_tellMeansOfCut_108 rfl ?_
          refine a_getR (j := 2) dX0_tellMeansOfCut_109 KX0 rfl (by decide) rfl kf_RX0_18 ?_
          refine a_aload_n 0 dX0_tellMeansOfCut_112 rfl ?_
          refine a_getR (j := 0) dX0_tellMeansOfCut_113 KX0 rfl (by decide) rfl kf_RX0_63 ?_
          refine a_iload 4 dX0_tellMeansOfCut_116 rfl ?_
          refine a_iconst dX0_tellMeansOfCut_118 ?_
          refine a_iload 5 dX0_tellMeansOfCut_119 rfl ?_
          refine bn_s h (fun r18 σ20 e19 h => ?_)
          refine a_callVV dX0_tellMeansOfCut_121 mX5_weekGoesBy KX5 rfl kv_X5_weekGoesBy ks_X5_weekGoesBy rfl km_RX0_141 rfl (T_X5_weekGoesBy rfl rfl e19) (fun _ => rfl) rfl (Nat.le_of_ble_eq_true rfl) (Nat.le_of_ble_eq_true rfl) ⟨(Nat.le_of_ble_eq_true rfl), (Nat.le_of_ble_eq_true rfl)⟩ (Nat.le_of_ble_eq_true rfl) ?_
          have hh := hK16 _ h
          exact a_sub [0, 1, 2, 3, 4, 5] rfl hh
    · skip
      refine a_if_lt 104 dX0_tellMeansOfCut_56 (by decide) rfl h (fun c21 h => ?_) (fun c21 h => ?_)
      · skip
        have hh := hK14 _ h
        exact a_sub [2, 3, 4, 5, 6, 7] rfl hh
      · skip
        refine a_iload 1 dX0_tellMeansOfCut_59 rfl ?_
        refine a_aload_n 2 dX0_tellMeansOfCut_61 rfl ?_
        refine a_getR (j := 3) dX0_tellMeansOfCut_62 KX0 rfl (by decide) rfl kf_RX0_21 ?_
        refine a_alen dX0_tellMeansOfCut_65 rfl ?_
        refine a_icmp_ge 104 dX0_tellMeansOfCut_66 (by decide) rfl (by decide) h (fun c22 h => ?_) (fun c22 h => ?_)
        · skip
          have hh := hK14 _ h
          exact a_sub [2, 3, 4, 5, 6, 7] rfl hh
        · skip
          refine a_lload 0 dX0_tellMeansOfCut_69 rfl ?_
          refine a_lconst (z := 0) dX0_tellMeansOfCut_71 (by decide) ?_
          refine a_lcmp dX0_tellMeansOfCut_72 ?_
          refine a_if_le 104 dX0_tellMeansOfCut_73 (by decide) rfl h (fun c23 h => ?_) (fun c23 h => ?_)
          · skip
            have hh := hK14 _ h
            exact a_sub [2, 3, 4, 5, 6, 7] rfl hh
          · skip
            refine a_aload_n 2 dX0_tellMeansOfCut_76 rfl ?_
            refine a_getR (j := 3) dX0_tellMeansOfCut_77 KX0 rfl (by decide) rfl kf_RX0_21 ?_
            refine a_iload 1 dX0_tellMeansOfCut_80 rfl ?_
            refine a_ldc2 (z := 1000) dX0_tellMeansOfCut_82 kc_RX0_153 (by decide) ?_
            refine a_aload_n 2 dX0_tellMeansOfCut_85 rfl ?_
            refine a_getR (j := 2) dX0_tellMeansOfCut_86 KX0 rfl (by decide) rfl kf_RX0_18 ?_
            refine a_aload_n 2 dX0_tellMeansOfCut_89 rfl ?_
            refine a_getR (j := 0) dX0_tellMeansOfCut_90 KX0 rfl (by decide) rfl kf_RX0_63 ?_
            refine a_iload 6 dX0_tellMeansOfCut_93 rfl ?_
            refine bp_s h (fun r24 e25 h => ?_)
            refine a_callVL dX0_tellMeansOfCut_95 mX5_allGood KX5 rfl kv_X5_allGood ks_X5_allGood rfl km_RX0_155 rfl (T_X5_allGood rfl rfl e25) (fun _ => rfl) rfl (Nat.le_of_ble_eq_true rfl) (Nat.le_of_ble_eq_true rfl) ⟨(Nat.le_of_ble_eq_true rfl), (Nat.le_of_ble_eq_true rfl)⟩ (Nat.le_of_ble_eq_true rfl) ?_
            refine a_lmul dX0_tellMeansOfCut_98 ?_
            refine a_lload 0 dX0_tellMeansOfCut_99 rfl ?_
            refine a_gd h (fun c26 h => ?_)
            refine a_ldiv dX0_tellMeansOfCut_101 (nz_l c26) ?_
            refine a_l2i dX0_tellMeansOfCut_102 ?_
            refine a_gd h (fun c27 h => ?_)
            refine a_iast (x' := wi r9) dX0_tellMeansOfCut_103 rfl rfl c27 rfl ?_
            have hh := hK14 _ h
            exact a_sub [2, 3, 4, 5, 6, 7] rfl hh

def X0_tellMost (F : Nat) (σ : sM) : Option (Int × sM) := bn (J7_fill_53178 F 43 9 σ 0) (fun r1 σ3 => lp (fun K5 (q4 : sM × Int) => if wi q4.2 < 0 then some (0, q4.1) else lp (fun K8 (q7 : Int × Int) => if wi q4.2 < wi q7.2 then if 0 ≤ wi (q4.2 + 1) ∧ wi (q4.2 + 1) < 9 then if 0 ≤ wi q4.2 ∧ wi q4.2 < 9 then K5 ((sU q4.1 43 (wi q4.2).toNat ((q4.1 43 (wi (q4.2 + 1)).toNat) + q7.1)), q4.2 + (-1)) else none else none else lp (fun K13 (q12 : Int × Int) => if 3 ≤ wi q12.2 then K8 (q12.1, q7.2 + 1) else bp (X0_meanAt q4.1 q12.2 q7.2 q4.2) (fun r15 => K13 ((if wi q12.1 < wi r15 then r15 else q12.1), q12.2 + 1))) F (q7.1, 0)) F (0, 0)) F (σ3, 7))
set_option maxRecDepth 100000 in
set_option maxHeartbeats 400000 in
theorem T_X0_tellMost {G : sG} {q_0 : qT} {x_0 : List Nat} {σ s_0 : sM} {r_0 : Int} {F : Nat}  (h : X0_tellMost F σ = some (r_0, s_0)) : aM G yX0_tellMost cX0_tellMost 5 none 2 0 0 [.ref (gB G + 37)] (mkSh q_0 x_0, σ) (r_0, (mkSh q_0 x_0, s_0)) := by
  unfold X0_tellMost at h
  refine aM_of (by decide) (Nat.le_of_ble_eq_true rfl) ?_
  show aW G cX0_tellMost RX0 "tellMost" 5 none _ _ aX 0 0 _ [(0, .ref (gB G + 37))] 0 []
  refine a_aload_n 0 dX0_tellMost_0 rfl ?_
  refine a_getR (j := 4) dX0_tellMost_1 KX0 rfl (by decide) rfl kf_RX0_25 ?_
  refine a_iconst dX0_tellMost_4 ?_
  refine bn_s h (fun r1 σ3 e2 h => ?_)
  refine a_callSV dX0_tellMost_5 mJ7_fill_53178 kv_J7_fill_53178 km_RX0_92 rfl (T_J7_fill_53178 rfl e2) (fun _ => rfl) rfl (Nat.le_of_ble_eq_true rfl) (Nat.le_of_ble_eq_true rfl) ⟨(Nat.le_of_ble_eq_true rfl), (Nat.le_of_ble_eq_true rfl)⟩ (Nat.le_of_ble_eq_true rfl) ?_
  refine a_bipush dX0_tellMost_8 (by decide) ?_
  refine a_istore_n (L' := [(1, vI 7), (0, .ref (gB G + 37))]) dX0_tellMost_10 (by decide) rfl ?_
  refine a_sub (L' := [(0, .ref (gB G + 37)), (1, vI 7)]) [1, 0] rfl (lp_s (x := (σ3, 7)) (fun q4 : sM × Int => aW G cX0_tellMost RX0 "tellMost" 5 none (sR 2 0 0) (aQ G none 0 0 (r_0, (mkSh q_0 x_0, s_0))) aX 0 0 (mkSh q_0 x_0, q4.1) [(0, .ref (gB G + 37)), (1, vI q4.2)] 11 []) h (fun K5 hK5 q4 h => ?_))
  refine a_iload_n 1 dX0_tellMost_11 rfl ?_
  refine a_if_lt 80 dX0_tellMost_12 (by decide) rfl h (fun c6 h => ?_) (fun c6 h => ?_)
  · skip
    exact a_vret dX0_tellMost_80 rfl (p_S (p_2 h))
  · skip
    refine a_iconst dX0_tellMost_15 ?_
    refine a_istore_n (L' := [(2, vI 0), (0, .ref (gB G + 37)), (1, vI q4.2)]) dX0_tellMost_16 (by decide) rfl ?_
    refine a_iconst dX0_tellMost_17 ?_
    refine a_istore_n (L' := [(3, vI 0), (2, vI 0), (0, .ref (gB G + 37)), (1, vI q4.2)]) dX0_tellMost_18 (by decide) rfl ?_
    refine a_sub (L' := [(0, .ref (gB G + 37)), (1, vI q4.2), (2, vI 0), (3, vI 0)]) [2, 3, 1, 0] rfl (lp_s (x := (0, 0)) (fun q7 : Int × Int => aW G cX0_tellMost RX0 "tellMost" 5 none (sR 2 0 0) (aQ G none 0 0 (r_0, (mkSh q_0 x_0, s_0))) aX 0 0 (mkSh q_0 x_0, q4.1) [(0, .ref (gB G + 37)), (1, vI q4.2), (2, vI q7.1), (3, vI q7.2)] 19 []) h (fun K8 hK8 q7 h => ?_))
    refine a_iload_n 3 dX0_tellMost_19 rfl ?_
    refine a_iload_n 1 dX0_tellMost_20 rfl ?_
    refine a_icmp_gt 58 dX0_tellMost_21 (by decide) rfl rfl h (fun c9 h => ?_) (fun c9 h => ?_)
    · skip
      refine a_aload_n 0 dX0_tellMost_58 rfl ?_
      refine a_getR (j := 4) dX0_tellMost_59 KX0 rfl (by decide) rfl kf_RX0_25 ?_
      refine a_iload_n 1 dX0_tellMost_62 rfl ?_
      refine a_aload_n 0 dX0_tellMost_63 rfl ?_
      refine a_getR (j := 4) dX0_tellMost_64 KX0 rfl (by decide) rfl kf_RX0_25 ?_
      refine a_iload_n 1 dX0_tellMost_67 rfl ?_
      refine a_iconst dX0_tellMost_68 ?_
      refine a_iadd dX0_tellMost_69 ?_
      refine a_gd h (fun c10 h => ?_)
      refine a_iald (x' := wi (q4.2 + 1)) dX0_tellMost_70 rfl rfl c10 rfl ?_
      refine a_iload_n 2 dX0_tellMost_71 rfl ?_
      refine a_iadd dX0_tellMost_72 ?_
      refine a_gd h (fun c11 h => ?_)
      refine a_iast (x' := wi q4.2) dX0_tellMost_73 rfl rfl c11 rfl ?_
      refine a_iinc (L' := [(1, vI (q4.2 + (-1))), (0, .ref (gB G + 37)), (2, vI q7.1), (3, vI q7.2)]) 1 dX0_tellMost_74 rfl (by decide) rfl ?_
      refine a_goto 11 dX0_tellMost_77 (by decide) ?_
      have hh := hK5 _ h
      exact a_sub [1, 0] rfl hh
    · skip
      refine a_iconst dX0_tellMost_24 ?_
      refine a_istore (L' := [(4, vI 0), (0, .ref (gB G + 37)), (1, vI q4.2), (2, vI q7.1), (3, vI q7.2)]) dX0_tellMost_25 (by decide) rfl ?_
      refine a_sub (L' := [(0, .ref (gB G + 37)), (1, vI q4.2), (2, vI q7.1), (3, vI q7.2), (4, vI 0)]) [1, 2, 3, 4, 0] rfl (lp_s (x := (q7.1, 0)) (fun q12 : Int × Int => aW G cX0_tellMost RX0 "tellMost" 5 none (sR 2 0 0) (aQ G none 0 0 (r_0, (mkSh q_0 x_0, s_0))) aX 0 0 (mkSh q_0 x_0, q4.1) [(0, .ref (gB G + 37)), (1, vI q4.2), (2, vI q12.1), (3, vI q7.2), (4, vI q12.2)] 27 []) h (fun K13 hK13 q12 h => ?_))
      refine a_iload 4 dX0_tellMost_27 rfl ?_
      refine a_iconst dX0_tellMost_29 ?_
      refine a_icmp_ge 52 dX0_tellMost_30 (by decide) rfl (by decide) h (fun c14 h => ?_) (fun c14 h => ?_)
      · skip
        refine a_iinc (L' := [(3, vI (q7.2 + 1)), (0, .ref (gB G + 37)), (1, vI q4.2), (2, vI q12.1), (4, vI q12.2)]) 3 dX0_tellMost_52 rfl (by decide) rfl ?_
        refine a_goto 19 dX0_tellMost_55 (by decide) ?_
        have hh := hK8 _ h
        exact a_sub [1, 2, 3, 0] rfl hh
      · skip
        refine a_iload_n 2 dX0_tellMost_33 rfl ?_
        refine a_aload_n 0 dX0_tellMost_34 rfl ?_
        refine a_iload 4 dX0_tellMost_35 rfl ?_
        refine a_iload_n 3 dX0_tellMost_37 rfl ?_
        refine a_iload_n 1 dX0_tellMost_38 rfl ?_
        refine bp_s h (fun r15 e16 h => ?_)
        refine a_callVI dX0_tellMost_39 mX0_meanAt KX0 rfl kv_X0_meanAt ks_X0_meanAt rfl km_RX0_159 rfl (T_X0_meanAt e16) (fun _ => rfl) rfl (Nat.le_of_ble_eq_true rfl) (Nat.le_of_ble_eq_true rfl) ⟨(Nat.le_of_ble_eq_true rfl), (Nat.le_of_ble_eq_true rfl)⟩ (Nat.le_of_ble_eq_true rfl) ?_
        refine a_mmax dX0_tellMost_42 km_RX0_86 kv_J9_max_7cf53 ki_RJ9 kx_max ⟨Nat.le_of_ble_eq_true rfl, Nat.le_of_ble_eq_true rfl⟩ ⟨Nat.zero_le _, Nat.zero_le _⟩ (Nat.le_of_ble_eq_true rfl) ?_
        refine a_istore_n (L' := [(2, vI (if wi q12.1 < wi r15 then r15 else q12.1)), (0, .ref (gB G + 37)), (1, vI q4.2), (3, vI q7.2), (4, vI q12.2)]) dX0_tellMost_45 (by decide) rfl ?_
        refine a_iinc (L' := [(4, vI (q12.2 + 1)), (2, vI (if wi q12.1 < wi r15 then r15 else q12.1)), (0, .ref (gB G + 37)), (1, vI q4.2), (3, vI q7.2)]) 4 dX0_tellMost_46 rfl (by decide) rfl ?_
        refine a_goto 27 dX0_tellMost_49 (by decide) ?_
        have hh := hK13 _ h
        exact a_sub [2, 3, 1, 4, 0] rfl hh

def X1_becomeEmpty (F : Nat) (σ : sM) : Option (Int × sM) := bn (J7_fill_53178 F 19 3 (sU (sU (sU (sU σ 12 5 0) 12 6 0) 12 7 6) 12 8 3) 0) (fun r1 σ3 => bn (J7_fill_53178 F 20 8 σ3 0) (fun r4 σ6 => bn (J7_fill_53178 F 21 8 σ6 0) (fun r7 σ9 => some (0, σ9))))
set_option maxRecDepth 100000 in
set_option maxHeartbeats 400000 in
theorem T_X1_becomeEmpty {G : sG} {q_0 : qT} {x_0 : List Nat} {σ s_0 : sM} {r_0 : Int} {F : Nat}  (h : X1_becomeEmpty F σ = some (r_0, s_0)) : aM G yX1_becomeEmpty cX1_becomeEmpty 1 none 1 0 0 [.ref (gB G + 12)] (mkSh q_0 x_0, σ) (r_0, (mkSh q_0 x_0, s_0)) := by
  unfold X1_becomeEmpty at h
  refine aM_of (by decide) (Nat.le_of_ble_eq_true rfl) ?_
  show aW G cX1_becomeEmpty RX1 "becomeEmpty" 1 none _ _ aX 0 0 _ [(0, .ref (gB G + 12))] 0 []
  refine a_aload_n 0 dX1_becomeEmpty_0 rfl ?_
  refine a_iconst dX1_becomeEmpty_1 ?_
  refine a_putI (j := 5) dX1_becomeEmpty_2 KX1 rfl (by decide) rfl rfl rfl kf_RX1_29 ?_
  refine a_aload_n 0 dX1_becomeEmpty_5 rfl ?_
  refine a_iconst dX1_becomeEmpty_6 ?_
  refine a_putI (j := 6) dX1_becomeEmpty_7 KX1 rfl (by decide) rfl rfl rfl kf_RX1_33 ?_
  refine a_aload_n 0 dX1_becomeEmpty_10 rfl ?_
  refine a_bipush dX1_becomeEmpty_11 (by decide) ?_
  refine a_putI (j := 7) dX1_becomeEmpty_13 KX1 rfl (by decide) rfl rfl rfl kf_RX1_36 ?_
  refine a_aload_n 0 dX1_becomeEmpty_16 rfl ?_
  refine a_iconst dX1_becomeEmpty_17 ?_
  refine a_putI (j := 8) dX1_becomeEmpty_18 KX1 rfl (by decide) rfl rfl rfl kf_RX1_39 ?_
  refine a_aload_n 0 dX1_becomeEmpty_21 rfl ?_
  refine a_getR (j := 2) dX1_becomeEmpty_22 KX1 rfl (by decide) rfl kf_RX1_20 ?_
  refine a_iconst dX1_becomeEmpty_25 ?_
  refine bn_s h (fun r1 σ3 e2 h => ?_)
  refine a_callSV dX1_becomeEmpty_26 mJ7_fill_53178 kv_J7_fill_53178 km_RX1_42 rfl (T_J7_fill_53178 rfl e2) (fun _ => rfl) rfl (Nat.le_of_ble_eq_true rfl) (Nat.le_of_ble_eq_true rfl) ⟨(Nat.le_of_ble_eq_true rfl), (Nat.le_of_ble_eq_true rfl)⟩ (Nat.le_of_ble_eq_true rfl) ?_
  refine a_aload_n 0 dX1_becomeEmpty_29 rfl ?_
  refine a_getR (j := 3) dX1_becomeEmpty_30 KX1 rfl (by decide) rfl kf_RX1_23 ?_
  refine a_iconst dX1_becomeEmpty_33 ?_
  refine bn_s h (fun r4 σ6 e5 h => ?_)
  refine a_callSV dX1_becomeEmpty_34 mJ7_fill_53178 kv_J7_fill_53178 km_RX1_42 rfl (T_J7_fill_53178 rfl e5) (fun _ => rfl) rfl (Nat.le_of_ble_eq_true rfl) (Nat.le_of_ble_eq_true rfl) ⟨(Nat.le_of_ble_eq_true rfl), (Nat.le_of_ble_eq_true rfl)⟩ (Nat.le_of_ble_eq_true rfl) ?_
  refine a_aload_n 0 dX1_becomeEmpty_37 rfl ?_
  refine a_getR (j := 4) dX1_becomeEmpty_38 KX1 rfl (by decide) rfl kf_RX1_26 ?_
  refine a_iconst dX1_becomeEmpty_41 ?_
  refine bn_s h (fun r7 σ9 e8 h => ?_)
  refine a_callSV dX1_becomeEmpty_42 mJ7_fill_53178 kv_J7_fill_53178 km_RX1_42 rfl (T_J7_fill_53178 rfl e8) (fun _ => rfl) rfl (Nat.le_of_ble_eq_true rfl) (Nat.le_of_ble_eq_true rfl) ⟨(Nat.le_of_ble_eq_true rfl), (Nat.le_of_ble_eq_true rfl)⟩ (Nat.le_of_ble_eq_true rfl) ?_
  exact a_vret dX1_becomeEmpty_45 rfl (p_S (p_2 h))

def X1_startStand (F : Nat) (σ : sM) : Option Int := lp (fun K2 (q1 : Int × Int) => if 3 ≤ wi q1.2 then some q1.1 else bp (X1_portionsAtFirst σ q1.2) (fun r4 => bp (X8_field σ q1.2 0 r4) (fun r6 => K2 (q_or q1.1 r6, q1.2 + 1)))) F (0, 0)
set_option maxRecDepth 100000 in
set_option maxHeartbeats 400000 in
theorem T_X1_startStand {G : sG} {q_0 : qT} {x_0 : List Nat} {σ : sM} {r_0 : Int} {F : Nat}  (h : X1_startStand F σ = some r_0) : aM G yX1_startStand cX1_startStand 3 (some .int) 1 0 0 [.ref (gB G + 2)] (mkSh q_0 x_0, σ) (r_0, (mkSh q_0 x_0, σ)) := by
  unfold X1_startStand at h
  refine aM_of (by decide) (Nat.le_of_ble_eq_true rfl) ?_
  show aW G cX1_startStand RX1 "startStand" 3 (some .int) _ _ aX 0 0 _ [(0, .ref (gB G + 2))] 0 []
  refine a_iconst dX1_startStand_0 ?_
  refine a_istore_n (L' := [(1, vI 0), (0, .ref (gB G + 2))]) dX1_startStand_1 (by decide) rfl ?_
  refine a_iconst dX1_startStand_2 ?_
  refine a_istore_n (L' := [(2, vI 0), (1, vI 0), (0, .ref (gB G + 2))]) dX1_startStand_3 (by decide) rfl ?_
  refine a_sub (L' := [(0, .ref (gB G + 2)), (1, vI 0), (2, vI 0)]) [2, 1, 0] rfl (lp_s (x := (0, 0)) (fun q1 : Int × Int => aW G cX1_startStand RX1 "startStand" 3 (some .int) (sR 1 0 0) (aQ G (some .int) 0 0 (r_0, (mkSh q_0 x_0, σ))) aX 0 0 (mkSh q_0 x_0, σ) [(0, .ref (gB G + 2)), (1, vI q1.1), (2, vI q1.2)] 4 []) h (fun K2 hK2 q1 h => ?_))
  refine a_iload_n 2 dX1_startStand_4 rfl ?_
  refine a_iconst dX1_startStand_5 ?_
  refine a_icmp_ge 28 dX1_startStand_6 (by decide) rfl (by decide) h (fun c3 h => ?_) (fun c3 h => ?_)
  · skip
    refine a_iload_n 1 dX1_startStand_28 rfl ?_
    exact a_iret dX1_startStand_29 rfl (s_inj h) rfl
  · skip
    refine a_iload_n 1 dX1_startStand_9 rfl ?_
    refine a_iload_n 2 dX1_startStand_10 rfl ?_
    refine a_iconst dX1_startStand_11 ?_
    refine a_aload_n 0 dX1_startStand_12 rfl ?_
    refine a_iload_n 2 dX1_startStand_13 rfl ?_
    refine bp_s h (fun r4 e5 h => ?_)
    refine a_callVI dX1_startStand_14 mX1_portionsAtFirst KX1 rfl kv_X1_portionsAtFirst ks_X1_portionsAtFirst rfl km_RX1_54 rfl (T_X1_portionsAtFirst e5) (fun _ => rfl) rfl (Nat.le_of_ble_eq_true rfl) (Nat.le_of_ble_eq_true rfl) ⟨(Nat.le_of_ble_eq_true rfl), (Nat.le_of_ble_eq_true rfl)⟩ (Nat.le_of_ble_eq_true rfl) ?_
    refine bp_s h (fun r6 e7 h => ?_)
    refine a_callSNI dX1_startStand_17 mX8_field kv_X8_field km_RX1_58 rfl (T_X8_field e7) (fun _ => rfl) rfl (Nat.le_of_ble_eq_true rfl) (Nat.le_of_ble_eq_true rfl) ⟨(Nat.le_of_ble_eq_true rfl), (Nat.le_of_ble_eq_true rfl)⟩ (Nat.le_of_ble_eq_true rfl) ?_
    refine a_ior dX1_startStand_20 ?_
    refine a_istore_n (L' := [(1, vI (q_or q1.1 r6)), (0, .ref (gB G + 2)), (2, vI q1.2)]) dX1_startStand_21 (by decide) rfl ?_
    refine a_iinc (L' := [(2, vI (q1.2 + 1)), (1, vI (q_or q1.1 r6)), (0, .ref (gB G + 2))]) 2 dX1_startStand_22 rfl (by decide) rfl ?_
    refine a_goto 4 dX1_startStand_25 (by decide) ?_
    have hh := hK2 _ h
    exact a_sub [2, 1, 0] rfl hh

def X1_isWhole (σ : sM) (a1 a2 : Int) : Option Int := if wi a2 < 0 then some 0 else if 3 ≤ wi a2 then some 0 else bp (X8_portionsOf σ a1 a2) (fun r3 => if 0 ≤ wi a2 ∧ wi a2 < 3 then if ¬ wi r3 = wi (σ 9 (wi a2).toNat) then some 0 else some 1 else none)
set_option maxRecDepth 100000 in
set_option maxHeartbeats 400000 in
theorem T_X1_isWhole {G : sG} {q_0 : qT} {x_0 : List Nat} {σ : sM} {r_0 : Int} {a1 a2 : Int}  (h : X1_isWhole σ a1 a2 = some r_0) : aM G yX1_isWhole cX1_isWhole 3 (some .boolean) 1 0 0 [.ref (gB G + 2), vI a1, vI a2] (mkSh q_0 x_0, σ) (r_0, (mkSh q_0 x_0, σ)) := by
  unfold X1_isWhole at h
  refine aM_of (by decide) (Nat.le_of_ble_eq_true rfl) ?_
  show aW G cX1_isWhole RX1 "isWhole" 3 (some .boolean) _ _ aX 0 0 _ [(0, .ref (gB G + 2)), (1, vI a1), (2, vI a2)] 0 []
  refine a_iload_n 2 dX1_isWhole_0 rfl ?_
  refine a_if_lt 27 dX1_isWhole_1 (by decide) rfl h (fun c1 h => ?_) (fun c1 h => ?_)
  · skip
    refine a_iconst dX1_isWhole_27 ?_
    exact a_zret dX1_isWhole_28 rfl (by decide) (s_inj h) rfl
  · skip
    refine a_iload_n 2 dX1_isWhole_4 rfl ?_
    refine a_iconst dX1_isWhole_5 ?_
    refine a_icmp_ge 27 dX1_isWhole_6 (by decide) rfl (by decide) h (fun c2 h => ?_) (fun c2 h => ?_)
    · skip
      refine a_iconst dX1_isWhole_27 ?_
      exact a_zret dX1_isWhole_28 rfl (by decide) (s_inj h) rfl
    · skip
      refine a_iload_n 1 dX1_isWhole_9 rfl ?_
      refine a_iload_n 2 dX1_isWhole_10 rfl ?_
      refine bp_s h (fun r3 e4 h => ?_)
      refine a_callSNI dX1_isWhole_11 mX8_portionsOf kv_X8_portionsOf km_RX1_62 rfl (T_X8_portionsOf e4) (fun _ => rfl) rfl (Nat.le_of_ble_eq_true rfl) (Nat.le_of_ble_eq_true rfl) ⟨(Nat.le_of_ble_eq_true rfl), (Nat.le_of_ble_eq_true rfl)⟩ (Nat.le_of_ble_eq_true rfl) ?_
      refine a_aload_n 0 dX1_isWhole_14 rfl ?_
      refine a_getR (j := 2) dX1_isWhole_15 KX1 rfl (by decide) rfl kf_RX1_20 ?_
      refine a_iload_n 2 dX1_isWhole_18 rfl ?_
      refine a_gd h (fun c5 h => ?_)
      refine a_iald (x' := wi a2) dX1_isWhole_19 rfl rfl c5 rfl ?_
      refine a_icmp_ne 27 dX1_isWhole_20 (by decide) rfl rfl h (fun c6 h => ?_) (fun c6 h => ?_)
      · skip
        refine a_iconst dX1_isWhole_27 ?_
        exact a_zret dX1_isWhole_28 rfl (by decide) (s_inj h) rfl
      · skip
        refine a_iconst dX1_isWhole_23 ?_
        refine a_goto 28 dX1_isWhole_24 (by decide) ?_
        exact a_zret dX1_isWhole_28 rfl (by decide) (s_inj h) rfl

def X1_isOpen (σ : sM) (a1 a2 : Int) : Option Int := bp (X8_portionsOf σ a1 a2) (fun r1 => if wi r1 ≤ 0 then some 0 else bp (X1_isWhole σ a1 a2) (fun r4 => if ¬ wi r4 = 0 then some 0 else some 1))
set_option maxRecDepth 100000 in
set_option maxHeartbeats 400000 in
theorem T_X1_isOpen {G : sG} {q_0 : qT} {x_0 : List Nat} {σ : sM} {r_0 : Int} {a1 a2 : Int}  (h : X1_isOpen σ a1 a2 = some r_0) : aM G yX1_isOpen cX1_isOpen 3 (some .boolean) 2 0 0 [.ref (gB G + 2), vI a1, vI a2] (mkSh q_0 x_0, σ) (r_0, (mkSh q_0 x_0, σ)) := by
  unfold X1_isOpen at h
  refine aM_of (by decide) (Nat.le_of_ble_eq_true rfl) ?_
  show aW G cX1_isOpen RX1 "isOpen" 3 (some .boolean) _ _ aX 0 0 _ [(0, .ref (gB G + 2)), (1, vI a1), (2, vI a2)] 0 []
  refine a_iload_n 1 dX1_isOpen_0 rfl ?_
  refine a_iload_n 2 dX1_isOpen_1 rfl ?_
  refine bp_s h (fun r1 e2 h => ?_)
  refine a_callSNI dX1_isOpen_2 mX8_portionsOf kv_X8_portionsOf km_RX1_62 rfl (T_X8_portionsOf e2) (fun _ => rfl) rfl (Nat.le_of_ble_eq_true rfl) (Nat.le_of_ble_eq_true rfl) ⟨(Nat.le_of_ble_eq_true rfl), (Nat.le_of_ble_eq_true rfl)⟩ (Nat.le_of_ble_eq_true rfl) ?_
  refine a_if_le 21 dX1_isOpen_5 (by decide) rfl h (fun c3 h => ?_) (fun c3 h => ?_)
  · skip
    refine a_iconst dX1_isOpen_21 ?_
    exact a_zret dX1_isOpen_22 rfl (by decide) (s_inj h) rfl
  · skip
    refine a_aload_n 0 dX1_isOpen_8 rfl ?_
    refine a_iload_n 1 dX1_isOpen_9 rfl ?_
    refine a_iload_n 2 dX1_isOpen_10 rfl ?_
    refine bp_s h (fun r4 e5 h => ?_)
    refine a_callVI dX1_isOpen_11 mX1_isWhole KX1 rfl kv_X1_isWhole ks_X1_isWhole rfl km_RX1_66 rfl (T_X1_isWhole e5) (fun _ => rfl) rfl (Nat.le_of_ble_eq_true rfl) (Nat.le_of_ble_eq_true rfl) ⟨(Nat.le_of_ble_eq_true rfl), (Nat.le_of_ble_eq_true rfl)⟩ (Nat.le_of_ble_eq_true rfl) ?_
    refine a_if_ne 21 dX1_isOpen_14 (by decide) rfl h (fun c6 h => ?_) (fun c6 h => ?_)
    · skip
      refine a_iconst dX1_isOpen_21 ?_
      exact a_zret dX1_isOpen_22 rfl (by decide) (s_inj h) rfl
    · skip
      refine a_iconst dX1_isOpen_17 ?_
      refine a_goto 22 dX1_isOpen_18 (by decide) ?_
      exact a_zret dX1_isOpen_22 rfl (by decide) (s_inj h) rfl

def X1_countOpen (F : Nat) (σ : sM) (a1 : Int) : Option Int := lp (fun K2 (q1 : Int × Int) => if 3 ≤ wi q1.2 then some q1.1 else bp (X8_portionsOf σ a1 q1.2) (fun r4 => jn (fun q6 : Int => K2 (q1.1 + q6, q1.2 + 1)) (fun K7 => jn (fun q8 : Unit => K7 0) (fun K9 => if wi r4 ≤ 0 then K9 () else if 0 ≤ wi q1.2 ∧ wi q1.2 < 3 then if wi (σ 9 (wi q1.2).toNat) ≤ wi r4 then K9 () else K7 1 else none)))) F (0, 0)
set_option maxRecDepth 100000 in
set_option maxHeartbeats 400000 in
theorem T_X1_countOpen {G : sG} {q_0 : qT} {x_0 : List Nat} {σ : sM} {r_0 : Int} {a1 : Int} {F : Nat}  (h : X1_countOpen F σ a1 = some r_0) : aM G yX1_countOpen cX1_countOpen 5 (some .int) 1 0 0 [.ref (gB G + 2), vI a1] (mkSh q_0 x_0, σ) (r_0, (mkSh q_0 x_0, σ)) := by
  unfold X1_countOpen at h
  refine aM_of (by decide) (Nat.le_of_ble_eq_true rfl) ?_
  show aW G cX1_countOpen RX1 "countOpen" 5 (some .int) _ _ aX 0 0 _ [(0, .ref (gB G + 2)), (1, vI a1)] 0 []
  refine a_iconst dX1_countOpen_0 ?_
  refine a_istore_n (L' := [(2, vI 0), (0, .ref (gB G + 2)), (1, vI a1)]) dX1_countOpen_1 (by decide) rfl ?_
  refine a_iconst dX1_countOpen_2 ?_
  refine a_istore_n (L' := [(3, vI 0), (2, vI 0), (0, .ref (gB G + 2)), (1, vI a1)]) dX1_countOpen_3 (by decide) rfl ?_
  refine a_sub (L' := [(0, .ref (gB G + 2)), (1, vI a1), (2, vI 0), (3, vI 0)]) [2, 3, 1, 0] rfl (lp_s (x := (0, 0)) (fun q1 : Int × Int => aW G cX1_countOpen RX1 "countOpen" 5 (some .int) (sR 1 0 0) (aQ G (some .int) 0 0 (r_0, (mkSh q_0 x_0, σ))) aX 0 0 (mkSh q_0 x_0, σ) [(0, .ref (gB G + 2)), (1, vI a1), (2, vI q1.1), (3, vI q1.2)] 4 []) h (fun K2 hK2 q1 h => ?_))
  refine a_iload_n 3 dX1_countOpen_4 rfl ?_
  refine a_iconst dX1_countOpen_5 ?_
  refine a_icmp_ge 46 dX1_countOpen_6 (by decide) rfl (by decide) h (fun c3 h => ?_) (fun c3 h => ?_)
  · skip
    refine a_iload_n 2 dX1_countOpen_46 rfl ?_
    exact a_iret dX1_countOpen_47 rfl (s_inj h) rfl
  · skip
    refine a_iload_n 1 dX1_countOpen_9 rfl ?_
    refine a_iload_n 3 dX1_countOpen_10 rfl ?_
    refine bp_s h (fun r4 e5 h => ?_)
    refine a_callSNI dX1_countOpen_11 mX8_portionsOf kv_X8_portionsOf km_RX1_62 rfl (T_X8_portionsOf e5) (fun _ => rfl) rfl (Nat.le_of_ble_eq_true rfl) (Nat.le_of_ble_eq_true rfl) ⟨(Nat.le_of_ble_eq_true rfl), (Nat.le_of_ble_eq_true rfl)⟩ (Nat.le_of_ble_eq_true rfl) ?_
    refine a_istore (L' := [(4, vI r4), (0, .ref (gB G + 2)), (1, vI a1), (2, vI q1.1), (3, vI q1.2)]) dX1_countOpen_14 (by decide) rfl ?_
    refine a_iload_n 3 dX1_countOpen_16 rfl ?_
    refine a_iload 0 dX1_countOpen_17 rfl ?_
    refine jn_s (fun q6 : Int => aW G cX1_countOpen RX1 "countOpen" 5 (some .int) (sR 1 0 0) (aQ G (some .int) 0 0 (r_0, (mkSh q_0 x_0, σ))) aX 0 0 (mkSh q_0 x_0, σ) [(0, .ref (gB G + 2)), (1, vI a1), (3, vI q1.2)] 38 [vI q6, vI q1.1]) h (fun q6 h => ?_) (fun K7 hK7 h => ?_)
    · skip
      refine a_iadd dX1_countOpen_38 ?_
      refine a_istore_n (L' := [(2, vI (q1.1 + q6)), (0, .ref (gB G + 2)), (1, vI a1), (3, vI q1.2)]) dX1_countOpen_39 (by decide) rfl ?_
      refine a_iinc (L' := [(3, vI (q1.2 + 1)), (2, vI (q1.1 + q6)), (0, .ref (gB G + 2)), (1, vI a1)]) 3 dX1_countOpen_40 rfl (by decide) rfl ?_
      refine a_goto 4 dX1_countOpen_43 (by decide) ?_
      have hh := hK2 _ h
      exact a_sub [2, 3, 1, 0] rfl hh
    · skip
      refine jn_s (fun q8 : Unit => aW G cX1_countOpen RX1 "countOpen" 5 (some .int) (sR 1 0 0) (aQ G (some .int) 0 0 (r_0, (mkSh q_0 x_0, σ))) aX 0 0 (mkSh q_0 x_0, σ) [(0, .ref (gB G + 2)), (1, vI a1), (3, vI q1.2)] 37 [vI q1.1]) h (fun q8 h => ?_) (fun K9 hK9 h => ?_)
      · skip
        refine a_iconst dX1_countOpen_37 ?_
        have hh := hK7 _ h
        exact a_sub [0, 1, 2] rfl hh
      · skip
        refine a_if_le 37 dX1_countOpen_19 (by decide) rfl h (fun c10 h => ?_) (fun c10 h => ?_)
        · skip
          have hh := hK9 _ h
          exact a_sub [1, 2, 4] rfl hh
        · skip
          refine a_iload 0 dX1_countOpen_22 rfl ?_
          refine a_aload_n 1 dX1_countOpen_24 rfl ?_
          refine a_getR (j := 2) dX1_countOpen_25 KX1 rfl (by decide) rfl kf_RX1_20 ?_
          refine a_iload_n 4 dX1_countOpen_28 rfl ?_
          refine a_gd h (fun c11 h => ?_)
          refine a_iald (x' := wi q1.2) dX1_countOpen_29 rfl rfl c11 rfl ?_
          refine a_icmp_ge 37 dX1_countOpen_30 (by decide) rfl rfl h (fun c12 h => ?_) (fun c12 h => ?_)
          · skip
            have hh := hK9 _ h
            exact a_sub [1, 2, 4] rfl hh
          · skip
            refine a_iconst dX1_countOpen_33 ?_
            refine a_goto 38 dX1_countOpen_34 (by decide) ?_
            have hh := hK7 _ h
            exact a_sub [1, 2, 4] rfl hh

def X1_goodNow (σ : sM) (a1 a2 : Int) : Option Int := bp (X1_sortOf σ a2) (fun r1 => bp (X8_stepOf σ a1 a2) (fun r3 => bp (X1_trait σ r1 (0 + r3)) (fun r5 => some r5)))
set_option maxRecDepth 100000 in
set_option maxHeartbeats 400000 in
theorem T_X1_goodNow {G : sG} {q_0 : qT} {x_0 : List Nat} {σ : sM} {r_0 : Int} {a1 a2 : Int}  (h : X1_goodNow σ a1 a2 = some r_0) : aM G yX1_goodNow cX1_goodNow 3 (some .int) 1 0 0 [.ref (gB G + 2), vI a1, vI a2] (mkSh q_0 x_0, σ) (r_0, (mkSh q_0 x_0, σ)) := by
  unfold X1_goodNow at h
  refine aM_of (by decide) (Nat.le_of_ble_eq_true rfl) ?_
  show aW G cX1_goodNow RX1 "goodNow" 3 (some .int) _ _ aX 0 0 _ [(0, .ref (gB G + 2)), (1, vI a1), (2, vI a2)] 0 []
  refine a_aload_n 0 dX1_goodNow_0 rfl ?_
  refine a_aload_n 0 dX1_goodNow_1 rfl ?_
  refine a_iload_n 2 dX1_goodNow_2 rfl ?_
  refine bp_s h (fun r1 e2 h => ?_)
  refine a_callVI dX1_goodNow_3 mX1_sortOf KX1 rfl kv_X1_sortOf ks_X1_sortOf rfl km_RX1_70 rfl (T_X1_sortOf e2) (fun _ => rfl) rfl (Nat.le_of_ble_eq_true rfl) (Nat.le_of_ble_eq_true rfl) ⟨(Nat.le_of_ble_eq_true rfl), (Nat.le_of_ble_eq_true rfl)⟩ (Nat.le_of_ble_eq_true rfl) ?_
  refine a_iconst dX1_goodNow_6 ?_
  refine a_iload_n 1 dX1_goodNow_7 rfl ?_
  refine a_iload_n 2 dX1_goodNow_8 rfl ?_
  refine bp_s h (fun r3 e4 h => ?_)
  refine a_callSNI dX1_goodNow_9 mX8_stepOf kv_X8_stepOf km_RX1_73 rfl (T_X8_stepOf e4) (fun _ => rfl) rfl (Nat.le_of_ble_eq_true rfl) (Nat.le_of_ble_eq_true rfl) ⟨(Nat.le_of_ble_eq_true rfl), (Nat.le_of_ble_eq_true rfl)⟩ (Nat.le_of_ble_eq_true rfl) ?_
  refine a_iadd dX1_goodNow_12 ?_
  refine bp_s h (fun r5 e6 h => ?_)
  refine a_callVI dX1_goodNow_13 mX1_trait KX1 rfl kv_X1_trait ks_X1_trait rfl km_RX1_76 rfl (T_X1_trait e6) (fun _ => rfl) rfl (Nat.le_of_ble_eq_true rfl) (Nat.le_of_ble_eq_true rfl) ⟨(Nat.le_of_ble_eq_true rfl), (Nat.le_of_ble_eq_true rfl)⟩ (Nat.le_of_ble_eq_true rfl) ?_
  exact a_iret dX1_goodNow_16 rfl (s_inj h) rfl

def X1_mayEat (F : Nat) (σ : sM) (a1 a2 : Int) : Option Int := bp (X1_isWheel σ a2) (fun r1 => if wi r1 = 0 then some 0 else bp (X8_portionsOf σ a1 a2) (fun r4 => if ¬ wi r4 = 0 then bp (X1_isWhole σ a1 a2) (fun r7 => if wi r7 = 0 then some 1 else bp (X1_countOpen F σ a1) (fun r10 => if wi (σ 2 8) ≤ wi r10 then some 0 else some 1)) else some 0))
set_option maxRecDepth 100000 in
set_option maxHeartbeats 400000 in
theorem T_X1_mayEat {G : sG} {q_0 : qT} {x_0 : List Nat} {σ : sM} {r_0 : Int} {a1 a2 : Int} {F : Nat}  (h : X1_mayEat F σ a1 a2 = some r_0) : aM G yX1_mayEat cX1_mayEat 3 (some .boolean) 2 0 0 [.ref (gB G + 2), vI a1, vI a2] (mkSh q_0 x_0, σ) (r_0, (mkSh q_0 x_0, σ)) := by
  unfold X1_mayEat at h
  refine aM_of (by decide) (Nat.le_of_ble_eq_true rfl) ?_
  show aW G cX1_mayEat RX1 "mayEat" 3 (some .boolean) _ _ aX 0 0 _ [(0, .ref (gB G + 2)), (1, vI a1), (2, vI a2)] 0 []
  refine a_aload_n 0 dX1_mayEat_0 rfl ?_
  refine a_iload_n 2 dX1_mayEat_1 rfl ?_
  refine bp_s h (fun r1 e2 h => ?_)
  refine a_callVI dX1_mayEat_2 mX1_isWheel KX1 rfl kv_X1_isWheel ks_X1_isWheel rfl km_RX1_79 rfl (T_X1_isWheel e2) (fun _ => rfl) rfl (Nat.le_of_ble_eq_true rfl) (Nat.le_of_ble_eq_true rfl) ⟨(Nat.le_of_ble_eq_true rfl), (Nat.le_of_ble_eq_true rfl)⟩ (Nat.le_of_ble_eq_true rfl) ?_
  refine a_if_eq 16 dX1_mayEat_5 (by decide) rfl h (fun c3 h => ?_) (fun c3 h => ?_)
  · skip
    refine a_iconst dX1_mayEat_16 ?_
    exact a_zret dX1_mayEat_17 rfl (by decide) (s_inj h) rfl
  · skip
    refine a_iload_n 1 dX1_mayEat_8 rfl ?_
    refine a_iload_n 2 dX1_mayEat_9 rfl ?_
    refine bp_s h (fun r4 e5 h => ?_)
    refine a_callSNI dX1_mayEat_10 mX8_portionsOf kv_X8_portionsOf km_RX1_62 rfl (T_X8_portionsOf e5) (fun _ => rfl) rfl (Nat.le_of_ble_eq_true rfl) (Nat.le_of_ble_eq_true rfl) ⟨(Nat.le_of_ble_eq_true rfl), (Nat.le_of_ble_eq_true rfl)⟩ (Nat.le_of_ble_eq_true rfl) ?_
    refine a_if_ne 18 dX1_mayEat_13 (by decide) rfl h (fun c6 h => ?_) (fun c6 h => ?_)
    · skip
      refine a_aload_n 0 dX1_mayEat_18 rfl ?_
      refine a_iload_n 1 dX1_mayEat_19 rfl ?_
      refine a_iload_n 2 dX1_mayEat_20 rfl ?_
      refine bp_s h (fun r7 e8 h => ?_)
      refine a_callVI dX1_mayEat_21 mX1_isWhole KX1 rfl kv_X1_isWhole ks_X1_isWhole rfl km_RX1_66 rfl (T_X1_isWhole e8) (fun _ => rfl) rfl (Nat.le_of_ble_eq_true rfl) (Nat.le_of_ble_eq_true rfl) ⟨(Nat.le_of_ble_eq_true rfl), (Nat.le_of_ble_eq_true rfl)⟩ (Nat.le_of_ble_eq_true rfl) ?_
      refine a_if_eq 39 dX1_mayEat_24 (by decide) rfl h (fun c9 h => ?_) (fun c9 h => ?_)
      · skip
        refine a_iconst dX1_mayEat_39 ?_
        refine a_goto 44 dX1_mayEat_40 (by decide) ?_
        exact a_zret dX1_mayEat_44 rfl (by decide) (s_inj h) rfl
      · skip
        refine a_aload_n 0 dX1_mayEat_27 rfl ?_
        refine a_iload_n 1 dX1_mayEat_28 rfl ?_
        refine bp_s h (fun r10 e11 h => ?_)
        refine a_callVI dX1_mayEat_29 mX1_countOpen KX1 rfl kv_X1_countOpen ks_X1_countOpen rfl km_RX1_83 rfl (T_X1_countOpen e11) (fun _ => rfl) rfl (Nat.le_of_ble_eq_true rfl) (Nat.le_of_ble_eq_true rfl) ⟨(Nat.le_of_ble_eq_true rfl), (Nat.le_of_ble_eq_true rfl)⟩ (Nat.le_of_ble_eq_true rfl) ?_
        refine a_aload_n 0 dX1_mayEat_32 rfl ?_
        refine a_getI (j := 8) dX1_mayEat_33 KX1 rfl (by decide) rfl kf_RX1_39 ?_
        refine a_icmp_ge 43 dX1_mayEat_36 (by decide) rfl rfl h (fun c12 h => ?_) (fun c12 h => ?_)
        · skip
          refine a_iconst dX1_mayEat_43 ?_
          exact a_zret dX1_mayEat_44 rfl (by decide) (s_inj h) rfl
        · skip
          refine a_iconst dX1_mayEat_39 ?_
          refine a_goto 44 dX1_mayEat_40 (by decide) ?_
          exact a_zret dX1_mayEat_44 rfl (by decide) (s_inj h) rfl
    · skip
      refine a_iconst dX1_mayEat_16 ?_
      exact a_zret dX1_mayEat_17 rfl (by decide) (s_inj h) rfl

def X1_maySell (σ : sM) (a1 a2 : Int) : Option Int := bp (X1_isWheel σ a2) (fun r1 => if wi r1 = 0 then some 0 else bp (X1_isWhole σ a1 a2) (fun r4 => if wi r4 = 0 then some 0 else bp (X8_stepOf σ a1 a2) (fun r7 => if 1 < wi r7 then some 0 else some 1)))
set_option maxRecDepth 100000 in
set_option maxHeartbeats 400000 in
theorem T_X1_maySell {G : sG} {q_0 : qT} {x_0 : List Nat} {σ : sM} {r_0 : Int} {a1 a2 : Int}  (h : X1_maySell σ a1 a2 = some r_0) : aM G yX1_maySell cX1_maySell 3 (some .boolean) 2 0 0 [.ref (gB G + 2), vI a1, vI a2] (mkSh q_0 x_0, σ) (r_0, (mkSh q_0 x_0, σ)) := by
  unfold X1_maySell at h
  refine aM_of (by decide) (Nat.le_of_ble_eq_true rfl) ?_
  show aW G cX1_maySell RX1 "maySell" 3 (some .boolean) _ _ aX 0 0 _ [(0, .ref (gB G + 2)), (1, vI a1), (2, vI a2)] 0 []
  refine a_aload_n 0 dX1_maySell_0 rfl ?_
  refine a_iload_n 2 dX1_maySell_1 rfl ?_
  refine bp_s h (fun r1 e2 h => ?_)
  refine a_callVI dX1_maySell_2 mX1_isWheel KX1 rfl kv_X1_isWheel ks_X1_isWheel rfl km_RX1_79 rfl (T_X1_isWheel e2) (fun _ => rfl) rfl (Nat.le_of_ble_eq_true rfl) (Nat.le_of_ble_eq_true rfl) ⟨(Nat.le_of_ble_eq_true rfl), (Nat.le_of_ble_eq_true rfl)⟩ (Nat.le_of_ble_eq_true rfl) ?_
  refine a_if_eq 30 dX1_maySell_5 (by decide) rfl h (fun c3 h => ?_) (fun c3 h => ?_)
  · skip
    refine a_iconst dX1_maySell_30 ?_
    exact a_zret dX1_maySell_31 rfl (by decide) (s_inj h) rfl
  · skip
    refine a_aload_n 0 dX1_maySell_8 rfl ?_
    refine a_iload_n 1 dX1_maySell_9 rfl ?_
    refine a_iload_n 2 dX1_maySell_10 rfl ?_
    refine bp_s h (fun r4 e5 h => ?_)
    refine a_callVI dX1_maySell_11 mX1_isWhole KX1 rfl kv_X1_isWhole ks_X1_isWhole rfl km_RX1_66 rfl (T_X1_isWhole e5) (fun _ => rfl) rfl (Nat.le_of_ble_eq_true rfl) (Nat.le_of_ble_eq_true rfl) ⟨(Nat.le_of_ble_eq_true rfl), (Nat.le_of_ble_eq_true rfl)⟩ (Nat.le_of_ble_eq_true rfl) ?_
    refine a_if_eq 30 dX1_maySell_14 (by decide) rfl h (fun c6 h => ?_) (fun c6 h => ?_)
    · skip
      refine a_iconst dX1_maySell_30 ?_
      exact a_zret dX1_maySell_31 rfl (by decide) (s_inj h) rfl
    · skip
      refine a_iload_n 1 dX1_maySell_17 rfl ?_
      refine a_iload_n 2 dX1_maySell_18 rfl ?_
      refine bp_s h (fun r7 e8 h => ?_)
      refine a_callSNI dX1_maySell_19 mX8_stepOf kv_X8_stepOf km_RX1_73 rfl (T_X8_stepOf e8) (fun _ => rfl) rfl (Nat.le_of_ble_eq_true rfl) (Nat.le_of_ble_eq_true rfl) ⟨(Nat.le_of_ble_eq_true rfl), (Nat.le_of_ble_eq_true rfl)⟩ (Nat.le_of_ble_eq_true rfl) ?_
      refine a_iconst dX1_maySell_22 ?_
      refine a_icmp_gt 30 dX1_maySell_23 (by decide) rfl (by decide) h (fun c9 h => ?_) (fun c9 h => ?_)
      · skip
        refine a_iconst dX1_maySell_30 ?_
        exact a_zret dX1_maySell_31 rfl (by decide) (s_inj h) rfl
      · skip
        refine a_iconst dX1_maySell_26 ?_
        refine a_goto 31 dX1_maySell_27 (by decide) ?_
        exact a_zret dX1_maySell_31 rfl (by decide) (s_inj h) rfl

def X1_mayBe (F : Nat) (σ : sM) (a1 a2 : Int) : Option Int := if 3 ≤ wi a2 then if wi a2 = 6 then some 1 else bp (X1_maySell σ a1 (a2 - 3)) (fun r3 => if wi r3 = 0 then some 0 else some 1) else bp (X1_mayEat F σ a1 a2) (fun r6 => if wi r6 = 0 ∨ wi r6 = 1 then some r6 else none)
set_option maxRecDepth 100000 in
set_option maxHeartbeats 400000 in
theorem T_X1_mayBe {G : sG} {q_0 : qT} {x_0 : List Nat} {σ : sM} {r_0 : Int} {a1 a2 : Int} {F : Nat}  (h : X1_mayBe F σ a1 a2 = some r_0) : aM G yX1_mayBe cX1_mayBe 3 (some .boolean) 3 0 0 [.ref (gB G + 2), vI a1, vI a2] (mkSh q_0 x_0, σ) (r_0, (mkSh q_0 x_0, σ)) := by
  unfold X1_mayBe at h
  refine aM_of (by decide) (Nat.le_of_ble_eq_true rfl) ?_
  show aW G cX1_mayBe RX1 "mayBe" 3 (some .boolean) _ _ aX 0 0 _ [(0, .ref (gB G + 2)), (1, vI a1), (2, vI a2)] 0 []
  refine a_iload_n 2 dX1_mayBe_0 rfl ?_
  refine a_iconst dX1_mayBe_1 ?_
  refine a_icmp_ge 12 dX1_mayBe_2 (by decide) rfl (by decide) h (fun c1 h => ?_) (fun c1 h => ?_)
  · skip
    refine a_iload_n 2 dX1_mayBe_12 rfl ?_
    refine a_bipush dX1_mayBe_13 (by decide) ?_
    refine a_icmp_eq 29 dX1_mayBe_15 (by decide) rfl (by decide) h (fun c2 h => ?_) (fun c2 h => ?_)
    · skip
      refine a_iconst dX1_mayBe_29 ?_
      refine a_goto 34 dX1_mayBe_30 (by decide) ?_
      exact a_zret dX1_mayBe_34 rfl (by decide) (s_inj h) rfl
    · skip
      refine a_aload_n 0 dX1_mayBe_18 rfl ?_
      refine a_iload_n 1 dX1_mayBe_19 rfl ?_
      refine a_iload_n 2 dX1_mayBe_20 rfl ?_
      refine a_iconst dX1_mayBe_21 ?_
      refine a_isub dX1_mayBe_22 ?_
      refine bp_s h (fun r3 e4 h => ?_)
      refine a_callVI dX1_mayBe_23 mX1_maySell KX1 rfl kv_X1_maySell ks_X1_maySell rfl km_RX1_89 rfl (T_X1_maySell e4) (fun _ => rfl) rfl (Nat.le_of_ble_eq_true rfl) (Nat.le_of_ble_eq_true rfl) ⟨(Nat.le_of_ble_eq_true rfl), (Nat.le_of_ble_eq_true rfl)⟩ (Nat.le_of_ble_eq_true rfl) ?_
      refine a_if_eq 33 dX1_mayBe_26 (by decide) rfl h (fun c5 h => ?_) (fun c5 h => ?_)
      · skip
        refine a_iconst dX1_mayBe_33 ?_
        exact a_zret dX1_mayBe_34 rfl (by decide) (s_inj h) rfl
      · skip
        refine a_iconst dX1_mayBe_29 ?_
        refine a_goto 34 dX1_mayBe_30 (by decide) ?_
        exact a_zret dX1_mayBe_34 rfl (by decide) (s_inj h) rfl
  · skip
    refine a_aload_n 0 dX1_mayBe_5 rfl ?_
    refine a_iload_n 1 dX1_mayBe_6 rfl ?_
    refine a_iload_n 2 dX1_mayBe_7 rfl ?_
    refine bp_s h (fun r6 e7 h => ?_)
    refine a_callVI dX1_mayBe_8 mX1_mayEat KX1 rfl kv_X1_mayEat ks_X1_mayEat rfl km_RX1_86 rfl (T_X1_mayEat e7) (fun _ => rfl) rfl (Nat.le_of_ble_eq_true rfl) (Nat.le_of_ble_eq_true rfl) ⟨(Nat.le_of_ble_eq_true rfl), (Nat.le_of_ble_eq_true rfl)⟩ (Nat.le_of_ble_eq_true rfl) ?_
    refine a_gd h (fun c8 h => ?_)
    exact a_zret dX1_mayBe_11 rfl (nb_01 c8) (s_inj h) rfl

def X1_hadBy (σ : sM) (a1 a2 a3 : Int) : Option Int := if ¬ wi a2 = 6 then if 3 ≤ wi a2 then bp (X8_portionsOf σ a1 (a2 - 3)) (fun r3 => bp (X1_priceOf σ a3) (fun r5 => some (r3 * r5))) else bp (X1_goodNow σ a1 a2) (fun r7 => some r7) else some 0
set_option maxRecDepth 100000 in
set_option maxHeartbeats 400000 in
theorem T_X1_hadBy {G : sG} {q_0 : qT} {x_0 : List Nat} {σ : sM} {r_0 : Int} {a1 a2 a3 : Int}  (h : X1_hadBy σ a1 a2 a3 = some r_0) : aM G yX1_hadBy cX1_hadBy 4 (some .int) 2 0 0 [.ref (gB G + 2), vI a1, vI a2, vI a3] (mkSh q_0 x_0, σ) (r_0, (mkSh q_0 x_0, σ)) := by
  unfold X1_hadBy at h
  refine aM_of (by decide) (Nat.le_of_ble_eq_true rfl) ?_
  show aW G cX1_hadBy RX1 "hadBy" 4 (some .int) _ _ aX 0 0 _ [(0, .ref (gB G + 2)), (1, vI a1), (2, vI a2), (3, vI a3)] 0 []
  refine a_iload_n 2 dX1_hadBy_0 rfl ?_
  refine a_bipush dX1_hadBy_1 (by decide) ?_
  refine a_icmp_ne 8 dX1_hadBy_3 (by decide) rfl (by decide) h (fun c1 h => ?_) (fun c1 h => ?_)
  · skip
    refine a_iload_n 2 dX1_hadBy_8 rfl ?_
    refine a_iconst dX1_hadBy_9 ?_
    refine a_icmp_ge 20 dX1_hadBy_10 (by decide) rfl (by decide) h (fun c2 h => ?_) (fun c2 h => ?_)
    · skip
      refine a_iload_n 1 dX1_hadBy_20 rfl ?_
      refine a_iload_n 2 dX1_hadBy_21 rfl ?_
      refine a_iconst dX1_hadBy_22 ?_
      refine a_isub dX1_hadBy_23 ?_
      refine bp_s h (fun r3 e4 h => ?_)
      refine a_callSNI dX1_hadBy_24 mX8_portionsOf kv_X8_portionsOf km_RX1_62 rfl (T_X8_portionsOf e4) (fun _ => rfl) rfl (Nat.le_of_ble_eq_true rfl) (Nat.le_of_ble_eq_true rfl) ⟨(Nat.le_of_ble_eq_true rfl), (Nat.le_of_ble_eq_true rfl)⟩ (Nat.le_of_ble_eq_true rfl) ?_
      refine a_aload_n 0 dX1_hadBy_27 rfl ?_
      refine a_iload_n 3 dX1_hadBy_28 rfl ?_
      refine bp_s h (fun r5 e6 h => ?_)
      refine a_callVI dX1_hadBy_29 mX1_priceOf KX1 rfl kv_X1_priceOf ks_X1_priceOf rfl km_RX1_95 rfl (T_X1_priceOf e6) (fun _ => rfl) rfl (Nat.le_of_ble_eq_true rfl) (Nat.le_of_ble_eq_true rfl) ⟨(Nat.le_of_ble_eq_true rfl), (Nat.le_of_ble_eq_true rfl)⟩ (Nat.le_of_ble_eq_true rfl) ?_
      refine a_imul dX1_hadBy_32 ?_
      exact a_iret dX1_hadBy_33 rfl (s_inj h) rfl
    · skip
      refine a_aload_n 0 dX1_hadBy_13 rfl ?_
      refine a_iload_n 1 dX1_hadBy_14 rfl ?_
      refine a_iload_n 2 dX1_hadBy_15 rfl ?_
      refine bp_s h (fun r7 e8 h => ?_)
      refine a_callVI dX1_hadBy_16 mX1_goodNow KX1 rfl kv_X1_goodNow ks_X1_goodNow rfl km_RX1_92 rfl (T_X1_goodNow e8) (fun _ => rfl) rfl (Nat.le_of_ble_eq_true rfl) (Nat.le_of_ble_eq_true rfl) ⟨(Nat.le_of_ble_eq_true rfl), (Nat.le_of_ble_eq_true rfl)⟩ (Nat.le_of_ble_eq_true rfl) ?_
      exact a_iret dX1_hadBy_19 rfl (s_inj h) rfl
  · skip
    refine a_iconst dX1_hadBy_6 ?_
    exact a_iret dX1_hadBy_7 rfl (s_inj h) rfl

def X1_standAfter (σ : sM) (a1 a2 : Int) : Option Int := if ¬ wi a2 = 6 then if 3 ≤ wi a2 then bp (X8_portionsOf σ a1 (a2 - 3)) (fun r3 => bp (X8_field σ (a2 - 3) 0 r3) (fun r5 => some (a1 - r5))) else bp (X8_field σ a2 0 1) (fun r7 => some (a1 - r7)) else some a1
set_option maxRecDepth 100000 in
set_option maxHeartbeats 400000 in
theorem T_X1_standAfter {G : sG} {q_0 : qT} {x_0 : List Nat} {σ : sM} {r_0 : Int} {a1 a2 : Int}  (h : X1_standAfter σ a1 a2 = some r_0) : aM G yX1_standAfter cX1_standAfter 4 (some .int) 1 0 0 [.ref (gB G + 2), vI a1, vI a2] (mkSh q_0 x_0, σ) (r_0, (mkSh q_0 x_0, σ)) := by
  unfold X1_standAfter at h
  refine aM_of (by decide) (Nat.le_of_ble_eq_true rfl) ?_
  show aW G cX1_standAfter RX1 "standAfter" 4 (some .int) _ _ aX 0 0 _ [(0, .ref (gB G + 2)), (1, vI a1), (2, vI a2)] 0 []
  refine a_iload_n 2 dX1_standAfter_0 rfl ?_
  refine a_bipush dX1_standAfter_1 (by decide) ?_
  refine a_icmp_ne 8 dX1_standAfter_3 (by decide) rfl (by decide) h (fun c1 h => ?_) (fun c1 h => ?_)
  · skip
    refine a_iload_n 2 dX1_standAfter_8 rfl ?_
    refine a_iconst dX1_standAfter_9 ?_
    refine a_icmp_ge 22 dX1_standAfter_10 (by decide) rfl (by decide) h (fun c2 h => ?_) (fun c2 h => ?_)
    · skip
      refine a_iload_n 2 dX1_standAfter_22 rfl ?_
      refine a_iconst dX1_standAfter_23 ?_
      refine a_isub dX1_standAfter_24 ?_
      refine a_istore_n (L' := [(3, vI (a2 - 3)), (0, .ref (gB G + 2)), (1, vI a1), (2, vI a2)]) dX1_standAfter_25 (by decide) rfl ?_
      refine a_iload_n 2 dX1_standAfter_26 rfl ?_
      refine a_iload_n 0 dX1_standAfter_27 rfl ?_
      refine a_iconst dX1_standAfter_28 ?_
      refine a_iload_n 2 dX1_standAfter_29 rfl ?_
      refine a_iload_n 0 dX1_standAfter_30 rfl ?_
      refine bp_s h (fun r3 e4 h => ?_)
      refine a_callSNI dX1_standAfter_31 mX8_portionsOf kv_X8_portionsOf km_RX1_62 rfl (T_X8_portionsOf e4) (fun _ => rfl) rfl (Nat.le_of_ble_eq_true rfl) (Nat.le_of_ble_eq_true rfl) ⟨(Nat.le_of_ble_eq_true rfl), (Nat.le_of_ble_eq_true rfl)⟩ (Nat.le_of_ble_eq_true rfl) ?_
      refine bp_s h (fun r5 e6 h => ?_)
      refine a_callSNI dX1_standAfter_34 mX8_field kv_X8_field km_RX1_58 rfl (T_X8_field e6) (fun _ => rfl) rfl (Nat.le_of_ble_eq_true rfl) (Nat.le_of_ble_eq_true rfl) ⟨(Nat.le_of_ble_eq_true rfl), (Nat.le_of_ble_eq_true rfl)⟩ (Nat.le_of_ble_eq_true rfl) ?_
      refine a_isub dX1_standAfter_37 ?_
      exact a_iret dX1_standAfter_38 rfl (s_inj h) rfl
    · skip
      refine a_iload_n 1 dX1_standAfter_13 rfl ?_
      refine a_iload_n 2 dX1_standAfter_14 rfl ?_
      refine a_iconst dX1_standAfter_15 ?_
      refine a_iconst dX1_standAfter_16 ?_
      refine bp_s h (fun r7 e8 h => ?_)
      refine a_callSNI dX1_standAfter_17 mX8_field kv_X8_field km_RX1_58 rfl (T_X8_field e8) (fun _ => rfl) rfl (Nat.le_of_ble_eq_true rfl) (Nat.le_of_ble_eq_true rfl) ⟨(Nat.le_of_ble_eq_true rfl), (Nat.le_of_ble_eq_true rfl)⟩ (Nat.le_of_ble_eq_true rfl) ?_
      refine a_isub dX1_standAfter_20 ?_
      exact a_iret dX1_standAfter_21 rfl (s_inj h) rfl
  · skip
    refine a_iload_n 1 dX1_standAfter_6 rfl ?_
    exact a_iret dX1_standAfter_7 rfl (s_inj h) rfl

def X1_mayGoOn (σ : sM) (a1 a2 a3 : Int) : Option Int := bp (X8_portionsOf σ a1 a3) (fun r1 => if wi r1 ≤ 0 then some 0 else bp (X8_has σ a2 a3) (fun r4 => if ¬ wi r4 = 0 then some 0 else bp (X8_stepOf σ a1 a3) (fun r7 => if 3 ≤ wi r7 then some 0 else some 1)))
set_option maxRecDepth 100000 in
set_option maxHeartbeats 400000 in
theorem T_X1_mayGoOn {G : sG} {q_0 : qT} {x_0 : List Nat} {σ : sM} {r_0 : Int} {a1 a2 a3 : Int}  (h : X1_mayGoOn σ a1 a2 a3 = some r_0) : aM G yX1_mayGoOn cX1_mayGoOn 4 (some .boolean) 1 0 0 [.ref (gB G + 2), vI a1, vI a2, vI a3] (mkSh q_0 x_0, σ) (r_0, (mkSh q_0 x_0, σ)) := by
  unfold X1_mayGoOn at h
  refine aM_of (by decide) (Nat.le_of_ble_eq_true rfl) ?_
  show aW G cX1_mayGoOn RX1 "mayGoOn" 4 (some .boolean) _ _ aX 0 0 _ [(0, .ref (gB G + 2)), (1, vI a1), (2, vI a2), (3, vI a3)] 0 []
  refine a_iload_n 1 dX1_mayGoOn_0 rfl ?_
  refine a_iload_n 3 dX1_mayGoOn_1 rfl ?_
  refine bp_s h (fun r1 e2 h => ?_)
  refine a_callSNI dX1_mayGoOn_2 mX8_portionsOf kv_X8_portionsOf km_RX1_62 rfl (T_X8_portionsOf e2) (fun _ => rfl) rfl (Nat.le_of_ble_eq_true rfl) (Nat.le_of_ble_eq_true rfl) ⟨(Nat.le_of_ble_eq_true rfl), (Nat.le_of_ble_eq_true rfl)⟩ (Nat.le_of_ble_eq_true rfl) ?_
  refine a_if_le 29 dX1_mayGoOn_5 (by decide) rfl h (fun c3 h => ?_) (fun c3 h => ?_)
  · skip
    refine a_iconst dX1_mayGoOn_29 ?_
    exact a_zret dX1_mayGoOn_30 rfl (by decide) (s_inj h) rfl
  · skip
    refine a_iload_n 2 dX1_mayGoOn_8 rfl ?_
    refine a_iload_n 3 dX1_mayGoOn_9 rfl ?_
    refine bp_s h (fun r4 e5 h => ?_)
    refine a_callSNI dX1_mayGoOn_10 mX8_has kv_X8_has km_RX1_98 rfl (T_X8_has e5) (fun _ => rfl) rfl (Nat.le_of_ble_eq_true rfl) (Nat.le_of_ble_eq_true rfl) ⟨(Nat.le_of_ble_eq_true rfl), (Nat.le_of_ble_eq_true rfl)⟩ (Nat.le_of_ble_eq_true rfl) ?_
    refine a_if_ne 29 dX1_mayGoOn_13 (by decide) rfl h (fun c6 h => ?_) (fun c6 h => ?_)
    · skip
      refine a_iconst dX1_mayGoOn_29 ?_
      exact a_zret dX1_mayGoOn_30 rfl (by decide) (s_inj h) rfl
    · skip
      refine a_iload_n 1 dX1_mayGoOn_16 rfl ?_
      refine a_iload_n 3 dX1_mayGoOn_17 rfl ?_
      refine bp_s h (fun r7 e8 h => ?_)
      refine a_callSNI dX1_mayGoOn_18 mX8_stepOf kv_X8_stepOf km_RX1_73 rfl (T_X8_stepOf e8) (fun _ => rfl) rfl (Nat.le_of_ble_eq_true rfl) (Nat.le_of_ble_eq_true rfl) ⟨(Nat.le_of_ble_eq_true rfl), (Nat.le_of_ble_eq_true rfl)⟩ (Nat.le_of_ble_eq_true rfl) ?_
      refine a_iconst dX1_mayGoOn_21 ?_
      refine a_icmp_ge 29 dX1_mayGoOn_22 (by decide) rfl (by decide) h (fun c9 h => ?_) (fun c9 h => ?_)
      · skip
        refine a_iconst dX1_mayGoOn_29 ?_
        exact a_zret dX1_mayGoOn_30 rfl (by decide) (s_inj h) rfl
      · skip
        refine a_iconst dX1_mayGoOn_25 ?_
        refine a_goto 30 dX1_mayGoOn_26 (by decide) ?_
        exact a_zret dX1_mayGoOn_30 rfl (by decide) (s_inj h) rfl

