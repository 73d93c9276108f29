def X9_next (F : Nat) (σ : sM) : Option (Int × sM) := bp (X9_isOver σ) (fun r1 => if wi r1 = 0 then bn (X9_goNext F σ) (fun r4 σ6 => some (r4, σ6)) else some ((-2), σ))
set_option maxRecDepth 100000 in
set_option maxHeartbeats 400000 in
theorem T_X9_next {G : sG} {q_0 : qT} {x_0 : List Nat} {σ s_0 : sM} {r_0 : Int} {F : Nat}  (h : X9_next F σ = some (r_0, s_0)) : aM G yX9_next cX9_next 1 (some .int) 3 0 0 [.ref (gP G 55)] (mkSh q_0 x_0, σ) (r_0, (mkSh q_0 x_0, s_0)) := by
  unfold X9_next at h
  refine aM_of (by decide) (Nat.le_of_ble_eq_true rfl) ?_
  show aW G cX9_next RX9 "next" 1 (some .int) _ _ aX 0 0 _ [(0, .ref (gP G 55))] 0 []
  refine a_aload_n 0 dX9_next_0 rfl ?_
  refine bp_s h (fun r1 e2 h => ?_)
  refine a_callVI dX9_next_1 mX9_isOver KX9 rfl kv_X9_isOver ks_X9_isOver rfl km_RX9_188 rfl (T_X9_isOver e2) (fun _ => rfl) rfl (Nat.le_of_ble_eq_true rfl) (Nat.le_of_ble_eq_true rfl) ⟨(Nat.le_of_ble_eq_true rfl), (Nat.le_of_ble_eq_true rfl)⟩ (Nat.le_of_ble_eq_true rfl) ?_
  refine a_if_eq 12 dX9_next_4 (by decide) rfl h (fun c3 h => ?_) (fun c3 h => ?_)
  · skip
    refine a_aload_n 0 dX9_next_12 rfl ?_
    refine bn_s h (fun r4 σ6 e5 h => ?_)
    refine a_callVI dX9_next_13 mX9_goNext KX9 rfl kv_X9_goNext ks_X9_goNext rfl km_RX9_196 rfl (T_X9_goNext e5) (fun _ => rfl) rfl (Nat.le_of_ble_eq_true rfl) (Nat.le_of_ble_eq_true rfl) ⟨(Nat.le_of_ble_eq_true rfl), (Nat.le_of_ble_eq_true rfl)⟩ (Nat.le_of_ble_eq_true rfl) ?_
    exact a_iret dX9_next_16 rfl (p_1 h) (p_S (p_2 h))
  · skip
    refine a_bipush dX9_next_7 (by decide) ?_
    refine a_goto 16 dX9_next_9 (by decide) ?_
    exact a_iret dX9_next_16 rfl (p_1 h) (p_S (p_2 h))

def X9_now (F : Nat) (σ : sM) (a1 : Int) : Option Int := lp (fun K2 (q1 : Int × Int × Int) => if wi (σ 58 0) ≤ wi q1.2.2 then if wi a1 = 0 then some (σ 66 0) else if wi a1 = 1 then if wi (σ 67 0) = 0 then some 0 else some 1 else if wi a1 = 2 then some (σ 68 0) else if wi a1 = 3 then some (σ 69 0) else if wi a1 = 4 then some q1.1 else if wi a1 = 5 then bp (X9_isOver σ) (fun r11 => if wi r11 = 0 then some 0 else some 1) else if wi a1 = 6 then some q1.2.1 else some (-1) else if 0 ≤ wi q1.2.2 ∧ wi q1.2.2 < 9 then if 0 ≤ wi q1.2.2 ∧ wi q1.2.2 < 9 then jn (fun q17 : Int => K2 (q1.1 + (σ 72 (wi q1.2.2).toNat), q1.2.1 + q17, q1.2.2 + 1)) (fun K18 => jn (fun q19 : Unit => K18 0) (fun K20 => if wi (σ 72 (wi q1.2.2).toNat) ≤ 0 then K20 () else if 0 ≤ wi q1.2.2 ∧ wi q1.2.2 < 9 then if 0 ≤ wi q1.2.2 ∧ wi q1.2.2 < 6 then if wi (σ 63 (wi q1.2.2).toNat) ≤ wi (σ 72 (wi q1.2.2).toNat) then K20 () else K18 1 else none else none)) else none else none) F (0, 0, 0)
set_option maxRecDepth 100000 in
set_option maxHeartbeats 400000 in
theorem T_X9_now {G : sG} {q_0 : qT} {x_0 : List Nat} {σ : sM} {r_0 : Int} {a1 : Int} {F : Nat}  (h : X9_now F σ a1 = some r_0) : aM G yX9_now cX9_now 5 (some .int) 1 0 0 [.ref (gP G 55), vI a1] (mkSh q_0 x_0, σ) (r_0, (mkSh q_0 x_0, σ)) := by
  unfold X9_now at h
  refine aM_of (by decide) (Nat.le_of_ble_eq_true rfl) ?_
  show aW G cX9_now RX9 "now" 5 (some .int) _ _ aX 0 0 _ [(0, .ref (gP G 55)), (1, vI a1)] 0 []
  refine a_iconst dX9_now_0 ?_
  refine a_istore_n (L' := [(2, vI 0), (0, .ref (gP G 55)), (1, vI a1)]) dX9_now_1 (by decide) rfl ?_
  refine a_iconst dX9_now_2 ?_
  refine a_istore_n (L' := [(3, vI 0), (2, vI 0), (0, .ref (gP G 55)), (1, vI a1)]) dX9_now_3 (by decide) rfl ?_
  refine a_iconst dX9_now_4 ?_
  refine a_istore (L' := [(4, vI 0), (3, vI 0), (2, vI 0), (0, .ref (gP G 55)), (1, vI a1)]) dX9_now_5 (by decide) rfl ?_
  refine a_sub (L' := [(0, .ref (gP G 55)), (1, vI a1), (2, vI 0), (3, vI 0), (4, vI 0)]) [3, 4, 2, 1, 0] rfl (lp_s (x := (0, 0, 0)) (fun q1 : Int × Int × Int => aW G cX9_now RX9 "now" 5 (some .int) (sR 1 0 0) (aQ G (some .int) 0 0 (r_0, (mkSh q_0 x_0, σ))) aX 0 0 (mkSh q_0 x_0, σ) [(0, .ref (gP G 55)), (1, vI a1), (2, vI q1.1), (3, vI q1.2.1), (4, vI q1.2.2)] 7 []) h (fun K2 hK2 q1 h => ?_))
  refine a_iload 4 dX9_now_7 rfl ?_
  refine a_aload_n 0 dX9_now_9 rfl ?_
  refine a_getR (j := 4) dX9_now_10 KX9 rfl (by decide) rfl kf_RX9_17 ?_
  refine a_iconst dX9_now_13 ?_
  refine a_iald (x' := 0) dX9_now_14 rfl (by decide) (by decide) rfl ?_
  refine a_icmp_ge 69 dX9_now_15 (by decide) rfl rfl h (fun c3 h => ?_) (fun c3 h => ?_)
  · skip
    refine a_iload_n 1 dX9_now_69 rfl ?_
    refine a_if h (fun c4 h => ?_) (fun c4 h => ?_)
    · skip
      refine a_tsIn (off := 42) 112 dX9_now_70 c4 (by decide) (by decide) (by decide) ?_
      refine a_aload_n 0 dX9_now_112 rfl ?_
      refine a_getR (j := 17) dX9_now_113 KX9 rfl (by decide) rfl kf_RX9_41 ?_
      refine a_iconst dX9_now_116 ?_
      refine a_iald (x' := 0) dX9_now_117 rfl (by decide) (by decide) rfl ?_
      exact a_iret dX9_now_118 rfl (s_inj h) rfl
    · skip
      refine a_if h (fun c5 h => ?_) (fun c5 h => ?_)
      · skip
        refine a_tsIn (off := 49) 119 dX9_now_70 c5 (by decide) (by decide) (by decide) ?_
        refine a_aload_n 0 dX9_now_119 rfl ?_
        refine a_getR (j := 18) dX9_now_120 KX9 rfl (by decide) rfl kf_RX9_44 ?_
        refine a_iconst dX9_now_123 ?_
        refine a_zald (x' := 0) dX9_now_124 rfl (by decide) (by decide) rfl ?_
        refine a_if_eq 132 dX9_now_125 (by decide) rfl h (fun c6 h => ?_) (fun c6 h => ?_)
        · skip
          refine a_iconst dX9_now_132 ?_
          exact a_iret dX9_now_133 rfl (s_inj h) rfl
        · skip
          refine a_iconst dX9_now_128 ?_
          refine a_goto 133 dX9_now_129 (by decide) ?_
          exact a_iret dX9_now_133 rfl (s_inj h) rfl
      · skip
        refine a_if h (fun c7 h => ?_) (fun c7 h => ?_)
        · skip
          refine a_tsIn (off := 64) 134 dX9_now_70 c7 (by decide) (by decide) (by decide) ?_
          refine a_aload_n 0 dX9_now_134 rfl ?_
          refine a_getR (j := 19) dX9_now_135 KX9 rfl (by decide) rfl kf_RX9_48 ?_
          refine a_iconst dX9_now_138 ?_
          refine a_iald (x' := 0) dX9_now_139 rfl (by decide) (by decide) rfl ?_
          exact a_iret dX9_now_140 rfl (s_inj h) rfl
        · skip
          refine a_if h (fun c8 h => ?_) (fun c8 h => ?_)
          · skip
            refine a_tsIn (off := 71) 141 dX9_now_70 c8 (by decide) (by decide) (by decide) ?_
            refine a_aload_n 0 dX9_now_141 rfl ?_
            refine a_getR (j := 20) dX9_now_142 KX9 rfl (by decide) rfl kf_RX9_51 ?_
            refine a_iconst dX9_now_145 ?_
            refine a_iald (x' := 0) dX9_now_146 rfl (by decide) (by decide) rfl ?_
            exact a_iret dX9_now_147 rfl (s_inj h) rfl
          · skip
            refine a_if h (fun c9 h => ?_) (fun c9 h => ?_)
            · skip
              refine a_tsIn (off := 78) 148 dX9_now_70 c9 (by decide) (by decide) (by decide) ?_
              refine a_iload_n 2 dX9_now_148 rfl ?_
              exact a_iret dX9_now_149 rfl (s_inj h) rfl
            · skip
              refine a_if h (fun c10 h => ?_) (fun c10 h => ?_)
              · skip
                refine a_tsIn (off := 80) 150 dX9_now_70 c10 (by decide) (by decide) (by decide) ?_
                refine a_aload_n 0 dX9_now_150 rfl ?_
                refine bp_s h (fun r11 e12 h => ?_)
                refine a_callVI dX9_now_151 mX9_isOver KX9 rfl kv_X9_isOver ks_X9_isOver rfl km_RX9_188 rfl (T_X9_isOver e12) (fun _ => rfl) rfl (Nat.le_of_ble_eq_true rfl) (Nat.le_of_ble_eq_true rfl) ⟨(Nat.le_of_ble_eq_true rfl), (Nat.le_of_ble_eq_true rfl)⟩ (Nat.le_of_ble_eq_true rfl) ?_
                refine a_if_eq 161 dX9_now_154 (by decide) rfl h (fun c13 h => ?_) (fun c13 h => ?_)
                · skip
                  refine a_iconst dX9_now_161 ?_
                  exact a_iret dX9_now_162 rfl (s_inj h) rfl
                · skip
                  refine a_iconst dX9_now_157 ?_
                  refine a_goto 162 dX9_now_158 (by decide) ?_
                  exact a_iret dX9_now_162 rfl (s_inj h) rfl
              · skip
                refine a_if h (fun c14 h => ?_) (fun c14 h => ?_)
                · skip
                  refine a_tsIn (off := 93) 163 dX9_now_70 c14 (by decide) (by decide) (by decide) ?_
                  refine a_iload_n 3 dX9_now_163 rfl ?_
                  exact a_iret dX9_now_164 rfl (s_inj h) rfl
                · skip
                  refine a_tsOut (v := wi a1) 165 dX9_now_70 rfl (by omega) (by decide) ?_
                  refine a_iconst dX9_now_165 ?_
                  exact a_iret dX9_now_166 rfl (s_inj h) rfl
  · skip
    refine a_iload_n 2 dX9_now_18 rfl ?_
    refine a_aload_n 0 dX9_now_19 rfl ?_
    refine a_getR (j := 23) dX9_now_20 KX9 rfl (by decide) rfl kf_RX9_60 ?_
    refine a_iload 4 dX9_now_23 rfl ?_
    refine a_gd h (fun c15 h => ?_)
    refine a_iald (x' := wi q1.2.2) dX9_now_25 rfl rfl c15 rfl ?_
    refine a_iadd dX9_now_26 ?_
    refine a_istore_n (L' := [(2, vI (q1.1 + (σ 72 (wi q1.2.2).toNat))), (0, .ref (gP G 55)), (1, vI a1), (3, vI q1.2.1), (4, vI q1.2.2)]) dX9_now_27 (by decide) rfl ?_
    refine a_iload_n 3 dX9_now_28 rfl ?_
    refine a_aload_n 1 dX9_now_29 rfl ?_
    refine a_getR (j := 23) dX9_now_30 KX9 rfl (by decide) rfl kf_RX9_60 ?_
    refine a_iload 4 dX9_now_33 rfl ?_
    refine a_gd h (fun c16 h => ?_)
    refine a_iald (x' := wi q1.2.2) dX9_now_35 rfl rfl c16 rfl ?_
    refine jn_s (fun q17 : Int => aW G cX9_now RX9 "now" 5 (some .int) (sR 1 0 0) (aQ G (some .int) 0 0 (r_0, (mkSh q_0 x_0, σ))) aX 0 0 (mkSh q_0 x_0, σ) [(0, .ref (gP G 55)), (1, vI a1), (2, vI (q1.1 + (σ 72 (wi q1.2.2).toNat))), (4, vI q1.2.2)] 61 [vI q17, vI q1.2.1]) h (fun q17 h => ?_) (fun K18 hK18 h => ?_)
    · skip
      refine a_iadd dX9_now_61 ?_
      refine a_istore_n (L' := [(3, vI (q1.2.1 + q17)), (0, .ref (gP G 55)), (1, vI a1), (2, vI (q1.1 + (σ 72 (wi q1.2.2).toNat))), (4, vI q1.2.2)]) dX9_now_62 (by decide) rfl ?_
      refine a_iinc (L' := [(4, vI (q1.2.2 + 1)), (3, vI (q1.2.1 + q17)), (0, .ref (gP G 55)), (1, vI a1), (2, vI (q1.1 + (σ 72 (wi q1.2.2).toNat)))]) 4 dX9_now_63 rfl (by decide) rfl ?_
      refine a_goto 7 dX9_now_66 (by decide) ?_
      have hh := hK2 _ h
      exact a_sub [2, 3, 4, 1, 0] rfl hh
    · skip
      refine jn_s (fun q19 : Unit => aW G cX9_now RX9 "now" 5 (some .int) (sR 1 0 0) (aQ G (some .int) 0 0 (r_0, (mkSh q_0 x_0, σ))) aX 0 0 (mkSh q_0 x_0, σ) [(0, .ref (gP G 55)), (1, vI a1), (2, vI (q1.1 + (σ 72 (wi q1.2.2).toNat))), (4, vI q1.2.2)] 60 [vI q1.2.1]) h (fun q19 h => ?_) (fun K20 hK20 h => ?_)
      · skip
        refine a_iconst dX9_now_60 ?_
        have hh := hK18 _ h
        exact a_sub [0, 1, 2, 3] rfl hh
      · skip
        refine a_if_le 60 dX9_now_36 (by decide) rfl h (fun c21 h => ?_) (fun c21 h => ?_)
        · skip
          have hh := hK20 _ h
          exact a_sub [1, 2, 0, 4] rfl hh
        · skip
          refine a_aload_n 1 dX9_now_39 rfl ?_
          refine a_getR (j := 23) dX9_now_40 KX9 rfl (by decide) rfl kf_RX9_60 ?_
          refine a_iload 4 dX9_now_43 rfl ?_
          refine a_gd h (fun c22 h => ?_)
          refine a_iald (x' := wi q1.2.2) dX9_now_45 rfl rfl c22 rfl ?_
          refine a_aload_n 1 dX9_now_46 rfl ?_
          refine a_getR (j := 9) dX9_now_47 KX9 rfl (by decide) rfl kf_RX9_32 ?_
          refine a_iload 4 dX9_now_50 rfl ?_
          refine a_gd h (fun c23 h => ?_)
          refine a_iald (x' := wi q1.2.2) dX9_now_52 rfl rfl c23 rfl ?_
          refine a_icmp_ge 60 dX9_now_53 (by decide) rfl rfl h (fun c24 h => ?_) (fun c24 h => ?_)
          · skip
            have hh := hK20 _ h
            exact a_sub [1, 2, 0, 4] rfl hh
          · skip
            refine a_iconst dX9_now_56 ?_
            refine a_goto 61 dX9_now_57 (by decide) ?_
            have hh := hK18 _ h
            exact a_sub [1, 2, 0, 4] rfl hh

def X9_lot (σ : sM) (a1 : Int) : Option (Int × sM) := some (σ 70 0, (sU σ 70 0 a1))
set_option maxRecDepth 100000 in
set_option maxHeartbeats 400000 in
theorem T_X9_lot {G : sG} {q_0 : qT} {x_0 : List Nat} {σ s_0 : sM} {r_0 : Int} {a1 : Int}  (h : X9_lot σ a1 = some (r_0, s_0)) : aM G yX9_lot cX9_lot 3 (some .int) 0 0 0 [.ref (gP G 55), vI a1] (mkSh q_0 x_0, σ) (r_0, (mkSh q_0 x_0, s_0)) := by
  unfold X9_lot at h
  refine aM_of (by decide) (Nat.le_of_ble_eq_true rfl) ?_
  show aW G cX9_lot RX9 "lot" 3 (some .int) _ _ aX 0 0 _ [(0, .ref (gP G 55)), (1, vI a1)] 0 []
  refine a_aload_n 0 dX9_lot_0 rfl ?_
  refine a_getR (j := 21) dX9_lot_1 KX9 rfl (by decide) rfl kf_RX9_54 ?_
  refine a_iconst dX9_lot_4 ?_
  refine a_iald (x' := 0) dX9_lot_5 rfl (by decide) (by decide) rfl ?_
  refine a_istore_n (L' := [(2, vI (σ 70 0)), (0, .ref (gP G 55)), (1, vI a1)]) dX9_lot_6 (by decide) rfl ?_
  refine a_aload_n 1 dX9_lot_7 rfl ?_
  refine a_getR (j := 21) dX9_lot_8 KX9 rfl (by decide) rfl kf_RX9_54 ?_
  refine a_iconst dX9_lot_11 ?_
  refine a_iload_n 2 dX9_lot_12 rfl ?_
  refine a_iast (x' := 0) dX9_lot_13 rfl (by decide) (by decide) rfl ?_
  refine a_iload_n 0 dX9_lot_14 rfl ?_
  exact a_iret dX9_lot_15 rfl (p_1 h) (p_S (p_2 h))

def X9_tenths (σ : sM) (a1 a2 a3 : Int) : Option Int := bp (X9_codeOf σ a1 a2) (fun r1 => bp (X9_isWheel σ a2) (fun r3 => if wi r3 = 0 then some 0 else bp (X9_goes σ a2 (q_shr r1 2) (q_and r1 3) a3) (fun r6 => some r6)))
set_option maxRecDepth 100000 in
set_option maxHeartbeats 400000 in
theorem T_X9_tenths {G : sG} {q_0 : qT} {x_0 : List Nat} {σ : sM} {r_0 : Int} {a1 a2 a3 : Int}  (h : X9_tenths σ a1 a2 a3 = some r_0) : aM G yX9_tenths cX9_tenths 5 (some .int) 2 0 0 [.ref (gP G 55), vI a1, vI a2, vI a3] (mkSh q_0 x_0, σ) (r_0, (mkSh q_0 x_0, σ)) := by
  unfold X9_tenths at h
  refine aM_of (by decide) (Nat.le_of_ble_eq_true rfl) ?_
  show aW G cX9_tenths RX9 "tenths" 5 (some .int) _ _ aX 0 0 _ [(0, .ref (gP G 55)), (1, vI a1), (2, vI a2), (3, vI a3)] 0 []
  refine a_iload_n 1 dX9_tenths_0 rfl ?_
  refine a_iload_n 2 dX9_tenths_1 rfl ?_
  refine bp_s h (fun r1 e2 h => ?_)
  refine a_callSI dX9_tenths_2 mX9_codeOf kv_X9_codeOf km_RX9_175 rfl (T_X9_codeOf e2) (fun _ => rfl) rfl (Nat.le_of_ble_eq_true rfl) (Nat.le_of_ble_eq_true rfl) ⟨(Nat.le_of_ble_eq_true rfl), (Nat.le_of_ble_eq_true rfl)⟩ (Nat.le_of_ble_eq_true rfl) ?_
  refine a_istore (L' := [(4, vI r1), (0, .ref (gP G 55)), (1, vI a1), (2, vI a2), (3, vI a3)]) dX9_tenths_5 (by decide) rfl ?_
  refine a_aload_n 1 dX9_tenths_7 rfl ?_
  refine a_iload_n 3 dX9_tenths_8 rfl ?_
  refine bp_s h (fun r3 e4 h => ?_)
  refine a_callVI dX9_tenths_9 mX9_isWheel KX9 rfl kv_X9_isWheel ks_X9_isWheel rfl km_RX9_164 rfl (T_X9_isWheel e4) (fun _ => rfl) rfl (Nat.le_of_ble_eq_true rfl) (Nat.le_of_ble_eq_true rfl) ⟨(Nat.le_of_ble_eq_true rfl), (Nat.le_of_ble_eq_true rfl)⟩ (Nat.le_of_ble_eq_true rfl) ?_
  refine a_if_eq 32 dX9_tenths_12 (by decide) rfl h (fun c5 h => ?_) (fun c5 h => ?_)
  · skip
    refine a_iconst dX9_tenths_32 ?_
    exact a_iret dX9_tenths_33 rfl (s_inj h) rfl
  · skip
    refine a_aload_n 1 dX9_tenths_15 rfl ?_
    refine a_iload_n 3 dX9_tenths_16 rfl ?_
    refine a_iload 0 dX9_tenths_17 rfl ?_
    refine a_iconst dX9_tenths_19 ?_
    refine a_ishr dX9_tenths_20 ?_
    refine a_iload 0 dX9_tenths_21 rfl ?_
    refine a_iconst dX9_tenths_23 ?_
    refine a_iand dX9_tenths_24 ?_
    refine a_iload_n 4 dX9_tenths_25 rfl ?_
    refine bp_s h (fun r6 e7 h => ?_)
    refine a_callVI dX9_tenths_26 mX9_goes KX9 rfl kv_X9_goes ks_X9_goes rfl km_RX9_171 rfl (T_X9_goes e7) (fun _ => rfl) rfl (Nat.le_of_ble_eq_true rfl) (Nat.le_of_ble_eq_true rfl) ⟨(Nat.le_of_ble_eq_true rfl), (Nat.le_of_ble_eq_true rfl)⟩ (Nat.le_of_ble_eq_true rfl) ?_
    refine a_goto 33 dX9_tenths_29 (by decide) ?_
    exact a_iret dX9_tenths_33 rfl (s_inj h) rfl

def X9_isState (F : Nat) (σ : sM) (a1 : Int) : Option Int := lp (fun K2 (q1 : Int × Int) => if 3 ≤ wi q1.2 then if wi q1.1 = 0 ∨ wi q1.1 = 1 then some q1.1 else none else bp (X9_codeOf σ a1 q1.2) (fun r5 => jn (fun q7 : Int => K2 (q7, q1.2 + 1)) (fun K8 => jn (fun q9 : Unit => K8 0) (fun K10 => if wi q1.1 = 0 then K10 () else bp (X9_isWheel σ q1.2) (fun r12 => jn (fun q14 : Unit => K8 1) (fun K15 => if wi r12 = 0 then if ¬ wi r5 = 0 then K10 () else K15 () else if 0 ≤ wi q1.2 ∧ wi q1.2 < 6 then if wi (σ 63 (wi q1.2).toNat) < wi (q_and r5 3) then K10 () else K15 () else none)))))) F (1, 0)
set_option maxRecDepth 100000 in
set_option maxHeartbeats 400000 in
theorem T_X9_isState {G : sG} {q_0 : qT} {x_0 : List Nat} {σ : sM} {r_0 : Int} {a1 : Int} {F : Nat}  (h : X9_isState F σ a1 = some r_0) : aM G yX9_isState cX9_isState 5 (some .boolean) 2 0 0 [.ref (gP G 55), vI a1] (mkSh q_0 x_0, σ) (r_0, (mkSh q_0 x_0, σ)) := by
  unfold X9_isState at h
  refine aM_of (by decide) (Nat.le_of_ble_eq_true rfl) ?_
  show aW G cX9_isState RX9 "isState" 5 (some .boolean) _ _ aX 0 0 _ [(0, .ref (gP G 55)), (1, vI a1)] 0 []
  refine a_iconst dX9_isState_0 ?_
  refine a_istore_n (L' := [(2, vI 1), (0, .ref (gP G 55)), (1, vI a1)]) dX9_isState_1 (by decide) rfl ?_
  refine a_iconst dX9_isState_2 ?_
  refine a_istore_n (L' := [(3, vI 0), (2, vI 1), (0, .ref (gP G 55)), (1, vI a1)]) dX9_isState_3 (by decide) rfl ?_
  refine a_sub (L' := [(0, .ref (gP G 55)), (1, vI a1), (2, vI 1), (3, vI 0)]) [2, 3, 1, 0] rfl (lp_s (x := (1, 0)) (fun q1 : Int × Int => aW G cX9_isState RX9 "isState" 5 (some .boolean) (sR 2 0 0) (aQ G (some .boolean) 0 0 (r_0, (mkSh q_0 x_0, σ))) aX 0 0 (mkSh q_0 x_0, σ) [(0, .ref (gP G 55)), (1, vI a1), (2, vI q1.1), (3, vI q1.2)] 4 []) h (fun K2 hK2 q1 h => ?_))
  refine a_iload_n 3 dX9_isState_4 rfl ?_
  refine a_iconst dX9_isState_5 ?_
  refine a_icmp_ge 61 dX9_isState_6 (by decide) rfl (by decide) h (fun c3 h => ?_) (fun c3 h => ?_)
  · skip
    refine a_iload_n 2 dX9_isState_61 rfl ?_
    refine a_gd h (fun c4 h => ?_)
    exact a_zret dX9_isState_62 rfl (nb_01 c4) (s_inj h) rfl
  · skip
    refine a_iload_n 1 dX9_isState_9 rfl ?_
    refine a_iload_n 3 dX9_isState_10 rfl ?_
    refine bp_s h (fun r5 e6 h => ?_)
    refine a_callSI dX9_isState_11 mX9_codeOf kv_X9_codeOf km_RX9_175 rfl (T_X9_codeOf e6) (fun _ => rfl) rfl (Nat.le_of_ble_eq_true rfl) (Nat.le_of_ble_eq_true rfl) ⟨(Nat.le_of_ble_eq_true rfl), (Nat.le_of_ble_eq_true rfl)⟩ (Nat.le_of_ble_eq_true rfl) ?_
    refine a_istore (L' := [(4, vI r5), (0, .ref (gP G 55)), (1, vI a1), (2, vI q1.1), (3, vI q1.2)]) dX9_isState_14 (by decide) rfl ?_
    refine a_iload_n 3 dX9_isState_16 rfl ?_
    refine jn_s (fun q7 : Int => aW G cX9_isState RX9 "isState" 5 (some .boolean) (sR 2 0 0) (aQ G (some .boolean) 0 0 (r_0, (mkSh q_0 x_0, σ))) aX 0 0 (mkSh q_0 x_0, σ) [(0, .ref (gP G 55)), (1, vI a1), (3, vI q1.2)] 54 [vI q7]) h (fun q7 h => ?_) (fun K8 hK8 h => ?_)
    · skip
      refine a_istore_n (L' := [(2, vI q7), (0, .ref (gP G 55)), (1, vI a1), (3, vI q1.2)]) dX9_isState_54 (by decide) rfl ?_
      refine a_iinc (L' := [(3, vI (q1.2 + 1)), (2, vI q7), (0, .ref (gP G 55)), (1, vI a1)]) 3 dX9_isState_55 rfl (by decide) rfl ?_
      refine a_goto 4 dX9_isState_58 (by decide) ?_
      have hh := hK2 _ h
      exact a_sub [2, 3, 1, 0] rfl hh
    · skip
      refine jn_s (fun q9 : Unit => aW G cX9_isState RX9 "isState" 5 (some .boolean) (sR 2 0 0) (aQ G (some .boolean) 0 0 (r_0, (mkSh q_0 x_0, σ))) aX 0 0 (mkSh q_0 x_0, σ) [(0, .ref (gP G 55)), (1, vI a1), (3, vI q1.2)] 53 []) h (fun q9 h => ?_) (fun K10 hK10 h => ?_)
      · skip
        refine a_iconst dX9_isState_53 ?_
        have hh := hK8 _ h
        exact a_sub [0, 1, 2] rfl hh
      · skip
        refine a_if_eq 53 dX9_isState_17 (by decide) rfl h (fun c11 h => ?_) (fun c11 h => ?_)
        · skip
          have hh := hK10 _ h
          exact a_sub [1, 2, 4] rfl hh
        · skip
          refine a_aload_n 1 dX9_isState_20 rfl ?_
          refine a_iload_n 4 dX9_isState_21 rfl ?_
          refine bp_s h (fun r12 e13 h => ?_)
          refine a_callVI dX9_isState_22 mX9_isWheel KX9 rfl kv_X9_isWheel ks_X9_isWheel rfl km_RX9_164 rfl (T_X9_isWheel e13) (fun _ => rfl) rfl (Nat.le_of_ble_eq_true rfl) (Nat.le_of_ble_eq_true rfl) ⟨(Nat.le_of_ble_eq_true rfl), (Nat.le_of_ble_eq_true rfl)⟩ (Nat.le_of_ble_eq_true rfl) ?_
          refine jn_s (fun q14 : Unit => aW G cX9_isState RX9 "isState" 5 (some .boolean) (sR 2 0 0) (aQ G (some .boolean) 0 0 (r_0, (mkSh q_0 x_0, σ))) aX 0 0 (mkSh q_0 x_0, σ) [(0, .ref (gP G 55)), (1, vI a1), (3, vI q1.2)] 49 []) h (fun q14 h => ?_) (fun K15 hK15 h => ?_)
          · skip
            refine a_iconst dX9_isState_49 ?_
            refine a_goto 54 dX9_isState_50 (by decide) ?_
            have hh := hK8 _ h
            exact a_sub [0, 1, 2] rfl hh
          · skip
            refine a_if_eq 44 dX9_isState_25 (by decide) rfl h (fun c16 h => ?_) (fun c16 h => ?_)
            · skip
              refine a_iload 0 dX9_isState_44 rfl ?_
              refine a_if_ne 53 dX9_isState_46 (by decide) rfl h (fun c17 h => ?_) (fun c17 h => ?_)
              · skip
                have hh := hK10 _ h
                exact a_sub [1, 2, 4] rfl hh
              · skip
                have hh := hK15 _ h
                exact a_sub [1, 2, 4] rfl hh
            · skip
              refine a_iload 0 dX9_isState_28 rfl ?_
              refine a_iconst dX9_isState_30 ?_
              refine a_iand dX9_isState_31 ?_
              refine a_aload_n 1 dX9_isState_32 rfl ?_
              refine a_getR (j := 9) dX9_isState_33 KX9 rfl (by decide) rfl kf_RX9_32 ?_
              refine a_iload_n 4 dX9_isState_36 rfl ?_
              refine a_gd h (fun c18 h => ?_)
              refine a_iald (x' := wi q1.2) dX9_isState_37 rfl rfl c18 rfl ?_
              refine a_icmp_gt 53 dX9_isState_38 (by decide) rfl rfl h (fun c19 h => ?_) (fun c19 h => ?_)
              · skip
                have hh := hK10 _ h
                exact a_sub [1, 2, 4] rfl hh
              · skip
                refine a_goto 49 dX9_isState_41 (by decide) ?_
                have hh := hK15 _ h
                exact a_sub [1, 2, 4] rfl hh

def X9_isRule (σ : sM) (a0 : Int) : Option Int := bp (X9_in σ a0 0 4) (fun r1 => if wi r1 = 0 ∨ wi r1 = 1 then some r1 else none)
set_option maxRecDepth 100000 in
set_option maxHeartbeats 400000 in
theorem T_X9_isRule {G : sG} {q_0 : qT} {x_0 : List Nat} {σ : sM} {r_0 : Int} {a0 : Int}  (h : X9_isRule σ a0 = some r_0) : aM G yX9_isRule cX9_isRule 1 (some .boolean) 1 0 0 [vI a0] (mkSh q_0 x_0, σ) (r_0, (mkSh q_0 x_0, σ)) := by
  unfold X9_isRule at h
  refine aM_of (by decide) (Nat.le_of_ble_eq_true rfl) ?_
  show aW G cX9_isRule RX9 "isRule" 1 (some .boolean) _ _ aX 0 0 _ [(0, vI a0)] 0 []
  refine a_iload_n 0 dX9_isRule_0 rfl ?_
  refine a_iconst dX9_isRule_1 ?_
  refine a_iconst dX9_isRule_2 ?_
  refine bp_s h (fun r1 e2 h => ?_)
  refine a_callSI dX9_isRule_3 mX9_in kv_X9_in km_RX9_103 rfl (T_X9_in e2) (fun _ => rfl) rfl (Nat.le_of_ble_eq_true rfl) (Nat.le_of_ble_eq_true rfl) ⟨(Nat.le_of_ble_eq_true rfl), (Nat.le_of_ble_eq_true rfl)⟩ (Nat.le_of_ble_eq_true rfl) ?_
  refine a_gd h (fun c3 h => ?_)
  exact a_zret dX9_isRule_6 rfl (nb_01 c3) (s_inj h) rfl

def X9_age (F : Nat) (σ : sM) (a1 a2 a3 : Int) : Option (Int × sM) := lp (fun K2 (q1 : sM × Int) => if wi q1.2 < 0 then some (0, q1.1) else jn (fun q4 : Int => bp (X9_goes q1.1 a1 q1.2 q4 a3) (fun r6 => if 0 ≤ wi a1 ∧ wi a1 < 9 then jn (fun q9 : Int => jn (fun q11 : Int => jn (fun q13 : Int => jn (fun q15 : sM => if 0 ≤ wi q1.2 ∧ wi q1.2 < 4 then if 0 ≤ wi q1.2 ∧ wi q1.2 < 4 then K2 ((sU q15 84 (wi q1.2).toNat ((q15 84 (wi q1.2).toNat) * (wi (10 - q13)))), q1.2 + (-1)) else none else none) (fun K16 => if 3 ≤ wi q1.2 then K16 q1.1 else if 0 ≤ wi (q1.2 + 1) ∧ wi (q1.2 + 1) < 4 then if 0 ≤ wi q1.2 ∧ wi q1.2 < 4 then if 0 ≤ wi (q1.2 + 1) ∧ wi (q1.2 + 1) < 4 then nm (sU q1.1 84 (wi (q1.2 + 1)).toNat ((q1.1 84 (wi (q1.2 + 1)).toNat) + ((q1.1 84 (wi q1.2).toNat) * (wi q13)))) (fun σ23 => K16 σ23) else none else none else none)) (fun K14 => if wi a2 = 0 then K14 q11 else K14 r6)) (fun K12 => if ¬ wi q9 = 0 then bp (X9_warmth q1.1 a3) (fun r27 => if wi (q9 + r27) ≤ 10 then bp (X9_warmth q1.1 a3) (fun r30 => K12 (q9 + r30)) else K12 10) else K12 0)) (fun K10 => jn (fun q32 : Unit => K10 0) (fun K33 => if ¬ wi (q1.1 73 (wi a1).toNat) = 0 then K33 () else if ¬ wi q1.2 = 3 then if 0 ≤ wi a1 ∧ wi a1 < 6 then if 0 ≤ wi (((14 * (q1.1 62 (wi a1).toNat)) + 7) + q1.2) ∧ wi (((14 * (q1.1 62 (wi a1).toNat)) + 7) + q1.2) < 112 then K10 (q1.1 61 (wi (((14 * (q1.1 62 (wi a1).toNat)) + 7) + q1.2)).toNat) else none else none else K33 ())) else none)) (fun K5 => if wi a2 = 0 then K5 0 else if 0 ≤ wi a1 ∧ wi a1 < 6 then K5 (q1.1 63 (wi a1).toNat) else none)) F (σ, 3)
set_option maxRecDepth 100000 in
set_option maxHeartbeats 400000 in
theorem T_X9_age {G : sG} {q_0 : qT} {x_0 : List Nat} {σ s_0 : sM} {r_0 : Int} {a1 a2 a3 : Int} {F : Nat}  (h : X9_age F σ a1 a2 a3 = some (r_0, s_0)) : aM G yX9_age cX9_age 9 none 2 0 0 [.ref (gP G 55), vI a1, vI a2, vI a3] (mkSh q_0 x_0, σ) (r_0, (mkSh q_0 x_0, s_0)) := by
  unfold X9_age at h
  refine aM_of (by decide) (Nat.le_of_ble_eq_true rfl) ?_
  show aW G cX9_age RX9 "age" 9 none _ _ aX 0 0 _ [(0, .ref (gP G 55)), (1, vI a1), (2, vI a2), (3, vI a3)] 0 []
  refine a_iconst dX9_age_0 ?_
  refine a_istore (L' := [(4, vI 3), (0, .ref (gP G 55)), (1, vI a1), (2, vI a2), (3, vI a3)]) dX9_age_1 (by decide) rfl ?_
  refine a_sub (L' := [(0, .ref (gP G 55)), (1, vI a1), (2, vI a2), (3, vI a3), (4, vI 3)]) [1, 2, 3, 4, 0] rfl (lp_s (x := (σ, 3)) (fun q1 : sM × Int => aW G cX9_age RX9 "age" 9 none (sR 2 0 0) (aQ G none 0 0 (r_0, (mkSh q_0 x_0, s_0))) aX 0 0 (mkSh q_0 x_0, q1.1) [(0, .ref (gP G 55)), (1, vI a1), (2, vI a2), (3, vI a3), (4, vI q1.2)] 3 []) h (fun K2 hK2 q1 h => ?_))
  refine a_iload 4 dX9_age_3 rfl ?_
  refine a_if_lt 174 dX9_age_5 (by decide) rfl h (fun c3 h => ?_) (fun c3 h => ?_)
  · skip
    exact a_vret dX9_age_174 rfl (p_S (p_2 h))
  · skip
    refine a_aload_n 0 dX9_age_8 rfl ?_
    refine a_iload_n 1 dX9_age_9 rfl ?_
    refine a_iload 4 dX9_age_10 rfl ?_
    refine a_iload_n 2 dX9_age_12 rfl ?_
    refine jn_s (fun q4 : Int => aW G cX9_age RX9 "age" 9 none (sR 2 0 0) (aQ G none 0 0 (r_0, (mkSh q_0 x_0, s_0))) aX 0 0 (mkSh q_0 x_0, q1.1) [(0, .ref (gP G 55)), (1, vI a1), (2, vI a2), (3, vI a3), (4, vI q1.2)] 26 [vI q4, vI q1.2, vI a1, .ref (gP G 55)]) h (fun q4 h => ?_) (fun K5 hK5 h => ?_)
    · skip
      refine a_iload_n 3 dX9_age_26 rfl ?_
      refine bp_s h (fun r6 e7 h => ?_)
      refine a_callVI dX9_age_27 mX9_goes KX9 rfl kv_X9_goes ks_X9_goes rfl km_RX9_171 rfl (T_X9_goes e7) (fun _ => rfl) rfl (Nat.le_of_ble_eq_true rfl) (Nat.le_of_ble_eq_true rfl) ⟨(Nat.le_of_ble_eq_true rfl), (Nat.le_of_ble_eq_true rfl)⟩ (Nat.le_of_ble_eq_true rfl) ?_
      refine a_istore (L' := [(5, vI r6), (0, .ref (gP G 55)), (1, vI a1), (2, vI a2), (3, vI a3), (4, vI q1.2)]) dX9_age_30 (by decide) rfl ?_
      refine a_aload_n 1 dX9_age_32 rfl ?_
      refine a_getR (j := 24) dX9_age_33 KX9 rfl (by decide) rfl kf_RX9_63 ?_
      refine a_iload_n 2 dX9_age_36 rfl ?_
      refine a_gd h (fun c8 h => ?_)
      refine a_zald (x' := wi a1) dX9_age_37 rfl rfl c8 rfl ?_
      refine jn_s (fun q9 : Int => aW G cX9_age RX9 "age" 9 none (sR 2 0 0) (aQ G none 0 0 (r_0, (mkSh q_0 x_0, s_0))) aX 0 0 (mkSh q_0 x_0, q1.1) [(0, .ref (gP G 55)), (1, vI a1), (2, vI a2), (3, vI a3), (4, vI q1.2), (5, vI r6)] 71 [vI q9]) h (fun q9 h => ?_) (fun K10 hK10 h => ?_)
      · skip
        refine a_istore (L' := [(6, vI q9), (0, .ref (gP G 55)), (1, vI a1), (2, vI a2), (3, vI a3), (4, vI q1.2), (5, vI r6)]) dX9_age_71 (by decide) rfl ?_
        refine a_iload 0 dX9_age_73 rfl ?_
        refine jn_s (fun q11 : Int => aW G cX9_age RX9 "age" 9 none (sR 2 0 0) (aQ G none 0 0 (r_0, (mkSh q_0 x_0, s_0))) aX 0 0 (mkSh q_0 x_0, q1.1) [(0, .ref (gP G 55)), (1, vI a1), (2, vI a2), (3, vI a3), (4, vI q1.2), (5, vI r6)] 108 [vI q11]) h (fun q11 h => ?_) (fun K12 hK12 h => ?_)
        · skip
          refine a_istore (L' := [(7, vI q11), (0, .ref (gP G 55)), (1, vI a1), (2, vI a2), (3, vI a3), (4, vI q1.2), (5, vI r6)]) dX9_age_108 (by decide) rfl ?_
          refine a_iload_n 3 dX9_age_110 rfl ?_
          refine jn_s (fun q13 : Int => aW G cX9_age RX9 "age" 9 none (sR 2 0 0) (aQ G none 0 0 (r_0, (mkSh q_0 x_0, s_0))) aX 0 0 (mkSh q_0 x_0, q1.1) [(0, .ref (gP G 55)), (1, vI a1), (2, vI a2), (3, vI a3), (4, vI q1.2)] 121 [vI q13]) h (fun q13 h => ?_) (fun K14 hK14 h => ?_)
          · skip
            refine a_istore (L' := [(8, vI q13), (0, .ref (gP G 55)), (1, vI a1), (2, vI a2), (3, vI a3), (4, vI q1.2)]) dX9_age_121 (by decide) rfl ?_
            refine a_iload 5 dX9_age_123 rfl ?_
            refine a_iconst dX9_age_125 ?_
            refine jn_s (fun q15 : sM => aW G cX9_age RX9 "age" 9 none (sR 2 0 0) (aQ G none 0 0 (r_0, (mkSh q_0 x_0, s_0))) aX 0 0 (mkSh q_0 x_0, q15) [(0, .ref (gP G 55)), (1, vI a1), (2, vI a2), (3, vI a3), (4, vI q1.2), (8, vI q13)] 152 []) h (fun q15 h => ?_) (fun K16 hK16 h => ?_)
            · skip
              refine a_aload_n 0 dX9_age_152 rfl ?_
              refine a_getR (j := 35) dX9_age_153 KX9 rfl (by decide) rfl kf_RX9_96 ?_
              refine a_iload 4 dX9_age_156 rfl ?_
              refine a_dup2 dX9_age_158 ?_
              refine a_gd h (fun c17 h => ?_)
              refine a_lald (x' := wi q1.2) dX9_age_159 rfl rfl c17 rfl ?_
              refine a_bipush dX9_age_160 (by decide) ?_
              refine a_iload 5 dX9_age_162 rfl ?_
              refine a_isub dX9_age_164 ?_
              refine a_i2l dX9_age_165 ?_
              refine a_lmul dX9_age_166 ?_
              refine a_gd h (fun c18 h => ?_)
              refine a_last (x' := wi q1.2) dX9_age_167 rfl rfl c18 rfl ?_
              refine a_iinc (L' := [(4, vI (q1.2 + (-1))), (0, .ref (gP G 55)), (1, vI a1), (2, vI a2), (3, vI a3), (8, vI q13)]) 4 dX9_age_168 rfl (by decide) rfl ?_
              refine a_goto 3 dX9_age_171 (by decide) ?_
              have hh := hK2 _ h
              exact a_sub [1, 2, 3, 4, 0] rfl hh
            · skip
              refine a_icmp_ge 152 dX9_age_126 (by decide) rfl (by decide) h (fun c19 h => ?_) (fun c19 h => ?_)
              · skip
                have hh := hK16 _ h
                exact a_sub [1, 2, 3, 4, 5, 0] rfl hh
              · skip
                refine a_aload_n 1 dX9_age_129 rfl ?_
                refine a_getR (j := 35) dX9_age_130 KX9 rfl (by decide) rfl kf_RX9_96 ?_
                refine a_iload 5 dX9_age_133 rfl ?_
                refine a_iconst dX9_age_135 ?_
                refine a_iadd dX9_age_136 ?_
                refine a_dup2 dX9_age_137 ?_
                refine a_gd h (fun c20 h => ?_)
                refine a_lald (x' := wi (q1.2 + 1)) dX9_age_138 rfl rfl c20 rfl ?_
                refine a_aload_n 1 dX9_age_139 rfl ?_
                refine a_getR (j := 35) dX9_age_140 KX9 rfl (by decide) rfl kf_RX9_96 ?_
                refine a_iload 5 dX9_age_143 rfl ?_
                refine a_gd h (fun c21 h => ?_)
                refine a_lald (x' := wi q1.2) dX9_age_145 rfl rfl c21 rfl ?_
                refine a_iload 0 dX9_age_146 rfl ?_
                refine a_i2l dX9_age_148 ?_
                refine a_lmul dX9_age_149 ?_
                refine a_ladd dX9_age_150 ?_
                refine a_gd h (fun c22 h => ?_)
                refine a_last (x' := wi (q1.2 + 1)) dX9_age_151 rfl rfl c22 rfl ?_
                refine a_nmS h (fun σ23 w24 h => ?_)
                have hh := hK16 _ h
                exact a_sub [1, 2, 3, 4, 5, 0] rfl hh
          · skip
            refine a_if_eq 119 dX9_age_111 (by decide) rfl h (fun c25 h => ?_) (fun c25 h => ?_)
            · skip
              refine a_iload 0 dX9_age_119 rfl ?_
              have hh := hK14 _ h
              exact a_sub [1, 2, 3, 4, 5] rfl hh
            · skip
              refine a_iload 6 dX9_age_114 rfl ?_
              refine a_goto 121 dX9_age_116 (by decide) ?_
              have hh := hK14 _ h
              exact a_sub [1, 2, 3, 4, 5] rfl hh
        · skip
          refine a_if_ne 82 dX9_age_75 (by decide) rfl h (fun c26 h => ?_) (fun c26 h => ?_)
          · skip
            refine a_iload 0 dX9_age_82 rfl ?_
            refine a_aload_n 1 dX9_age_84 rfl ?_
            refine a_iload_n 4 dX9_age_85 rfl ?_
            refine bp_s h (fun r27 e28 h => ?_)
            refine a_callVI dX9_age_86 mX9_warmth KX9 rfl kv_X9_warmth ks_X9_warmth rfl km_RX9_161 rfl (T_X9_warmth e28) (fun _ => rfl) rfl (Nat.le_of_ble_eq_true rfl) (Nat.le_of_ble_eq_true rfl) ⟨(Nat.le_of_ble_eq_true rfl), (Nat.le_of_ble_eq_true rfl)⟩ (Nat.le_of_ble_eq_true rfl) ?_
            refine a_iadd dX9_age_89 ?_
            refine a_bipush dX9_age_90 (by decide) ?_
            refine a_icmp_le 100 dX9_age_92 (by decide) rfl (by decide) h (fun c29 h => ?_) (fun c29 h => ?_)
            · skip
              refine a_iload 0 dX9_age_100 rfl ?_
              refine a_aload_n 1 dX9_age_102 rfl ?_
              refine a_iload_n 4 dX9_age_103 rfl ?_
              refine bp_s h (fun r30 e31 h => ?_)
              refine a_callVI dX9_age_104 mX9_warmth KX9 rfl kv_X9_warmth ks_X9_warmth rfl km_RX9_161 rfl (T_X9_warmth e31) (fun _ => rfl) rfl (Nat.le_of_ble_eq_true rfl) (Nat.le_of_ble_eq_true rfl) ⟨(Nat.le_of_ble_eq_true rfl), (Nat.le_of_ble_eq_true rfl)⟩ (Nat.le_of_ble_eq_true rfl) ?_
              refine a_iadd dX9_age_107 ?_
              have hh := hK12 _ h
              exact a_sub [1, 2, 3, 4, 5, 6] rfl hh
            · skip
              refine a_bipush dX9_age_95 (by decide) ?_
              refine a_goto 108 dX9_age_97 (by decide) ?_
              have hh := hK12 _ h
              exact a_sub [1, 2, 3, 4, 5, 6] rfl hh
          · skip
            refine a_iconst dX9_age_78 ?_
            refine a_goto 108 dX9_age_79 (by decide) ?_
            have hh := hK12 _ h
            exact a_sub [1, 2, 3, 4, 5, 6] rfl hh
      · skip
        refine jn_s (fun q32 : Unit => aW G cX9_age RX9 "age" 9 none (sR 2 0 0) (aQ G none 0 0 (r_0, (mkSh q_0 x_0, s_0))) aX 0 0 (mkSh q_0 x_0, q1.1) [(0, .ref (gP G 55)), (1, vI a1), (2, vI a2), (3, vI a3), (4, vI q1.2), (5, vI r6)] 47 []) h (fun q32 h => ?_) (fun K33 hK33 h => ?_)
        · skip
          refine a_iconst dX9_age_47 ?_
          refine a_goto 71 dX9_age_48 (by decide) ?_
          have hh := hK10 _ h
          exact a_sub [0, 1, 2, 3, 4, 5] rfl hh
        · skip
          refine a_if_ne 47 dX9_age_38 (by decide) rfl h (fun c34 h => ?_) (fun c34 h => ?_)
          · skip
            have hh := hK33 _ h
            exact a_sub [1, 2, 3, 4, 5, 0] rfl hh
          · skip
            refine a_iload 5 dX9_age_41 rfl ?_
            refine a_iconst dX9_age_43 ?_
            refine a_icmp_ne 51 dX9_age_44 (by decide) rfl (by decide) h (fun c35 h => ?_) (fun c35 h => ?_)
            · skip
              refine a_aload_n 1 dX9_age_51 rfl ?_
              refine a_getR (j := 7) dX9_age_52 KX9 rfl (by decide) rfl kf_RX9_26 ?_
              refine a_bipush dX9_age_55 (by decide) ?_
              refine a_aload_n 1 dX9_age_57 rfl ?_
              refine a_getR (j := 8) dX9_age_58 KX9 rfl (by decide) rfl kf_RX9_29 ?_
              refine a_iload_n 2 dX9_age_61 rfl ?_
              refine a_gd h (fun c36 h => ?_)
              refine a_iald (x' := wi a1) dX9_age_62 rfl rfl c36 rfl ?_
              refine a_imul dX9_age_63 ?_
              refine a_bipush dX9_age_64 (by decide) ?_
              refine a_iadd dX9_age_66 ?_
              refine a_iload 5 dX9_age_67 rfl ?_
              refine a_iadd dX9_age_69 ?_
              refine a_gd h (fun c37 h => ?_)
              refine a_iald (x' := wi (((14 * (q1.1 62 (wi a1).toNat)) + 7) + q1.2)) dX9_age_70 rfl rfl c37 rfl ?_
              have hh := hK10 _ h
              exact a_sub [1, 2, 3, 4, 5, 0] rfl hh
            · skip
              have hh := hK33 _ h
              exact a_sub [1, 2, 3, 4, 5, 0] rfl hh
    · skip
      refine a_if_eq 25 dX9_age_13 (by decide) rfl h (fun c38 h => ?_) (fun c38 h => ?_)
      · skip
        refine a_iconst dX9_age_25 ?_
        have hh := hK5 _ h
        exact a_sub [0, 1, 2, 3, 4] rfl hh
      · skip
        refine a_aload_n 0 dX9_age_16 rfl ?_
        refine a_getR (j := 9) dX9_age_17 KX9 rfl (by decide) rfl kf_RX9_32 ?_
        refine a_iload_n 1 dX9_age_20 rfl ?_
        refine a_gd h (fun c39 h => ?_)
        refine a_iald (x' := wi a1) dX9_age_21 rfl rfl c39 rfl ?_
        refine a_goto 26 dX9_age_22 (by decide) ?_
        have hh := hK5 _ h
        exact a_sub [0, 1, 2, 3, 4] rfl hh

def X9_gainOf (F : Nat) (σ : sM) (a1 a2 a3 : Int) : Option (Int × sM) := lp (fun K2 (q1 : sM × Int) => if 4 ≤ wi q1.2 then lp (fun K5 (q4 : sM × Int × Int) => if wi a3 ≤ wi q4.2.2 then lp (fun K8 (q7 : Int × Int) => if 4 ≤ wi q7.2 then if ¬ wl q4.2.1 = 0 then some (q_ldiv (q7.1 * 1000) q4.2.1, q4.1) else none else if 0 ≤ wi q7.2 ∧ wi q7.2 < 4 then bp (X9_goodOf q4.1 a1 q7.2) (fun r12 => K8 (q7.1 + ((q4.1 84 (wi q7.2).toNat) * (wi r12)), q7.2 + 1)) else none) F (0, 0) else jn (fun q14 : Int => bn (X9_age F q4.1 a1 q14 q4.2.2) (fun r16 σ18 => K5 (σ18, q4.2.1 * 10, q4.2.2 + 1))) (fun K15 => jn (fun q19 : Unit => K15 0) (fun K20 => if 8 ≤ wi a2 then K20 () else if wi a2 ≤ wi q4.2.2 then K20 () else K15 1))) F (q1.1, 1, q1.1 66 0) else if 0 ≤ wi a1 ∧ wi a1 < 9 then jn (fun q24 : Int => if 0 ≤ wi q1.2 ∧ wi q1.2 < 4 then K2 ((sU q1.1 84 (wi q1.2).toNat q24), q1.2 + 1) else none) (fun K25 => if ¬ wi q1.2 = wi (q1.1 71 (wi a1).toNat) then K25 0 else K25 1) else none) F (σ, 0)
set_option maxRecDepth 100000 in
set_option maxHeartbeats 400000 in
theorem T_X9_gainOf {G : sG} {q_0 : qT} {x_0 : List Nat} {σ s_0 : sM} {r_0 : Int} {a1 a2 a3 : Int} {F : Nat}  (h : X9_gainOf F σ a1 a2 a3 = some (r_0, s_0)) : aM G yX9_gainOf cX9_gainOf 9 (some .int) 3 0 0 [.ref (gP G 55), vI a1, vI a2, vI a3] (mkSh q_0 x_0, σ) (r_0, (mkSh q_0 x_0, s_0)) := by
  unfold X9_gainOf at h
  refine aM_of (by decide) (Nat.le_of_ble_eq_true rfl) ?_
  show aW G cX9_gainOf RX9 "gainOf" 9 (some .int) _ _ aX 0 0 _ [(0, .ref (gP G 55)), (1, vI a1), (2, vI a2), (3, vI a3)] 0 []
  refine a_lconst (z := 1) dX9_gainOf_0 (by decide) ?_
  refine a_lstore (L' := [(4, vL 1), (0, .ref (gP G 55)), (1, vI a1), (2, vI a2), (3, vI a3)]) dX9_gainOf_1 (by decide) rfl ?_
  refine a_iconst dX9_gainOf_3 ?_
  refine a_istore (L' := [(6, vI 0), (4, vL 1), (0, .ref (gP G 55)), (1, vI a1), (2, vI a2), (3, vI a3)]) dX9_gainOf_4 (by decide) rfl ?_
  refine a_sub (L' := [(0, .ref (gP G 55)), (1, vI a1), (2, vI a2), (3, vI a3), (4, vL 1), (6, vI 0)]) [2, 3, 4, 5, 1, 0] rfl (lp_s (x := (σ, 0)) (fun q1 : sM × Int => aW G cX9_gainOf RX9 "gainOf" 9 (some .int) (sR 3 0 0) (aQ G (some .int) 0 0 (r_0, (mkSh q_0 x_0, s_0))) aX 0 0 (mkSh q_0 x_0, q1.1) [(0, .ref (gP G 55)), (1, vI a1), (2, vI a2), (3, vI a3), (4, vL 1), (6, vI q1.2)] 6 []) h (fun K2 hK2 q1 h => ?_))
  refine a_iload 5 dX9_gainOf_6 rfl ?_
  refine a_iconst dX9_gainOf_8 ?_
  refine a_icmp_ge 41 dX9_gainOf_9 (by decide) rfl (by decide) h (fun c3 h => ?_) (fun c3 h => ?_)
  · skip
    refine a_aload_n 0 dX9_gainOf_41 rfl ?_
    refine a_getR (j := 17) dX9_gainOf_42 KX9 rfl (by decide) rfl kf_RX9_41 ?_
    refine a_iconst dX9_gainOf_45 ?_
    refine a_iald (x' := 0) dX9_gainOf_46 rfl (by decide) (by decide) rfl ?_
    refine a_istore (L' := [(6, vI (q1.1 66 0)), (0, .ref (gP G 55)), (1, vI a1), (2, vI a2), (3, vI a3), (4, vL 1)]) dX9_gainOf_47 (by decide) rfl ?_
    refine a_sub (L' := [(0, .ref (gP G 55)), (1, vI a1), (2, vI a2), (3, vI a3), (4, vL 1), (6, vI (q1.1 66 0))]) [1, 2, 3, 4, 5, 0] rfl (lp_s (x := (q1.1, 1, q1.1 66 0)) (fun q4 : sM × Int × Int => aW G cX9_gainOf RX9 "gainOf" 9 (some .int) (sR 3 0 0) (aQ G (some .int) 0 0 (r_0, (mkSh q_0 x_0, s_0))) aX 0 0 (mkSh q_0 x_0, q4.1) [(0, .ref (gP G 55)), (1, vI a1), (2, vI a2), (3, vI a3), (4, vL q4.2.1), (6, vI q4.2.2)] 49 []) h (fun K5 hK5 q4 h => ?_))
    refine a_iload 5 dX9_gainOf_49 rfl ?_
    refine a_iload_n 3 dX9_gainOf_51 rfl ?_
    refine a_icmp_ge 93 dX9_gainOf_52 (by decide) rfl rfl h (fun c6 h => ?_) (fun c6 h => ?_)
    · skip
      refine a_lconst (z := 0) dX9_gainOf_93 (by decide) ?_
      refine a_lstore (L' := [(6, vL 0), (0, .ref (gP G 55)), (1, vI a1), (2, vI a2), (3, vI a3), (4, vL q4.2.1)]) dX9_gainOf_94 (by decide) rfl ?_
      refine a_iconst dX9_gainOf_96 ?_
      refine a_istore (L' := [(8, vI 0), (6, vL 0), (0, .ref (gP G 55)), (1, vI a1), (2, vI a2), (3, vI a3), (4, vL q4.2.1)]) dX9_gainOf_97 (by decide) rfl ?_
      refine a_sub (L' := [(0, .ref (gP G 55)), (1, vI a1), (4, vL q4.2.1), (6, vL 0), (8, vI 0)]) [2, 3, 6, 1, 0] rfl (lp_s (x := (0, 0)) (fun q7 : Int × Int => aW G cX9_gainOf RX9 "gainOf" 9 (some .int) (sR 3 0 0) (aQ G (some .int) 0 0 (r_0, (mkSh q_0 x_0, s_0))) aX 0 0 (mkSh q_0 x_0, q4.1) [(0, .ref (gP G 55)), (1, vI a1), (4, vL q4.2.1), (6, vL q7.1), (8, vI q7.2)] 99 []) h (fun K8 hK8 q7 h => ?_))
      refine a_iload 4 dX9_gainOf_99 rfl ?_
      refine a_iconst dX9_gainOf_101 ?_
      refine a_icmp_ge 132 dX9_gainOf_102 (by decide) rfl (by decide) h (fun c9 h => ?_) (fun c9 h => ?_)
      · skip
        refine a_lload 3 dX9_gainOf_132 rfl ?_
        refine a_ldc2 (z := 1000) dX9_gainOf_134 kc_RX9_203 (by decide) ?_
        refine a_lmul dX9_gainOf_137 ?_
        refine a_lload 2 dX9_gainOf_138 rfl ?_
        refine a_gd h (fun c10 h => ?_)
        refine a_ldiv dX9_gainOf_140 (nz_l c10) ?_
        refine a_l2i dX9_gainOf_141 ?_
        exact a_iret dX9_gainOf_142 rfl (p_1 h) (p_S (p_2 h))
      · skip
        refine a_lload 3 dX9_gainOf_105 rfl ?_
        refine a_aload_n 0 dX9_gainOf_107 rfl ?_
        refine a_getR (j := 35) dX9_gainOf_108 KX9 rfl (by decide) rfl kf_RX9_96 ?_
        refine a_iload 4 dX9_gainOf_111 rfl ?_
        refine a_gd h (fun c11 h => ?_)
        refine a_lald (x' := wi q7.2) dX9_gainOf_113 rfl rfl c11 rfl ?_
        refine a_aload_n 0 dX9_gainOf_114 rfl ?_
        refine a_iload_n 1 dX9_gainOf_115 rfl ?_
        refine a_iload 4 dX9_gainOf_116 rfl ?_
        refine bp_s h (fun r12 e13 h => ?_)
        refine a_callVI dX9_gainOf_118 mX9_goodOf KX9 rfl kv_X9_goodOf ks_X9_goodOf rfl km_RX9_168 rfl (T_X9_goodOf e13) (fun _ => rfl) rfl (Nat.le_of_ble_eq_true rfl) (Nat.le_of_ble_eq_true rfl) ⟨(Nat.le_of_ble_eq_true rfl), (Nat.le_of_ble_eq_true rfl)⟩ (Nat.le_of_ble_eq_true rfl) ?_
        refine a_i2l dX9_gainOf_121 ?_
        refine a_lmul dX9_gainOf_122 ?_
        refine a_ladd dX9_gainOf_123 ?_
        refine a_lstore (L' := [(6, vL (q7.1 + ((q4.1 84 (wi q7.2).toNat) * (wi r12)))), (0, .ref (gP G 55)), (1, vI a1), (4, vL q4.2.1), (8, vI q7.2)]) dX9_gainOf_124 (by decide) rfl ?_
        refine a_iinc (L' := [(8, vI (q7.2 + 1)), (6, vL (q7.1 + ((q4.1 84 (wi q7.2).toNat) * (wi r12)))), (0, .ref (gP G 55)), (1, vI a1), (4, vL q4.2.1)]) 4 dX9_gainOf_126 rfl (by decide) rfl ?_
        refine a_goto 99 dX9_gainOf_129 (by decide) ?_
        have hh := hK8 _ h
        exact a_sub [2, 3, 4, 1, 0] rfl hh
    · skip
      refine a_aload_n 0 dX9_gainOf_55 rfl ?_
      refine a_iload_n 1 dX9_gainOf_56 rfl ?_
      refine a_iload_n 2 dX9_gainOf_57 rfl ?_
      refine a_bipush dX9_gainOf_58 (by decide) ?_
      refine jn_s (fun q14 : Int => aW G cX9_gainOf RX9 "gainOf" 9 (some .int) (sR 3 0 0) (aQ G (some .int) 0 0 (r_0, (mkSh q_0 x_0, s_0))) aX 0 0 (mkSh q_0 x_0, q4.1) [(0, .ref (gP G 55)), (1, vI a1), (2, vI a2), (3, vI a3), (4, vL q4.2.1), (6, vI q4.2.2)] 74 [vI q14, vI a1, .ref (gP G 55)]) h (fun q14 h => ?_) (fun K15 hK15 h => ?_)
      · skip
        refine a_iload 5 dX9_gainOf_74 rfl ?_
        refine bn_s h (fun r16 σ18 e17 h => ?_)
        refine a_callVV dX9_gainOf_76 mX9_age KX9 rfl kv_X9_age ks_X9_age rfl km_RX9_249 rfl (T_X9_age e17) (fun _ => rfl) rfl (Nat.le_of_ble_eq_true rfl) (Nat.le_of_ble_eq_true rfl) ⟨(Nat.le_of_ble_eq_true rfl), (Nat.le_of_ble_eq_true rfl)⟩ (Nat.le_of_ble_eq_true rfl) ?_
        refine a_lload 4 dX9_gainOf_79 rfl ?_
        refine a_ldc2 (z := 10) dX9_gainOf_81 kc_RX9_253 (by decide) ?_
        refine a_lmul dX9_gainOf_84 ?_
        refine a_lstore (L' := [(4, vL (q4.2.1 * 10)), (0, .ref (gP G 55)), (1, vI a1), (2, vI a2), (3, vI a3), (6, vI q4.2.2)]) dX9_gainOf_85 (by decide) rfl ?_
        refine a_iinc (L' := [(6, vI (q4.2.2 + 1)), (4, vL (q4.2.1 * 10)), (0, .ref (gP G 55)), (1, vI a1), (2, vI a2), (3, vI a3)]) 5 dX9_gainOf_87 rfl (by decide) rfl ?_
        refine a_goto 49 dX9_gainOf_90 (by decide) ?_
        have hh := hK5 _ h
        exact a_sub [2, 3, 4, 5, 1, 0] rfl hh
      · skip
        refine jn_s (fun q19 : Unit => aW G cX9_gainOf RX9 "gainOf" 9 (some .int) (sR 3 0 0) (aQ G (some .int) 0 0 (r_0, (mkSh q_0 x_0, s_0))) aX 0 0 (mkSh q_0 x_0, q4.1) [(0, .ref (gP G 55)), (1, vI a1), (2, vI a2), (3, vI a3), (4, vL q4.2.1), (6, vI q4.2.2)] 73 [vI a1, .ref (gP G 55)]) h (fun q19 h => ?_) (fun K20 hK20 h => ?_)
        · skip
          refine a_iconst dX9_gainOf_73 ?_
          have hh := hK15 _ h
          exact a_sub [0, 1, 2, 3, 4, 5] rfl hh
        · skip
          refine a_icmp_ge 73 dX9_gainOf_60 (by decide) rfl (by decide) h (fun c21 h => ?_) (fun c21 h => ?_)
          · skip
            have hh := hK20 _ h
            exact a_sub [0, 1, 2, 3, 4, 5] rfl hh
          · skip
            refine a_iload 5 dX9_gainOf_63 rfl ?_
            refine a_iload_n 2 dX9_gainOf_65 rfl ?_
            refine a_icmp_ge 73 dX9_gainOf_66 (by decide) rfl rfl h (fun c22 h => ?_) (fun c22 h => ?_)
            · skip
              have hh := hK20 _ h
              exact a_sub [0, 1, 2, 3, 4, 5] rfl hh
            · skip
              refine a_iconst dX9_gainOf_69 ?_
              refine a_goto 74 dX9_gainOf_70 (by decide) ?_
              have hh := hK15 _ h
              exact a_sub [0, 1, 2, 3, 4, 5] rfl hh
  · skip
    refine a_aload_n 0 dX9_gainOf_12 rfl ?_
    refine a_getR (j := 35) dX9_gainOf_13 KX9 rfl (by decide) rfl kf_RX9_96 ?_
    refine a_iload 5 dX9_gainOf_16 rfl ?_
    refine a_iload 5 dX9_gainOf_18 rfl ?_
    refine a_aload_n 0 dX9_gainOf_20 rfl ?_
    refine a_getR (j := 22) dX9_gainOf_21 KX9 rfl (by decide) rfl kf_RX9_57 ?_
    refine a_iload_n 1 dX9_gainOf_24 rfl ?_
    refine a_gd h (fun c23 h => ?_)
    refine a_iald (x' := wi a1) dX9_gainOf_25 rfl rfl c23 rfl ?_
    refine jn_s (fun q24 : Int => aW G cX9_gainOf RX9 "gainOf" 9 (some .int) (sR 3 0 0) (aQ G (some .int) 0 0 (r_0, (mkSh q_0 x_0, s_0))) aX 0 0 (mkSh q_0 x_0, q1.1) [(0, .ref (gP G 55)), (1, vI a1), (2, vI a2), (3, vI a3), (4, vL 1), (6, vI q1.2)] 34 [vL q24, vI q1.2, .ref (gP G 84)]) h (fun q24 h => ?_) (fun K25 hK25 h => ?_)
    · skip
      refine a_gd h (fun c26 h => ?_)
      refine a_last (x' := wi q1.2) dX9_gainOf_34 rfl rfl c26 rfl ?_
      refine a_iinc (L' := [(6, vI (q1.2 + 1)), (0, .ref (gP G 55)), (1, vI a1), (2, vI a2), (3, vI a3), (4, vL 1)]) 5 dX9_gainOf_35 rfl (by decide) rfl ?_
      refine a_goto 6 dX9_gainOf_38 (by decide) ?_
      have hh := hK2 _ h
      exact a_sub [1, 2, 3, 4, 5, 0] rfl hh
    · skip
      refine a_icmp_ne 33 dX9_gainOf_26 (by decide) rfl rfl h (fun c27 h => ?_) (fun c27 h => ?_)
      · skip
        refine a_lconst (z := 0) dX9_gainOf_33 (by decide) ?_
        have hh := hK25 _ h
        exact a_sub [0, 1, 2, 3, 4, 5] rfl hh
      · skip
        refine a_lconst (z := 1) dX9_gainOf_29 (by decide) ?_
        refine a_goto 34 dX9_gainOf_30 (by decide) ?_
        have hh := hK25 _ h
        exact a_sub [0, 1, 2, 3, 4, 5] rfl hh

def X9_firstWeek (σ : sM) : Option Int := jn (fun q1 : Int => some ((σ 66 0) + q1)) (fun K2 => if wi (σ 67 0) = 0 then K2 0 else K2 1)
set_option maxRecDepth 100000 in
set_option maxHeartbeats 400000 in
theorem T_X9_firstWeek {G : sG} {q_0 : qT} {x_0 : List Nat} {σ : sM} {r_0 : Int}  (h : X9_firstWeek σ = some r_0) : aM G yX9_firstWeek cX9_firstWeek 1 (some .int) 0 0 0 [.ref (gP G 55)] (mkSh q_0 x_0, σ) (r_0, (mkSh q_0 x_0, σ)) := by
  unfold X9_firstWeek at h
  refine aM_of (by decide) (Nat.le_of_ble_eq_true rfl) ?_
  show aW G cX9_firstWeek RX9 "firstWeek" 1 (some .int) _ _ aX 0 0 _ [(0, .ref (gP G 55))] 0 []
  refine a_aload_n 0 dX9_firstWeek_0 rfl ?_
  refine a_getR (j := 17) dX9_firstWeek_1 KX9 rfl (by decide) rfl kf_RX9_41 ?_
  refine a_iconst dX9_firstWeek_4 ?_
  refine a_iald (x' := 0) dX9_firstWeek_5 rfl (by decide) (by decide) rfl ?_
  refine a_aload_n 0 dX9_firstWeek_6 rfl ?_
  refine a_getR (j := 18) dX9_firstWeek_7 KX9 rfl (by decide) rfl kf_RX9_44 ?_
  refine a_iconst dX9_firstWeek_10 ?_
  refine a_zald (x' := 0) dX9_firstWeek_11 rfl (by decide) (by decide) rfl ?_
  refine jn_s (fun q1 : Int => aW G cX9_firstWeek RX9 "firstWeek" 1 (some .int) (sR 0 0 0) (aQ G (some .int) 0 0 (r_0, (mkSh q_0 x_0, σ))) aX 0 0 (mkSh q_0 x_0, σ) [] 20 [vI q1, vI (σ 66 0)]) h (fun q1 h => ?_) (fun K2 hK2 h => ?_)
  · skip
    refine a_iadd dX9_firstWeek_20 ?_
    exact a_iret dX9_firstWeek_21 rfl (s_inj h) rfl
  · skip
    refine a_if_eq 19 dX9_firstWeek_12 (by decide) rfl h (fun c3 h => ?_) (fun c3 h => ?_)
    · skip
      refine a_iconst dX9_firstWeek_19 ?_
      have hh := hK2 _ h
      exact a_sub [] rfl hh
    · skip
      refine a_iconst dX9_firstWeek_15 ?_
      refine a_goto 20 dX9_firstWeek_16 (by decide) ?_
      have hh := hK2 _ h
      exact a_sub [] rfl hh

def X9_mayBlind (F : Nat) (σ : sM) (a1 : Int) : Option Int := lp (fun K2 (q1 : Int × Int) => if wi (σ 58 0) ≤ wi q1.2 then bp (X9_isWheel σ a1) (fun r4 => if wi r4 = 0 then some 0 else if 0 ≤ wi a1 ∧ wi a1 < 3 then if wi (σ 83 (wi a1).toNat) ≤ 0 then some 0 else if 0 ≤ wi a1 ∧ wi a1 < 3 then if 0 ≤ wi a1 ∧ wi a1 < 6 then if wi (σ 83 (wi a1).toNat) < wi (σ 63 (wi a1).toNat) then some 1 else if wi (σ 60 0) ≤ wi q1.1 then some 0 else some 1 else none else none else none) else jn (fun q13 : Int => K2 (q1.1 + q13, q1.2 + 1)) (fun K14 => jn (fun q15 : Unit => K14 0) (fun K16 => if wi q1.2 = wi a1 then K16 () else if 0 ≤ wi q1.2 ∧ wi q1.2 < 3 then if wi (σ 83 (wi q1.2).toNat) ≤ 0 then K16 () else if 0 ≤ wi q1.2 ∧ wi q1.2 < 3 then if 0 ≤ wi q1.2 ∧ wi q1.2 < 6 then if wi (σ 63 (wi q1.2).toNat) ≤ wi (σ 83 (wi q1.2).toNat) then K16 () else K14 1 else none else none else none))) F (0, 0)
set_option maxRecDepth 100000 in
set_option maxHeartbeats 400000 in
theorem T_X9_mayBlind {G : sG} {q_0 : qT} {x_0 : List Nat} {σ : sM} {r_0 : Int} {a1 : Int} {F : Nat}  (h : X9_mayBlind F σ a1 = some r_0) : aM G yX9_mayBlind cX9_mayBlind 4 (some .boolean) 2 0 0 [.ref (gP G 55), vI a1] (mkSh q_0 x_0, σ) (r_0, (mkSh q_0 x_0, σ)) := by
  unfold X9_mayBlind at h
  refine aM_of (by decide) (Nat.le_of_ble_eq_true rfl) ?_
  show aW G cX9_mayBlind RX9 "mayBlind" 4 (some .boolean) _ _ aX 0 0 _ [(0, .ref (gP G 55)), (1, vI a1)] 0 []
  refine a_iconst dX9_mayBlind_0 ?_
  refine a_istore_n (L' := [(2, vI 0), (0, .ref (gP G 55)), (1, vI a1)]) dX9_mayBlind_1 (by decide) rfl ?_
  refine a_iconst dX9_mayBlind_2 ?_
  refine a_istore_n (L' := [(3, vI 0), (2, vI 0), (0, .ref (gP G 55)), (1, vI a1)]) dX9_mayBlind_3 (by decide) rfl ?_
  refine a_sub (L' := [(0, .ref (gP G 55)), (1, vI a1), (2, vI 0), (3, vI 0)]) [2, 3, 1, 0] rfl (lp_s (x := (0, 0)) (fun q1 : Int × Int => aW G cX9_mayBlind RX9 "mayBlind" 4 (some .boolean) (sR 2 0 0) (aQ G (some .boolean) 0 0 (r_0, (mkSh q_0 x_0, σ))) aX 0 0 (mkSh q_0 x_0, σ) [(0, .ref (gP G 55)), (1, vI a1), (2, vI q1.1), (3, vI q1.2)] 4 []) h (fun K2 hK2 q1 h => ?_))
  refine a_iload_n 3 dX9_mayBlind_4 rfl ?_
  refine a_aload_n 0 dX9_mayBlind_5 rfl ?_
  refine a_getR (j := 4) dX9_mayBlind_6 KX9 rfl (by decide) rfl kf_RX9_17 ?_
  refine a_iconst dX9_mayBlind_9 ?_
  refine a_iald (x' := 0) dX9_mayBlind_10 rfl (by decide) (by decide) rfl ?_
  refine a_icmp_ge 57 dX9_mayBlind_11 (by decide) rfl rfl h (fun c3 h => ?_) (fun c3 h => ?_)
  · skip
    refine a_aload_n 0 dX9_mayBlind_57 rfl ?_
    refine a_iload_n 1 dX9_mayBlind_58 rfl ?_
    refine bp_s h (fun r4 e5 h => ?_)
    refine a_callVI dX9_mayBlind_59 mX9_isWheel KX9 rfl kv_X9_isWheel ks_X9_isWheel rfl km_RX9_164 rfl (T_X9_isWheel e5) (fun _ => rfl) rfl (Nat.le_of_ble_eq_true rfl) (Nat.le_of_ble_eq_true rfl) ⟨(Nat.le_of_ble_eq_true rfl), (Nat.le_of_ble_eq_true rfl)⟩ (Nat.le_of_ble_eq_true rfl) ?_
    refine a_if_eq 103 dX9_mayBlind_62 (by decide) rfl h (fun c6 h => ?_) (fun c6 h => ?_)
    · skip
      refine a_iconst dX9_mayBlind_103 ?_
      exact a_zret dX9_mayBlind_104 rfl (by decide) (s_inj h) rfl
    · skip
      refine a_aload_n 0 dX9_mayBlind_65 rfl ?_
      refine a_getR (j := 34) dX9_mayBlind_66 KX9 rfl (by decide) rfl kf_RX9_93 ?_
      refine a_iload_n 1 dX9_mayBlind_69 rfl ?_
      refine a_gd h (fun c7 h => ?_)
      refine a_iald (x' := wi a1) dX9_mayBlind_70 rfl rfl c7 rfl ?_
      refine a_if_le 103 dX9_mayBlind_71 (by decide) rfl h (fun c8 h => ?_) (fun c8 h => ?_)
      · skip
        refine a_iconst dX9_mayBlind_103 ?_
        exact a_zret dX9_mayBlind_104 rfl (by decide) (s_inj h) rfl
      · skip
        refine a_aload_n 0 dX9_mayBlind_74 rfl ?_
        refine a_getR (j := 34) dX9_mayBlind_75 KX9 rfl (by decide) rfl kf_RX9_93 ?_
        refine a_iload_n 1 dX9_mayBlind_78 rfl ?_
        refine a_gd h (fun c9 h => ?_)
        refine a_iald (x' := wi a1) dX9_mayBlind_79 rfl rfl c9 rfl ?_
        refine a_aload_n 0 dX9_mayBlind_80 rfl ?_
        refine a_getR (j := 9) dX9_mayBlind_81 KX9 rfl (by decide) rfl kf_RX9_32 ?_
        refine a_iload_n 1 dX9_mayBlind_84 rfl ?_
        refine a_gd h (fun c10 h => ?_)
        refine a_iald (x' := wi a1) dX9_mayBlind_85 rfl rfl c10 rfl ?_
        refine a_icmp_lt 99 dX9_mayBlind_86 (by decide) rfl rfl h (fun c11 h => ?_) (fun c11 h => ?_)
        · skip
          refine a_iconst dX9_mayBlind_99 ?_
          refine a_goto 104 dX9_mayBlind_100 (by decide) ?_
          exact a_zret dX9_mayBlind_104 rfl (by decide) (s_inj h) rfl
        · skip
          refine a_iload_n 2 dX9_mayBlind_89 rfl ?_
          refine a_aload_n 0 dX9_mayBlind_90 rfl ?_
          refine a_getR (j := 6) dX9_mayBlind_91 KX9 rfl (by decide) rfl kf_RX9_23 ?_
          refine a_iconst dX9_mayBlind_94 ?_
          refine a_iald (x' := 0) dX9_mayBlind_95 rfl (by decide) (by decide) rfl ?_
          refine a_icmp_ge 103 dX9_mayBlind_96 (by decide) rfl rfl h (fun c12 h => ?_) (fun c12 h => ?_)
          · skip
            refine a_iconst dX9_mayBlind_103 ?_
            exact a_zret dX9_mayBlind_104 rfl (by decide) (s_inj h) rfl
          · skip
            refine a_iconst dX9_mayBlind_99 ?_
            refine a_goto 104 dX9_mayBlind_100 (by decide) ?_
            exact a_zret dX9_mayBlind_104 rfl (by decide) (s_inj h) rfl
  · skip
    refine a_iload_n 2 dX9_mayBlind_14 rfl ?_
    refine a_iload_n 3 dX9_mayBlind_15 rfl ?_
    refine a_iload_n 1 dX9_mayBlind_16 rfl ?_
    refine jn_s (fun q13 : Int => aW G cX9_mayBlind RX9 "mayBlind" 4 (some .boolean) (sR 2 0 0) (aQ G (some .boolean) 0 0 (r_0, (mkSh q_0 x_0, σ))) aX 0 0 (mkSh q_0 x_0, σ) [(0, .ref (gP G 55)), (1, vI a1), (3, vI q1.2)] 49 [vI q13, vI q1.1]) h (fun q13 h => ?_) (fun K14 hK14 h => ?_)
    · skip
      refine a_iadd dX9_mayBlind_49 ?_
      refine a_istore_n (L' := [(2, vI (q1.1 + q13)), (0, .ref (gP G 55)), (1, vI a1), (3, vI q1.2)]) dX9_mayBlind_50 (by decide) rfl ?_
      refine a_iinc (L' := [(3, vI (q1.2 + 1)), (2, vI (q1.1 + q13)), (0, .ref (gP G 55)), (1, vI a1)]) 3 dX9_mayBlind_51 rfl (by decide) rfl ?_
      refine a_goto 4 dX9_mayBlind_54 (by decide) ?_
      have hh := hK2 _ h
      exact a_sub [2, 3, 1, 0] rfl hh
    · skip
      refine jn_s (fun q15 : Unit => aW G cX9_mayBlind RX9 "mayBlind" 4 (some .boolean) (sR 2 0 0) (aQ G (some .boolean) 0 0 (r_0, (mkSh q_0 x_0, σ))) aX 0 0 (mkSh q_0 x_0, σ) [(0, .ref (gP G 55)), (1, vI a1), (3, vI q1.2)] 48 [vI q1.1]) h (fun q15 h => ?_) (fun K16 hK16 h => ?_)
      · skip
        refine a_iconst dX9_mayBlind_48 ?_
        have hh := hK14 _ h
        exact a_sub [0, 1, 2] rfl hh
      · skip
        refine a_icmp_eq 48 dX9_mayBlind_17 (by decide) rfl rfl h (fun c17 h => ?_) (fun c17 h => ?_)
        · skip
          have hh := hK16 _ h
          exact a_sub [0, 1, 3] rfl hh
        · skip
          refine a_aload_n 0 dX9_mayBlind_20 rfl ?_
          refine a_getR (j := 34) dX9_mayBlind_21 KX9 rfl (by decide) rfl kf_RX9_93 ?_
          refine a_iload_n 3 dX9_mayBlind_24 rfl ?_
          refine a_gd h (fun c18 h => ?_)
          refine a_iald (x' := wi q1.2) dX9_mayBlind_25 rfl rfl c18 rfl ?_
          refine a_if_le 48 dX9_mayBlind_26 (by decide) rfl h (fun c19 h => ?_) (fun c19 h => ?_)
          · skip
            have hh := hK16 _ h
            exact a_sub [0, 1, 3] rfl hh
          · skip
            refine a_aload_n 0 dX9_mayBlind_29 rfl ?_
            refine a_getR (j := 34) dX9_mayBlind_30 KX9 rfl (by decide) rfl kf_RX9_93 ?_
            refine a_iload_n 3 dX9_mayBlind_33 rfl ?_
            refine a_gd h (fun c20 h => ?_)
            refine a_iald (x' := wi q1.2) dX9_mayBlind_34 rfl rfl c20 rfl ?_
            refine a_aload_n 0 dX9_mayBlind_35 rfl ?_
            refine a_getR (j := 9) dX9_mayBlind_36 KX9 rfl (by decide) rfl kf_RX9_32 ?_
            refine a_iload_n 3 dX9_mayBlind_39 rfl ?_
            refine a_gd h (fun c21 h => ?_)
            refine a_iald (x' := wi q1.2) dX9_mayBlind_40 rfl rfl c21 rfl ?_
            refine a_icmp_ge 48 dX9_mayBlind_41 (by decide) rfl rfl h (fun c22 h => ?_) (fun c22 h => ?_)
            · skip
              have hh := hK16 _ h
              exact a_sub [0, 1, 3] rfl hh
            · skip
              refine a_iconst dX9_mayBlind_44 ?_
              refine a_goto 49 dX9_mayBlind_45 (by decide) ?_
              have hh := hK14 _ h
              exact a_sub [0, 1, 3] rfl hh

def X9_gainIn (σ : sM) (a1 a2 : Int) : Option Int := if 0 ≤ wi a1 ∧ wi a1 < 3 then if 0 ≤ wi (((72 * a1) + (8 * (σ 82 (wi a1).toNat))) + a2) ∧ wi (((72 * a1) + (8 * (σ 82 (wi a1).toNat))) + a2) < 216 then some (σ 79 (wi (((72 * a1) + (8 * (σ 82 (wi a1).toNat))) + a2)).toNat) else none else none
set_option maxRecDepth 100000 in
set_option maxHeartbeats 400000 in
theorem T_X9_gainIn {G : sG} {q_0 : qT} {x_0 : List Nat} {σ : sM} {r_0 : Int} {a1 a2 : Int}  (h : X9_gainIn σ a1 a2 = some r_0) : aM G yX9_gainIn cX9_gainIn 3 (some .int) 0 0 0 [.ref (gP G 55), vI a1, vI a2] (mkSh q_0 x_0, σ) (r_0, (mkSh q_0 x_0, σ)) := by
  unfold X9_gainIn at h
  refine aM_of (by decide) (Nat.le_of_ble_eq_true rfl) ?_
  show aW G cX9_gainIn RX9 "gainIn" 3 (some .int) _ _ aX 0 0 _ [(0, .ref (gP G 55)), (1, vI a1), (2, vI a2)] 0 []
  refine a_aload_n 0 dX9_gainIn_0 rfl ?_
  refine a_getR (j := 30) dX9_gainIn_1 KX9 rfl (by decide) rfl kf_RX9_81 ?_
  refine a_bipush dX9_gainIn_4 (by decide) ?_
  refine a_iload_n 1 dX9_gainIn_6 rfl ?_
  refine a_imul dX9_gainIn_7 ?_
  refine a_bipush dX9_gainIn_8 (by decide) ?_
  refine a_aload_n 0 dX9_gainIn_10 rfl ?_
  refine a_getR (j := 33) dX9_gainIn_11 KX9 rfl (by decide) rfl kf_RX9_90 ?_
  refine a_iload_n 1 dX9_gainIn_14 rfl ?_
  refine a_gd h (fun c1 h => ?_)
  refine a_iald (x' := wi a1) dX9_gainIn_15 rfl rfl c1 rfl ?_
  refine a_imul dX9_gainIn_16 ?_
  refine a_iadd dX9_gainIn_17 ?_
  refine a_iload_n 2 dX9_gainIn_18 rfl ?_
  refine a_iadd dX9_gainIn_19 ?_
  refine a_gd h (fun c2 h => ?_)
  refine a_iald (x' := wi (((72 * a1) + (8 * (σ 82 (wi a1).toNat))) + a2)) dX9_gainIn_20 rfl rfl c2 rfl ?_
  exact a_iret dX9_gainIn_21 rfl (s_inj h) rfl

def X9_eatBlind (σ : sM) (a1 a2 : Int) : Option (Int × sM) := if 0 ≤ wi a1 ∧ wi a1 < 3 then jn (fun q2 : Int => if 0 ≤ wi a1 ∧ wi a1 < 3 then if 0 ≤ wi a1 ∧ wi a1 < 3 then if 0 ≤ wi a1 ∧ wi a1 < 3 then nm (sU (sU σ 82 (wi a1).toNat q2) 83 (wi a1).toNat (((sU σ 82 (wi a1).toNat q2) 83 (wi a1).toNat) - 1)) (fun σ7 => bp (X9_gainIn σ7 a1 a2) (fun r9 => some (r9, σ7))) else none else none else none) (fun K3 => if ¬ wi (σ 82 (wi a1).toNat) = (-9) then if 0 ≤ wi a1 ∧ wi a1 < 3 then K3 (σ 82 (wi a1).toNat) else none else K3 a2) else none
set_option maxRecDepth 100000 in
set_option maxHeartbeats 400000 in
theorem T_X9_eatBlind {G : sG} {q_0 : qT} {x_0 : List Nat} {σ s_0 : sM} {r_0 : Int} {a1 a2 : Int}  (h : X9_eatBlind σ a1 a2 = some (r_0, s_0)) : aM G yX9_eatBlind cX9_eatBlind 3 (some .int) 1 0 0 [.ref (gP G 55), vI a1, vI a2] (mkSh q_0 x_0, σ) (r_0, (mkSh q_0 x_0, s_0)) := by
  unfold X9_eatBlind at h
  refine aM_of (by decide) (Nat.le_of_ble_eq_true rfl) ?_
  show aW G cX9_eatBlind RX9 "eatBlind" 3 (some .int) _ _ aX 0 0 _ [(0, .ref (gP G 55)), (1, vI a1), (2, vI a2)] 0 []
  refine a_aload_n 0 dX9_eatBlind_0 rfl ?_
  refine a_getR (j := 33) dX9_eatBlind_1 KX9 rfl (by decide) rfl kf_RX9_90 ?_
  refine a_iload_n 1 dX9_eatBlind_4 rfl ?_
  refine a_aload_n 0 dX9_eatBlind_5 rfl ?_
  refine a_getR (j := 33) dX9_eatBlind_6 KX9 rfl (by decide) rfl kf_RX9_90 ?_
  refine a_iload_n 1 dX9_eatBlind_9 rfl ?_
  refine a_gd h (fun c1 h => ?_)
  refine a_iald (x' := wi a1) dX9_eatBlind_10 rfl rfl c1 rfl ?_
  refine a_bipush dX9_eatBlind_11 (by decide) ?_
  refine jn_s (fun q2 : Int => aW G cX9_eatBlind RX9 "eatBlind" 3 (some .int) (sR 1 0 0) (aQ G (some .int) 0 0 (r_0, (mkSh q_0 x_0, s_0))) aX 0 0 (mkSh q_0 x_0, σ) [(0, .ref (gP G 55)), (1, vI a1), (2, vI a2)] 26 [vI q2, vI a1, .ref (gP G 82)]) h (fun q2 h => ?_) (fun K3 hK3 h => ?_)
  · skip
    refine a_gd h (fun c4 h => ?_)
    refine a_iast (x' := wi a1) dX9_eatBlind_26 rfl rfl c4 rfl ?_
    refine a_aload_n 0 dX9_eatBlind_27 rfl ?_
    refine a_getR (j := 34) dX9_eatBlind_28 KX9 rfl (by decide) rfl kf_RX9_93 ?_
    refine a_iload_n 1 dX9_eatBlind_31 rfl ?_
    refine a_dup2 dX9_eatBlind_32 ?_
    refine a_gd h (fun c5 h => ?_)
    refine a_iald (x' := wi a1) dX9_eatBlind_33 rfl rfl c5 rfl ?_
    refine a_iconst dX9_eatBlind_34 ?_
    refine a_isub dX9_eatBlind_35 ?_
    refine a_gd h (fun c6 h => ?_)
    refine a_iast (x' := wi a1) dX9_eatBlind_36 rfl rfl c6 rfl ?_
    refine a_nmS h (fun σ7 w8 h => ?_)
    refine a_aload_n 0 dX9_eatBlind_37 rfl ?_
    refine a_iload_n 1 dX9_eatBlind_38 rfl ?_
    refine a_iload_n 2 dX9_eatBlind_39 rfl ?_
    refine bp_s h (fun r9 e10 h => ?_)
    refine a_callVI dX9_eatBlind_40 mX9_gainIn KX9 rfl kv_X9_gainIn ks_X9_gainIn rfl km_RX9_270 rfl (T_X9_gainIn e10) (fun _ => rfl) rfl (Nat.le_of_ble_eq_true rfl) (Nat.le_of_ble_eq_true rfl) ⟨(Nat.le_of_ble_eq_true rfl), (Nat.le_of_ble_eq_true rfl)⟩ (Nat.le_of_ble_eq_true rfl) ?_
    exact a_iret dX9_eatBlind_43 rfl (p_1 h) (p_S (p_2 h))
  · skip
    refine a_icmp_ne 20 dX9_eatBlind_13 (by decide) rfl (by decide) h (fun c11 h => ?_) (fun c11 h => ?_)
    · skip
      refine a_aload_n 0 dX9_eatBlind_20 rfl ?_
      refine a_getR (j := 33) dX9_eatBlind_21 KX9 rfl (by decide) rfl kf_RX9_90 ?_
      refine a_iload_n 1 dX9_eatBlind_24 rfl ?_
      refine a_gd h (fun c12 h => ?_)
      refine a_iald (x' := wi a1) dX9_eatBlind_25 rfl rfl c12 rfl ?_
      have hh := hK3 _ h
      exact a_sub [0, 1, 2] rfl hh
    · skip
      refine a_iload_n 2 dX9_eatBlind_16 rfl ?_
      refine a_goto 26 dX9_eatBlind_17 (by decide) ?_
      have hh := hK3 _ h
      exact a_sub [0, 1, 2] rfl hh

def X9_undo (σ : sM) (a1 a2 : Int) : Option (Int × sM) := bp (X9_gainIn σ a1 a2) (fun r1 => if 0 ≤ wi a1 ∧ wi a1 < 3 then if 0 ≤ wi a1 ∧ wi a1 < 3 then if 0 ≤ wi a1 ∧ wi a1 < 3 then if 0 ≤ wi a1 ∧ wi a1 < 6 then jn (fun q7 : Int => if 0 ≤ wi a1 ∧ wi a1 < 3 then some (r1, (sU (sU σ 83 (wi a1).toNat ((σ 83 (wi a1).toNat) + 1)) 82 (wi a1).toNat q7)) else none) (fun K8 => if ¬ wi ((sU σ 83 (wi a1).toNat ((σ 83 (wi a1).toNat) + 1)) 83 (wi a1).toNat) = wi ((sU σ 83 (wi a1).toNat ((σ 83 (wi a1).toNat) + 1)) 63 (wi a1).toNat) then if 0 ≤ wi a1 ∧ wi a1 < 3 then K8 ((sU σ 83 (wi a1).toNat ((σ 83 (wi a1).toNat) + 1)) 82 (wi a1).toNat) else none else K8 (-9)) else none else none else none else none)
set_option maxRecDepth 100000 in
set_option maxHeartbeats 400000 in
theorem T_X9_undo {G : sG} {q_0 : qT} {x_0 : List Nat} {σ s_0 : sM} {r_0 : Int} {a1 a2 : Int}  (h : X9_undo σ a1 a2 = some (r_0, s_0)) : aM G yX9_undo cX9_undo 4 (some .int) 1 0 0 [.ref (gP G 55), vI a1, vI a2] (mkSh q_0 x_0, σ) (r_0, (mkSh q_0 x_0, s_0)) := by
  unfold X9_undo at h
  refine aM_of (by decide) (Nat.le_of_ble_eq_true rfl) ?_
  show aW G cX9_undo RX9 "undo" 4 (some .int) _ _ aX 0 0 _ [(0, .ref (gP G 55)), (1, vI a1), (2, vI a2)] 0 []
  refine a_aload_n 0 dX9_undo_0 rfl ?_
  refine a_iload_n 1 dX9_undo_1 rfl ?_
  refine a_iload_n 2 dX9_undo_2 rfl ?_
  refine bp_s h (fun r1 e2 h => ?_)
  refine a_callVI dX9_undo_3 mX9_gainIn KX9 rfl kv_X9_gainIn ks_X9_gainIn rfl km_RX9_270 rfl (T_X9_gainIn e2) (fun _ => rfl) rfl (Nat.le_of_ble_eq_true rfl) (Nat.le_of_ble_eq_true rfl) ⟨(Nat.le_of_ble_eq_true rfl), (Nat.le_of_ble_eq_true rfl)⟩ (Nat.le_of_ble_eq_true rfl) ?_
  refine a_istore_n (L' := [(3, vI r1), (0, .ref (gP G 55)), (1, vI a1), (2, vI a2)]) dX9_undo_6 (by decide) rfl ?_
  refine a_aload_n 1 dX9_undo_7 rfl ?_
  refine a_getR (j := 34) dX9_undo_8 KX9 rfl (by decide) rfl kf_RX9_93 ?_
  refine a_iload_n 2 dX9_undo_11 rfl ?_
  refine a_dup2 dX9_undo_12 ?_
  refine a_gd h (fun c3 h => ?_)
  refine a_iald (x' := wi a1) dX9_undo_13 rfl rfl c3 rfl ?_
  refine a_iconst dX9_undo_14 ?_
  refine a_iadd dX9_undo_15 ?_
  refine a_gd h (fun c4 h => ?_)
  refine a_iast (x' := wi a1) dX9_undo_16 rfl rfl c4 rfl ?_
  refine a_aload_n 1 dX9_undo_17 rfl ?_
  refine a_getR (j := 33) dX9_undo_18 KX9 rfl (by decide) rfl kf_RX9_90 ?_
  refine a_iload_n 2 dX9_undo_21 rfl ?_
  refine a_aload_n 1 dX9_undo_22 rfl ?_
  refine a_getR (j := 34) dX9_undo_23 KX9 rfl (by decide) rfl kf_RX9_93 ?_
  refine a_iload_n 2 dX9_undo_26 rfl ?_
  refine a_gd h (fun c5 h => ?_)
  refine a_iald (x' := wi a1) dX9_undo_27 rfl rfl c5 rfl ?_
  refine a_aload_n 1 dX9_undo_28 rfl ?_
  refine a_getR (j := 9) dX9_undo_29 KX9 rfl (by decide) rfl kf_RX9_32 ?_
  refine a_iload_n 2 dX9_undo_32 rfl ?_
  refine a_gd h (fun c6 h => ?_)
  refine a_iald (x' := wi a1) dX9_undo_33 rfl rfl c6 rfl ?_
  refine jn_s (fun q7 : Int => aW G cX9_undo RX9 "undo" 4 (some .int) (sR 1 0 0) (aQ G (some .int) 0 0 (r_0, (mkSh q_0 x_0, s_0))) aX 0 0 (mkSh q_0 x_0, (sU σ 83 (wi a1).toNat ((σ 83 (wi a1).toNat) + 1))) [(3, vI r1)] 48 [vI q7, vI a1, .ref (gP G 82)]) h (fun q7 h => ?_) (fun K8 hK8 h => ?_)
  · skip
    refine a_gd h (fun c9 h => ?_)
    refine a_iast (x' := wi a1) dX9_undo_48 rfl rfl c9 rfl ?_
    refine a_iload_n 0 dX9_undo_49 rfl ?_
    exact a_iret dX9_undo_50 rfl (p_1 h) (p_S (p_2 h))
  · skip
    refine a_icmp_ne 42 dX9_undo_34 (by decide) rfl rfl h (fun c10 h => ?_) (fun c10 h => ?_)
    · skip
      refine a_aload_n 1 dX9_undo_42 rfl ?_
      refine a_getR (j := 33) dX9_undo_43 KX9 rfl (by decide) rfl kf_RX9_90 ?_
      refine a_iload_n 2 dX9_undo_46 rfl ?_
      refine a_gd h (fun c11 h => ?_)
      refine a_iald (x' := wi a1) dX9_undo_47 rfl rfl c11 rfl ?_
      have hh := hK8 _ h
      exact a_sub [0] rfl hh
    · skip
      refine a_bipush dX9_undo_37 (by decide) ?_
      refine a_goto 48 dX9_undo_39 (by decide) ?_
      have hh := hK8 _ h
      exact a_sub [0] rfl hh

def X9_common (F : Nat) (σ : sM) (a0 a1 : Int) : Option Int := lp (fun K2 (q1 : Int × Int) => if wi (q_lcmp q1.2 0) = 0 then some q1.1 else if ¬ wl q1.2 = 0 then K2 (q1.2, q_lrem q1.1 q1.2) else none) F (a0, a1)
set_option maxRecDepth 100000 in
set_option maxHeartbeats 400000 in
theorem T_X9_common {G : sG} {q_0 : qT} {x_0 : List Nat} {σ : sM} {r_0 : Int} {a0 a1 : Int} {F : Nat}  (h : X9_common F σ a0 a1 = some r_0) : aM G yX9_common cX9_common 10 (some .long) 0 0 0 [vL a0, vL a1] (mkSh q_0 x_0, σ) (r_0, (mkSh q_0 x_0, σ)) := by
  unfold X9_common at h
  refine aM_of (by decide) (Nat.le_of_ble_eq_true rfl) ?_
  show aW G cX9_common RX9 "common" 10 (some .long) _ _ aX 0 0 _ [(0, vL a0), (2, vL a1)] 0 []
  refine a_lload_n 0 dX9_common_0 rfl ?_
  refine a_lstore (L' := [(4, vL a0), (0, vL a0), (2, vL a1)]) dX9_common_1 (by decide) rfl ?_
  refine a_lload_n 2 dX9_common_3 rfl ?_
  refine a_lstore (L' := [(6, vL a1), (4, vL a0), (0, vL a0), (2, vL a1)]) dX9_common_4 (by decide) rfl ?_
  refine a_sub (L' := [(4, vL a0), (6, vL a1)]) [1, 0] rfl (lp_s (x := (a0, a1)) (fun q1 : Int × Int => aW G cX9_common RX9 "common" 10 (some .long) (sR 0 0 0) (aQ G (some .long) 0 0 (r_0, (mkSh q_0 x_0, σ))) aX 0 0 (mkSh q_0 x_0, σ) [(4, vL q1.1), (6, vL q1.2)] 6 []) h (fun K2 hK2 q1 h => ?_))
  refine a_lload 1 dX9_common_6 rfl ?_
  refine a_lconst (z := 0) dX9_common_8 (by decide) ?_
  refine a_lcmp dX9_common_9 ?_
  refine a_if_eq 31 dX9_common_10 (by decide) rfl h (fun c3 h => ?_) (fun c3 h => ?_)
  · skip
    refine a_lload 0 dX9_common_31 rfl ?_
    exact a_lret dX9_common_33 rfl (s_inj h) rfl
  · skip
    refine a_lload 0 dX9_common_13 rfl ?_
    refine a_lload 1 dX9_common_15 rfl ?_
    refine a_gd h (fun c4 h => ?_)
    refine a_lrem dX9_common_17 (nz_l c4) ?_
    refine a_lstore (L' := [(8, vL (q_lrem q1.1 q1.2)), (4, vL q1.1), (6, vL q1.2)]) dX9_common_18 (by decide) rfl ?_
    refine a_lload 2 dX9_common_20 rfl ?_
    refine a_lstore (L' := [(4, vL q1.2), (8, vL (q_lrem q1.1 q1.2)), (6, vL q1.2)]) dX9_common_22 (by decide) rfl ?_
    refine a_lload 1 dX9_common_24 rfl ?_
    refine a_lstore (L' := [(6, vL (q_lrem q1.1 q1.2)), (4, vL q1.2), (8, vL (q_lrem q1.1 q1.2))]) dX9_common_26 (by decide) rfl ?_
    refine a_goto 6 dX9_common_28 (by decide) ?_
    have hh := hK2 _ h
    exact a_sub [1, 0] rfl hh

def X9_inLeast (F : Nat) (σ : sM) (a0 a1 a2 : Int) : Option Int := bp (X9_common F σ a0 a1) (fun r1 => if ¬ wi a2 = 0 then if ¬ wl r1 = 0 then some (q_ldiv a1 r1) else none else if ¬ wl r1 = 0 then some (q_ldiv a0 r1) else none)
set_option maxRecDepth 100000 in
set_option maxHeartbeats 400000 in
theorem T_X9_inLeast {G : sG} {q_0 : qT} {x_0 : List Nat} {σ : sM} {r_0 : Int} {a0 a1 a2 : Int} {F : Nat}  (h : X9_inLeast F σ a0 a1 a2 = some r_0) : aM G yX9_inLeast cX9_inLeast 7 (some .long) 1 0 0 [vL a0, vL a1, vI a2] (mkSh q_0 x_0, σ) (r_0, (mkSh q_0 x_0, σ)) := by
  unfold X9_inLeast at h
  refine aM_of (by decide) (Nat.le_of_ble_eq_true rfl) ?_
  show aW G cX9_inLeast RX9 "inLeast" 7 (some .long) _ _ aX 0 0 _ [(0, vL a0), (2, vL a1), (4, vI a2)] 0 []
  refine a_lload_n 0 dX9_inLeast_0 rfl ?_
  refine a_lload_n 1 dX9_inLeast_1 rfl ?_
  refine bp_s h (fun r1 e2 h => ?_)
  refine a_callSL dX9_inLeast_2 mX9_common kv_X9_common km_RX9_279 rfl (T_X9_common e2) (fun _ => rfl) rfl (Nat.le_of_ble_eq_true rfl) (Nat.le_of_ble_eq_true rfl) ⟨(Nat.le_of_ble_eq_true rfl), (Nat.le_of_ble_eq_true rfl)⟩ (Nat.le_of_ble_eq_true rfl) ?_
  refine a_lstore (L' := [(5, vL r1), (0, vL a0), (2, vL a1), (4, vI a2)]) dX9_inLeast_5 (by decide) rfl ?_
  refine a_iload 3 dX9_inLeast_7 rfl ?_
  refine a_if_ne 19 dX9_inLeast_9 (by decide) rfl h (fun c3 h => ?_) (fun c3 h => ?_)
  · skip
    refine a_lload_n 2 dX9_inLeast_19 rfl ?_
    refine a_lload 0 dX9_inLeast_20 rfl ?_
    refine a_gd h (fun c4 h => ?_)
    refine a_ldiv dX9_inLeast_22 (nz_l c4) ?_
    exact a_lret dX9_inLeast_23 rfl (s_inj h) rfl
  · skip
    refine a_lload_n 1 dX9_inLeast_12 rfl ?_
    refine a_lload 0 dX9_inLeast_13 rfl ?_
    refine a_gd h (fun c5 h => ?_)
    refine a_ldiv dX9_inLeast_15 (nz_l c5) ?_
    refine a_goto 23 dX9_inLeast_16 (by decide) ?_
    exact a_lret dX9_inLeast_23 rfl (s_inj h) rfl

def X9_stands (F : Nat) (σ : sM) (a1 a2 a3 a4 : Int) : Option (Int × sM) := bp (X9_isWheel σ a1) (fun r1 => jn (fun q3 : Unit => some ((-1), σ)) (fun K4 => if wi r1 = 0 then K4 () else bp (X9_in σ a2 0 8) (fun r6 => if wi r6 = 0 then K4 () else bp (X9_in σ a3 0 3) (fun r9 => if wi r9 = 0 then K4 () else bp (X9_in σ a4 0 1) (fun r12 => if ¬ wi r12 = 0 then lp (fun K16 (q15 : sM × Int) => if 4 ≤ wi q15.2 then lp (fun K19 (q18 : sM × Int × Int) => if wi a2 ≤ wi q18.2.2 then if 0 ≤ wi a3 ∧ wi a3 < 4 then bp (X9_inLeast F q18.1 (q18.1 84 (wi a3).toNat) q18.2.1 a4) (fun r22 => some (r22, q18.1)) else none else lp (fun K25 (q24 : sM × Int) => if wi q24.2 < 0 then K19 (q24.1, q18.2.1 * 10, q18.2.2 + 1) else if 0 ≤ wi a1 ∧ wi a1 < 9 then bp (X9_goes q24.1 a1 q24.2 (q24.1 72 (wi a1).toNat) ((q24.1 66 0) + q18.2.2)) (fun r28 => jn (fun q30 : sM => if 0 ≤ wi q24.2 ∧ wi q24.2 < 4 then if 0 ≤ wi q24.2 ∧ wi q24.2 < 4 then K25 ((sU q30 84 (wi q24.2).toNat ((q30 84 (wi q24.2).toNat) * (wi (10 - r28)))), q24.2 + (-1)) else none else none) (fun K31 => if 3 ≤ wi q24.2 then K31 q24.1 else if 0 ≤ wi (q24.2 + 1) ∧ wi (q24.2 + 1) < 4 then if 0 ≤ wi q24.2 ∧ wi q24.2 < 4 then if 0 ≤ wi (q24.2 + 1) ∧ wi (q24.2 + 1) < 4 then nm (sU q24.1 84 (wi (q24.2 + 1)).toNat ((q24.1 84 (wi (q24.2 + 1)).toNat) + ((q24.1 84 (wi q24.2).toNat) * (wi r28)))) (fun σ38 => K31 σ38) else none else none else none)) else none) F (q18.1, 3)) F (q15.1, 1, 0) else if 0 ≤ wi a1 ∧ wi a1 < 9 then jn (fun q41 : Int => if 0 ≤ wi q15.2 ∧ wi q15.2 < 4 then K16 ((sU q15.1 84 (wi q15.2).toNat q41), q15.2 + 1) else none) (fun K42 => if ¬ wi q15.2 = wi (q15.1 71 (wi a1).toNat) then K42 0 else K42 1) else none) F (σ, 0) else K4 ())))))
set_option maxRecDepth 100000 in
set_option maxHeartbeats 400000 in
theorem T_X9_stands {G : sG} {q_0 : qT} {x_0 : List Nat} {σ s_0 : sM} {r_0 : Int} {a1 a2 a3 a4 : Int} {F : Nat}  (h : X9_stands F σ a1 a2 a3 a4 = some (r_0, s_0)) : aM G yX9_stands cX9_stands 10 (some .long) 2 0 0 [.ref (gP G 55), vI a1, vI a2, vI a3, vI a4] (mkSh q_0 x_0, σ) (r_0, (mkSh q_0 x_0, s_0)) := by
  unfold X9_stands at h
  refine aM_of (by decide) (Nat.le_of_ble_eq_true rfl) ?_
  show aW G cX9_stands RX9 "stands" 10 (some .long) _ _ aX 0 0 _ [(0, .ref (gP G 55)), (1, vI a1), (2, vI a2), (3, vI a3), (4, vI a4)] 0 []
  refine a_aload_n 0 dX9_stands_0 rfl ?_
  refine a_iload_n 1 dX9_stands_1 rfl ?_
  refine bp_s h (fun r1 e2 h => ?_)
  refine a_callVI dX9_stands_2 mX9_isWheel KX9 rfl kv_X9_isWheel ks_X9_isWheel rfl km_RX9_164 rfl (T_X9_isWheel e2) (fun _ => rfl) rfl (Nat.le_of_ble_eq_true rfl) (Nat.le_of_ble_eq_true rfl) ⟨(Nat.le_of_ble_eq_true rfl), (Nat.le_of_ble_eq_true rfl)⟩ (Nat.le_of_ble_eq_true rfl) ?_
  refine jn_s (fun q3 : Unit => aW G cX9_stands RX9 "stands" 10 (some .long) (sR 2 0 0) (aQ G (some .long) 0 0 (r_0, (mkSh q_0 x_0, s_0))) aX 0 0 (mkSh q_0 x_0, σ) [] 37 []) h (fun q3 h => ?_) (fun K4 hK4 h => ?_)
  · skip
    refine a_ldc2 (z := -1) dX9_stands_37 kc_RX9_283 (by decide) ?_
    exact a_lret dX9_stands_40 rfl (p_1 h) (p_S (p_2 h))
  · skip
    refine a_if_eq 37 dX9_stands_5 (by decide) rfl h (fun c5 h => ?_) (fun c5 h => ?_)
    · skip
      have hh := hK4 _ h
      exact a_sub [] rfl hh
    · skip
      refine a_iload_n 2 dX9_stands_8 rfl ?_
      refine a_iconst dX9_stands_9 ?_
      refine a_bipush dX9_stands_10 (by decide) ?_
      refine bp_s h (fun r6 e7 h => ?_)
      refine a_callSI dX9_stands_12 mX9_in kv_X9_in km_RX9_103 rfl (T_X9_in e7) (fun _ => rfl) rfl (Nat.le_of_ble_eq_true rfl) (Nat.le_of_ble_eq_true rfl) ⟨(Nat.le_of_ble_eq_true rfl), (Nat.le_of_ble_eq_true rfl)⟩ (Nat.le_of_ble_eq_true rfl) ?_
      refine a_if_eq 37 dX9_stands_15 (by decide) rfl h (fun c8 h => ?_) (fun c8 h => ?_)
      · skip
        have hh := hK4 _ h
        exact a_sub [] rfl hh
      · skip
        refine a_iload_n 3 dX9_stands_18 rfl ?_
        refine a_iconst dX9_stands_19 ?_
        refine a_iconst dX9_stands_20 ?_
        refine bp_s h (fun r9 e10 h => ?_)
        refine a_callSI dX9_stands_21 mX9_in kv_X9_in km_RX9_103 rfl (T_X9_in e10) (fun _ => rfl) rfl (Nat.le_of_ble_eq_true rfl) (Nat.le_of_ble_eq_true rfl) ⟨(Nat.le_of_ble_eq_true rfl), (Nat.le_of_ble_eq_true rfl)⟩ (Nat.le_of_ble_eq_true rfl) ?_
        refine a_if_eq 37 dX9_stands_24 (by decide) rfl h (fun c11 h => ?_) (fun c11 h => ?_)
        · skip
          have hh := hK4 _ h
          exact a_sub [] rfl hh
        · skip
          refine a_iload 4 dX9_stands_27 rfl ?_
          refine a_iconst dX9_stands_29 ?_
          refine a_iconst dX9_stands_30 ?_
          refine bp_s h (fun r12 e13 h => ?_)
          refine a_callSI dX9_stands_31 mX9_in kv_X9_in km_RX9_103 rfl (T_X9_in e13) (fun _ => rfl) rfl (Nat.le_of_ble_eq_true rfl) (Nat.le_of_ble_eq_true rfl) ⟨(Nat.le_of_ble_eq_true rfl), (Nat.le_of_ble_eq_true rfl)⟩ (Nat.le_of_ble_eq_true rfl) ?_
          refine a_if_ne 41 dX9_stands_34 (by decide) rfl h (fun c14 h => ?_) (fun c14 h => ?_)
          · skip
            refine a_lconst (z := 1) dX9_stands_41 (by decide) ?_
            refine a_lstore (L' := [(5, vL 1), (0, .ref (gP G 55)), (1, vI a1), (2, vI a2), (3, vI a3), (4, vI a4)]) dX9_stands_42 (by decide) rfl ?_
            refine a_iconst dX9_stands_44 ?_
            refine a_istore (L' := [(7, vI 0), (5, vL 1), (0, .ref (gP G 55)), (1, vI a1), (2, vI a2), (3, vI a3), (4, vI a4)]) dX9_stands_45 (by decide) rfl ?_
            refine a_sub (L' := [(0, .ref (gP G 55)), (1, vI a1), (2, vI a2), (3, vI a3), (4, vI a4), (5, vL 1), (7, vI 0)]) [2, 3, 4, 5, 6, 1, 0] rfl (lp_s (x := (σ, 0)) (fun q15 : sM × Int => aW G cX9_stands RX9 "stands" 10 (some .long) (sR 2 0 0) (aQ G (some .long) 0 0 (r_0, (mkSh q_0 x_0, s_0))) aX 0 0 (mkSh q_0 x_0, q15.1) [(0, .ref (gP G 55)), (1, vI a1), (2, vI a2), (3, vI a3), (4, vI a4), (5, vL 1), (7, vI q15.2)] 47 []) h (fun K16 hK16 q15 h => ?_))
            refine a_iload 6 dX9_stands_47 rfl ?_
            refine a_iconst dX9_stands_49 ?_
            refine a_icmp_ge 82 dX9_stands_50 (by decide) rfl (by decide) h (fun c17 h => ?_) (fun c17 h => ?_)
            · skip
              refine a_iconst dX9_stands_82 ?_
              refine a_istore (L' := [(7, vI 0), (0, .ref (gP G 55)), (1, vI a1), (2, vI a2), (3, vI a3), (4, vI a4), (5, vL 1)]) dX9_stands_83 (by decide) rfl ?_
              refine a_sub (L' := [(0, .ref (gP G 55)), (1, vI a1), (2, vI a2), (3, vI a3), (4, vI a4), (5, vL 1), (7, vI 0)]) [1, 2, 3, 4, 5, 6, 0] rfl (lp_s (x := (q15.1, 1, 0)) (fun q18 : sM × Int × Int => aW G cX9_stands RX9 "stands" 10 (some .long) (sR 2 0 0) (aQ G (some .long) 0 0 (r_0, (mkSh q_0 x_0, s_0))) aX 0 0 (mkSh q_0 x_0, q18.1) [(0, .ref (gP G 55)), (1, vI a1), (2, vI a2), (3, vI a3), (4, vI a4), (5, vL q18.2.1), (7, vI q18.2.2)] 85 []) h (fun K19 hK19 q18 h => ?_))
              refine a_iload 6 dX9_stands_85 rfl ?_
              refine a_iload_n 2 dX9_stands_87 rfl ?_
              refine a_icmp_ge 188 dX9_stands_88 (by decide) rfl rfl h (fun c20 h => ?_) (fun c20 h => ?_)
              · skip
                refine a_aload_n 0 dX9_stands_188 rfl ?_
                refine a_getR (j := 35) dX9_stands_189 KX9 rfl (by decide) rfl kf_RX9_96 ?_
                refine a_iload_n 3 dX9_stands_192 rfl ?_
                refine a_gd h (fun c21 h => ?_)
                refine a_lald (x' := wi a3) dX9_stands_193 rfl rfl c21 rfl ?_
                refine a_lload 5 dX9_stands_194 rfl ?_
                refine a_iload 4 dX9_stands_196 rfl ?_
                refine bp_s h (fun r22 e23 h => ?_)
                refine a_callSL dX9_stands_198 mX9_inLeast kv_X9_inLeast km_RX9_285 rfl (T_X9_inLeast e23) (fun _ => rfl) rfl (Nat.le_of_ble_eq_true rfl) (Nat.le_of_ble_eq_true rfl) ⟨(Nat.le_of_ble_eq_true rfl), (Nat.le_of_ble_eq_true rfl)⟩ (Nat.le_of_ble_eq_true rfl) ?_
                exact a_lret dX9_stands_201 rfl (p_1 h) (p_S (p_2 h))
              · skip
                refine a_iconst dX9_stands_91 ?_
                refine a_istore (L' := [(8, vI 3), (0, .ref (gP G 55)), (1, vI a1), (2, vI a2), (3, vI a3), (4, vI a4), (5, vL q18.2.1), (7, vI q18.2.2)]) dX9_stands_92 (by decide) rfl ?_
                refine a_sub (L' := [(0, .ref (gP G 55)), (1, vI a1), (2, vI a2), (3, vI a3), (4, vI a4), (5, vL q18.2.1), (7, vI q18.2.2), (8, vI 3)]) [1, 2, 3, 4, 5, 6, 7, 0] rfl (lp_s (x := (q18.1, 3)) (fun q24 : sM × Int => aW G cX9_stands RX9 "stands" 10 (some .long) (sR 2 0 0) (aQ G (some .long) 0 0 (r_0, (mkSh q_0 x_0, s_0))) aX 0 0 (mkSh q_0 x_0, q24.1) [(0, .ref (gP G 55)), (1, vI a1), (2, vI a2), (3, vI a3), (4, vI a4), (5, vL q18.2.1), (7, vI q18.2.2), (8, vI q24.2)] 94 []) h (fun K25 hK25 q24 h => ?_))
                refine a_iload 7 dX9_stands_94 rfl ?_
                refine a_if_lt 174 dX9_stands_96 (by decide) rfl h (fun c26 h => ?_) (fun c26 h => ?_)
                · skip
                  refine a_lload 5 dX9_stands_174 rfl ?_
                  refine a_ldc2 (z := 10) dX9_stands_176 kc_RX9_253 (by decide) ?_
                  refine a_lmul dX9_stands_179 ?_
                  refine a_lstore (L' := [(5, vL (q18.2.1 * 10)), (0, .ref (gP G 55)), (1, vI a1), (2, vI a2), (3, vI a3), (4, vI a4), (7, vI q18.2.2), (8, vI q24.2)]) dX9_stands_180 (by decide) rfl ?_
                  refine a_iinc (L' := [(7, vI (q18.2.2 + 1)), (5, vL (q18.2.1 * 10)), (0, .ref (gP G 55)), (1, vI a1), (2, vI a2), (3, vI a3), (4, vI a4), (8, vI q24.2)]) 6 dX9_stands_182 rfl (by decide) rfl ?_
                  refine a_goto 85 dX9_stands_185 (by decide) ?_
                  have hh := hK19 _ h
                  exact a_sub [2, 3, 4, 5, 6, 1, 0] rfl hh
                · skip
                  refine a_aload_n 0 dX9_stands_99 rfl ?_
                  refine a_iload_n 1 dX9_stands_100 rfl ?_
                  refine a_iload 7 dX9_stands_101 rfl ?_
                  refine a_aload_n 0 dX9_stands_103 rfl ?_
                  refine a_getR (j := 23) dX9_stands_104 KX9 rfl (by decide) rfl kf_RX9_60 ?_
                  refine a_iload_n 1 dX9_stands_107 rfl ?_
                  refine a_gd h (fun c27 h => ?_)
                  refine a_iald (x' := wi a1) dX9_stands_108 rfl rfl c27 rfl ?_
                  refine a_aload_n 0 dX9_stands_109 rfl ?_
                  refine a_getR (j := 17) dX9_stands_110 KX9 rfl (by decide) rfl kf_RX9_41 ?_
                  refine a_iconst dX9_stands_113 ?_
                  refine a_iald (x' := 0) dX9_stands_114 rfl (by decide) (by decide) rfl ?_
                  refine a_iload 6 dX9_stands_115 rfl ?_
                  refine a_iadd dX9_stands_117 ?_
                  refine bp_s h (fun r28 e29 h => ?_)
                  refine a_callVI dX9_stands_118 mX9_goes KX9 rfl kv_X9_goes ks_X9_goes rfl km_RX9_171 rfl (T_X9_goes e29) (fun _ => rfl) rfl (Nat.le_of_ble_eq_true rfl) (Nat.le_of_ble_eq_true rfl) ⟨(Nat.le_of_ble_eq_true rfl), (Nat.le_of_ble_eq_true rfl)⟩ (Nat.le_of_ble_eq_true rfl) ?_
                  refine a_istore (L' := [(9, vI r28), (0, .ref (gP G 55)), (1, vI a1), (2, vI a2), (3, vI a3), (4, vI a4), (5, vL q18.2.1), (7, vI q18.2.2), (8, vI q24.2)]) dX9_stands_121 (by decide) rfl ?_
                  refine a_iload 8 dX9_stands_123 rfl ?_
                  refine a_iconst dX9_stands_125 ?_
                  refine jn_s (fun q30 : sM => aW G cX9_stands RX9 "stands" 10 (some .long) (sR 2 0 0) (aQ G (some .long) 0 0 (r_0, (mkSh q_0 x_0, s_0))) aX 0 0 (mkSh q_0 x_0, q30) [(0, .ref (gP G 55)), (1, vI a1), (2, vI a2), (3, vI a3), (4, vI a4), (5, vL q18.2.1), (7, vI q18.2.2), (8, vI q24.2), (9, vI r28)] 152 []) h (fun q30 h => ?_) (fun K31 hK31 h => ?_)
                  · skip
                    refine a_aload_n 0 dX9_stands_152 rfl ?_
                    refine a_getR (j := 35) dX9_stands_153 KX9 rfl (by decide) rfl kf_RX9_96 ?_
                    refine a_iload 7 dX9_stands_156 rfl ?_
                    refine a_dup2 dX9_stands_158 ?_
                    refine a_gd h (fun c32 h => ?_)
                    refine a_lald (x' := wi q24.2) dX9_stands_159 rfl rfl c32 rfl ?_
                    refine a_bipush dX9_stands_160 (by decide) ?_
                    refine a_iload 8 dX9_stands_162 rfl ?_
                    refine a_isub dX9_stands_164 ?_
                    refine a_i2l dX9_stands_165 ?_
                    refine a_lmul dX9_stands_166 ?_
                    refine a_gd h (fun c33 h => ?_)
                    refine a_last (x' := wi q24.2) dX9_stands_167 rfl rfl c33 rfl ?_
                    refine a_iinc (L' := [(8, vI (q24.2 + (-1))), (0, .ref (gP G 55)), (1, vI a1), (2, vI a2), (3, vI a3), (4, vI a4), (5, vL q18.2.1), (7, vI q18.2.2), (9, vI r28)]) 7 dX9_stands_168 rfl (by decide) rfl ?_
                    refine a_goto 94 dX9_stands_171 (by decide) ?_
                    have hh := hK25 _ h
                    exact a_sub [1, 2, 3, 4, 5, 6, 7, 0] rfl hh
                  · skip
                    refine a_icmp_ge 152 dX9_stands_126 (by decide) rfl (by decide) h (fun c34 h => ?_) (fun c34 h => ?_)
                    · skip
                      have hh := hK31 _ h
                      exact a_sub [1, 2, 3, 4, 5, 6, 7, 8, 0] rfl hh
                    · skip
                      refine a_aload_n 1 dX9_stands_129 rfl ?_
                      refine a_getR (j := 35) dX9_stands_130 KX9 rfl (by decide) rfl kf_RX9_96 ?_
                      refine a_iload 8 dX9_stands_133 rfl ?_
                      refine a_iconst dX9_stands_135 ?_
                      refine a_iadd dX9_stands_136 ?_
                      refine a_dup2 dX9_stands_137 ?_
                      refine a_gd h (fun c35 h => ?_)
                      refine a_lald (x' := wi (q24.2 + 1)) dX9_stands_138 rfl rfl c35 rfl ?_
                      refine a_aload_n 1 dX9_stands_139 rfl ?_
                      refine a_getR (j := 35) dX9_stands_140 KX9 rfl (by decide) rfl kf_RX9_96 ?_
                      refine a_iload 8 dX9_stands_143 rfl ?_
                      refine a_gd h (fun c36 h => ?_)
                      refine a_lald (x' := wi q24.2) dX9_stands_145 rfl rfl c36 rfl ?_
                      refine a_iload 0 dX9_stands_146 rfl ?_
                      refine a_i2l dX9_stands_148 ?_
                      refine a_lmul dX9_stands_149 ?_
                      refine a_ladd dX9_stands_150 ?_
                      refine a_gd h (fun c37 h => ?_)
                      refine a_last (x' := wi (q24.2 + 1)) dX9_stands_151 rfl rfl c37 rfl ?_
                      refine a_nmS h (fun σ38 w39 h => ?_)
                      have hh := hK31 _ h
                      exact a_sub [1, 2, 3, 4, 5, 6, 7, 8, 0] rfl hh
            · skip
              refine a_aload_n 0 dX9_stands_53 rfl ?_
              refine a_getR (j := 35) dX9_stands_54 KX9 rfl (by decide) rfl kf_RX9_96 ?_
              refine a_iload 6 dX9_stands_57 rfl ?_
              refine a_iload 6 dX9_stands_59 rfl ?_
              refine a_aload_n 0 dX9_stands_61 rfl ?_
              refine a_getR (j := 22) dX9_stands_62 KX9 rfl (by decide) rfl kf_RX9_57 ?_
              refine a_iload_n 1 dX9_stands_65 rfl ?_
              refine a_gd h (fun c40 h => ?_)
              refine a_iald (x' := wi a1) dX9_stands_66 rfl rfl c40 rfl ?_
              refine jn_s (fun q41 : Int => aW G cX9_stands RX9 "stands" 10 (some .long) (sR 2 0 0) (aQ G (some .long) 0 0 (r_0, (mkSh q_0 x_0, s_0))) aX 0 0 (mkSh q_0 x_0, q15.1) [(0, .ref (gP G 55)), (1, vI a1), (2, vI a2), (3, vI a3), (4, vI a4), (5, vL 1), (7, vI q15.2)] 75 [vL q41, vI q15.2, .ref (gP G 84)]) h (fun q41 h => ?_) (fun K42 hK42 h => ?_)
              · skip
                refine a_gd h (fun c43 h => ?_)
                refine a_last (x' := wi q15.2) dX9_stands_75 rfl rfl c43 rfl ?_
                refine a_iinc (L' := [(7, vI (q15.2 + 1)), (0, .ref (gP G 55)), (1, vI a1), (2, vI a2), (3, vI a3), (4, vI a4), (5, vL 1)]) 6 dX9_stands_76 rfl (by decide) rfl ?_
                refine a_goto 47 dX9_stands_79 (by decide) ?_
                have hh := hK16 _ h
                exact a_sub [1, 2, 3, 4, 5, 6, 0] rfl hh
              · skip
                refine a_icmp_ne 74 dX9_stands_67 (by decide) rfl rfl h (fun c44 h => ?_) (fun c44 h => ?_)
                · skip
                  refine a_lconst (z := 0) dX9_stands_74 (by decide) ?_
                  have hh := hK42 _ h
                  exact a_sub [0, 1, 2, 3, 4, 5, 6] rfl hh
                · skip
                  refine a_lconst (z := 1) dX9_stands_70 (by decide) ?_
                  refine a_goto 75 dX9_stands_71 (by decide) ?_
                  have hh := hK42 _ h
                  exact a_sub [0, 1, 2, 3, 4, 5, 6] rfl hh
          · skip
            have hh := hK4 _ h
            exact a_sub [] rfl hh

