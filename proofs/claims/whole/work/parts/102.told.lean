def X9_due (F : Nat) (σ : sM) (a1 : Int) : Option (Int × sM) := if ¬ wi (σ 55 16) = (-9) then some (σ 55 15, σ) else if wi a1 = 0 then some (σ 55 15, (sU σ 55 16 (σ 55 13))) else bn (X9_read F σ) (fun r3 σ5 => some (σ 55 15, σ5))
set_option maxRecDepth 100000 in
set_option maxHeartbeats 400000 in
theorem T_X9_due {G : sG} {q_0 : qT} {x_0 : List Nat} {σ s_0 : sM} {r_0 : Int} {a1 : Int} {F : Nat}  (h : X9_due F σ a1 = some (r_0, s_0)) : aM G yX9_due cX9_due 3 (some .int) 2 0 0 [.ref (gB G + 55), vI a1] (mkSh q_0 x_0, σ) (r_0, (mkSh q_0 x_0, s_0)) := by
  unfold X9_due at h
  refine aM_of (by decide) (Nat.le_of_ble_eq_true rfl) ?_
  show aW G cX9_due RX9 "due" 3 (some .int) _ _ aX 0 0 _ [(0, .ref (gB G + 55)), (1, vI a1)] 0 []
  refine a_aload_n 0 dX9_due_0 rfl ?_
  refine a_getI (j := 15) dX9_due_1 KX9 rfl (by decide) rfl kf_RX9_123 ?_
  refine a_istore_n (L' := [(2, vI (σ 55 15)), (0, .ref (gB G + 55)), (1, vI a1)]) dX9_due_4 (by decide) rfl ?_
  refine a_aload_n 1 dX9_due_5 rfl ?_
  refine a_getI (j := 16) dX9_due_6 KX9 rfl (by decide) rfl kf_RX9_133 ?_
  refine a_bipush dX9_due_9 (by decide) ?_
  refine a_icmp_ne 33 dX9_due_11 (by decide) rfl (by decide) h (fun c1 h => ?_) (fun c1 h => ?_)
  · skip
    refine a_iload_n 0 dX9_due_33 rfl ?_
    exact a_iret dX9_due_34 rfl (p_1 h) (p_S (p_2 h))
  · skip
    refine a_iload_n 2 dX9_due_14 rfl ?_
    refine a_if_eq 25 dX9_due_15 (by decide) rfl h (fun c2 h => ?_) (fun c2 h => ?_)
    · skip
      refine a_aload_n 1 dX9_due_25 rfl ?_
      refine a_aload_n 1 dX9_due_26 rfl ?_
      refine a_getI (j := 13) dX9_due_27 KX9 rfl (by decide) rfl kf_RX9_120 ?_
      refine a_putI (j := 16) dX9_due_30 KX9 rfl (by decide) rfl rfl rfl kf_RX9_133 ?_
      refine a_iload_n 0 dX9_due_33 rfl ?_
      exact a_iret dX9_due_34 rfl (p_1 h) (p_S (p_2 h))
    · skip
      refine a_aload_n 1 dX9_due_18 rfl ?_
      refine bn_s h (fun r3 σ5 e4 h => ?_)
      refine a_callVV dX9_due_19 mX9_read KX9 rfl kv_X9_read ks_X9_read rfl km_RX9_136 rfl (T_X9_read e4) (fun _ => rfl) rfl (Nat.le_of_ble_eq_true rfl) (Nat.le_of_ble_eq_true rfl) ⟨(Nat.le_of_ble_eq_true rfl), (Nat.le_of_ble_eq_true rfl)⟩ (Nat.le_of_ble_eq_true rfl) ?_
      refine a_goto 33 dX9_due_22 (by decide) ?_
      refine a_iload_n 0 dX9_due_33 rfl ?_
      exact a_iret dX9_due_34 rfl (p_1 h) (p_S (p_2 h))

def X9_number (F : Nat) (σ : sM) (a1 a2 : Int) : Option (Int × sM) := jn (fun q1 : Int => bn (X9_due F σ q1) (fun r3 σ5 => some (r3, σ5))) (fun K2 => jn (fun q6 : Unit => K2 0) (fun K7 => if ¬ wi (σ 55 14) = 10 then K7 () else bp (X9_in σ (σ 55 15) a1 a2) (fun r9 => if wi r9 = 0 then K7 () else K2 1)))
set_option maxRecDepth 100000 in
set_option maxHeartbeats 400000 in
theorem T_X9_number {G : sG} {q_0 : qT} {x_0 : List Nat} {σ s_0 : sM} {r_0 : Int} {a1 a2 : Int} {F : Nat}  (h : X9_number F σ a1 a2 = some (r_0, s_0)) : aM G yX9_number cX9_number 3 (some .int) 3 0 0 [.ref (gB G + 55), vI a1, vI a2] (mkSh q_0 x_0, σ) (r_0, (mkSh q_0 x_0, s_0)) := by
  unfold X9_number at h
  refine aM_of (by decide) (Nat.le_of_ble_eq_true rfl) ?_
  show aW G cX9_number RX9 "number" 3 (some .int) _ _ aX 0 0 _ [(0, .ref (gB G + 55)), (1, vI a1), (2, vI a2)] 0 []
  refine a_aload_n 0 dX9_number_0 rfl ?_
  refine a_aload_n 0 dX9_number_1 rfl ?_
  refine a_getI (j := 14) dX9_number_2 KX9 rfl (by decide) rfl kf_RX9_126 ?_
  refine a_bipush dX9_number_5 (by decide) ?_
  refine jn_s (fun q1 : Int => aW G cX9_number RX9 "number" 3 (some .int) (sR 3 0 0) (aQ G (some .int) 0 0 (r_0, (mkSh q_0 x_0, s_0))) aX 0 0 (mkSh q_0 x_0, σ) [] 27 [vI q1, .ref (gB G + 55)]) h (fun q1 h => ?_) (fun K2 hK2 h => ?_)
  · skip
    refine bn_s h (fun r3 σ5 e4 h => ?_)
    refine a_callVI dX9_number_27 mX9_due KX9 rfl kv_X9_due ks_X9_due rfl km_RX9_139 rfl (T_X9_due e4) (fun _ => rfl) rfl (Nat.le_of_ble_eq_true rfl) (Nat.le_of_ble_eq_true rfl) ⟨(Nat.le_of_ble_eq_true rfl), (Nat.le_of_ble_eq_true rfl)⟩ (Nat.le_of_ble_eq_true rfl) ?_
    exact a_iret dX9_number_30 rfl (p_1 h) (p_S (p_2 h))
  · skip
    refine jn_s (fun q6 : Unit => aW G cX9_number RX9 "number" 3 (some .int) (sR 3 0 0) (aQ G (some .int) 0 0 (r_0, (mkSh q_0 x_0, s_0))) aX 0 0 (mkSh q_0 x_0, σ) [] 26 [.ref (gB G + 55)]) h (fun q6 h => ?_) (fun K7 hK7 h => ?_)
    · skip
      refine a_iconst dX9_number_26 ?_
      have hh := hK2 _ h
      exact a_sub [] rfl hh
    · skip
      refine a_icmp_ne 26 dX9_number_7 (by decide) rfl (by decide) h (fun c8 h => ?_) (fun c8 h => ?_)
      · skip
        have hh := hK7 _ h
        exact a_sub [] rfl hh
      · skip
        refine a_aload_n 0 dX9_number_10 rfl ?_
        refine a_getI (j := 15) dX9_number_11 KX9 rfl (by decide) rfl kf_RX9_123 ?_
        refine a_iload_n 1 dX9_number_14 rfl ?_
        refine a_iload_n 2 dX9_number_15 rfl ?_
        refine bp_s h (fun r9 e10 h => ?_)
        refine a_callSI dX9_number_16 mX9_in kv_X9_in km_RX9_103 rfl (T_X9_in e10) (fun _ => rfl) rfl (Nat.le_of_ble_eq_true rfl) (Nat.le_of_ble_eq_true rfl) ⟨(Nat.le_of_ble_eq_true rfl), (Nat.le_of_ble_eq_true rfl)⟩ (Nat.le_of_ble_eq_true rfl) ?_
        refine a_if_eq 26 dX9_number_19 (by decide) rfl h (fun c11 h => ?_) (fun c11 h => ?_)
        · skip
          have hh := hK7 _ h
          exact a_sub [] rfl hh
        · skip
          refine a_iconst dX9_number_22 ?_
          refine a_goto 27 dX9_number_23 (by decide) ?_
          have hh := hK2 _ h
          exact a_sub [] rfl hh

def X9_readSort (F : Nat) (σ : sM) : Option (Int × sM) := jn (fun q1 : Int => lp (fun K4 (q3 : sM × Int) => if 14 ≤ wi q3.2 then some (0, (sU q3.1 57 1 ((q3.1 57 1) + 1))) else jn (fun q6 : sM => jn (fun q8 : Int => bn (X9_number F q6 0 q8) (fun r10 σ12 => jn (fun q13 : Int => if 0 ≤ wi ((56 + (14 * q1)) + q3.2) ∧ wi ((56 + (14 * q1)) + q3.2) < 112 then K4 ((sU σ12 61 (wi ((56 + (14 * q1)) + q3.2)).toNat q13), q3.2 + 1) else none) (fun K14 => if ¬ wi (σ12 55 16) = (-9) then if 0 ≤ wi ((56 + (14 * q1)) + q3.2) ∧ wi ((56 + (14 * q1)) + q3.2) < 112 then K14 (σ12 61 (wi ((56 + (14 * q1)) + q3.2)).toNat) else none else K14 r10))) (fun K9 => if 4 ≤ wi q3.2 then K9 10 else K9 99)) (fun K7 => jn (fun q19 : Unit => jn (fun q21 : Int => jn (fun q23 : Int => bn (X9_due F q3.1 q23) (fun r25 σ27 => K7 σ27)) (fun K24 => if ¬ wi (q3.1 55 14) = wi q21 then K24 0 else K24 1)) (fun K22 => if ¬ wi q3.2 = 4 then if ¬ wi q3.2 = 7 then K22 5 else K22 4 else K22 3)) (fun K20 => if wi q3.2 = 4 then K20 () else if wi q3.2 = 7 then K20 () else if ¬ wi q3.2 = 10 then K7 q3.1 else K20 ()))) F (σ, 0)) (fun K2 => if 4 ≤ wi (σ 57 1) then K2 0 else K2 (σ 57 1))
set_option maxRecDepth 100000 in
set_option maxHeartbeats 400000 in
theorem T_X9_readSort {G : sG} {q_0 : qT} {x_0 : List Nat} {σ s_0 : sM} {r_0 : Int} {F : Nat}  (h : X9_readSort F σ = some (r_0, s_0)) : aM G yX9_readSort cX9_readSort 4 none 4 0 0 [.ref (gB G + 55)] (mkSh q_0 x_0, σ) (r_0, (mkSh q_0 x_0, s_0)) := by
  unfold X9_readSort at h
  refine aM_of (by decide) (Nat.le_of_ble_eq_true rfl) ?_
  show aW G cX9_readSort RX9 "readSort" 4 none _ _ aX 0 0 _ [(0, .ref (gB G + 55))] 0 []
  refine a_bipush dX9_readSort_0 (by decide) ?_
  refine a_bipush dX9_readSort_2 (by decide) ?_
  refine a_aload_n 0 dX9_readSort_4 rfl ?_
  refine a_getR (j := 3) dX9_readSort_5 KX9 rfl (by decide) rfl kf_RX9_13 ?_
  refine a_iconst dX9_readSort_8 ?_
  refine a_iald (x' := 1) dX9_readSort_9 rfl (by decide) (by decide) rfl ?_
  refine a_iconst dX9_readSort_10 ?_
  refine jn_s (fun q1 : Int => aW G cX9_readSort RX9 "readSort" 4 none (sR 4 0 0) (aQ G none 0 0 (r_0, (mkSh q_0 x_0, s_0))) aX 0 0 (mkSh q_0 x_0, σ) [(0, .ref (gB G + 55))] 24 [vI q1, vI 14, vI 56]) h (fun q1 h => ?_) (fun K2 hK2 h => ?_)
  · skip
    refine a_imul dX9_readSort_24 ?_
    refine a_iadd dX9_readSort_25 ?_
    refine a_istore_n (L' := [(1, vI (56 + (14 * q1))), (0, .ref (gB G + 55))]) dX9_readSort_26 (by decide) rfl ?_
    refine a_iconst dX9_readSort_27 ?_
    refine a_istore_n (L' := [(2, vI 0), (1, vI (56 + (14 * q1))), (0, .ref (gB G + 55))]) dX9_readSort_28 (by decide) rfl ?_
    refine a_sub (L' := [(0, .ref (gB G + 55)), (1, vI (56 + (14 * q1))), (2, vI 0)]) [2, 1, 0] rfl (lp_s (x := (σ, 0)) (fun q3 : sM × Int => aW G cX9_readSort RX9 "readSort" 4 none (sR 4 0 0) (aQ G none 0 0 (r_0, (mkSh q_0 x_0, s_0))) aX 0 0 (mkSh q_0 x_0, q3.1) [(0, .ref (gB G + 55)), (1, vI (56 + (14 * q1))), (2, vI q3.2)] 29 []) h (fun K4 hK4 q3 h => ?_))
    refine a_iload_n 2 dX9_readSort_29 rfl ?_
    refine a_bipush dX9_readSort_30 (by decide) ?_
    refine a_icmp_ge 142 dX9_readSort_32 (by decide) rfl (by decide) h (fun c5 h => ?_) (fun c5 h => ?_)
    · skip
      refine a_aload_n 0 dX9_readSort_142 rfl ?_
      refine a_getR (j := 3) dX9_readSort_143 KX9 rfl (by decide) rfl kf_RX9_13 ?_
      refine a_iconst dX9_readSort_146 ?_
      refine a_dup2 dX9_readSort_147 ?_
      refine a_iald (x' := 1) dX9_readSort_148 rfl (by decide) (by decide) rfl ?_
      refine a_iconst dX9_readSort_149 ?_
      refine a_iadd dX9_readSort_150 ?_
      refine a_iast (x' := 1) dX9_readSort_151 rfl (by decide) (by decide) rfl ?_
      exact a_vret dX9_readSort_152 rfl (p_S (p_2 h))
    · skip
      refine a_iload_n 2 dX9_readSort_35 rfl ?_
      refine a_iconst dX9_readSort_36 ?_
      refine jn_s (fun q6 : sM => aW G cX9_readSort RX9 "readSort" 4 none (sR 4 0 0) (aQ G none 0 0 (r_0, (mkSh q_0 x_0, s_0))) aX 0 0 (mkSh q_0 x_0, q6) [(0, .ref (gB G + 55)), (1, vI (56 + (14 * q1))), (2, vI q3.2)] 89 []) h (fun q6 h => ?_) (fun K7 hK7 h => ?_)
      · skip
        refine a_aload_n 0 dX9_readSort_89 rfl ?_
        refine a_iconst dX9_readSort_90 ?_
        refine a_iload_n 2 dX9_readSort_91 rfl ?_
        refine a_iconst dX9_readSort_92 ?_
        refine jn_s (fun q8 : Int => aW G cX9_readSort RX9 "readSort" 4 none (sR 4 0 0) (aQ G none 0 0 (r_0, (mkSh q_0 x_0, s_0))) aX 0 0 (mkSh q_0 x_0, q6) [(0, .ref (gB G + 55)), (1, vI (56 + (14 * q1))), (2, vI q3.2)] 103 [vI q8, vI 0, .ref (gB G + 55)]) h (fun q8 h => ?_) (fun K9 hK9 h => ?_)
        · skip
          refine bn_s h (fun r10 σ12 e11 h => ?_)
          refine a_callVI dX9_readSort_103 mX9_number KX9 rfl kv_X9_number ks_X9_number rfl km_RX9_143 rfl (T_X9_number e11) (fun _ => rfl) rfl (Nat.le_of_ble_eq_true rfl) (Nat.le_of_ble_eq_true rfl) ⟨(Nat.le_of_ble_eq_true rfl), (Nat.le_of_ble_eq_true rfl)⟩ (Nat.le_of_ble_eq_true rfl) ?_
          refine a_istore_n (L' := [(3, vI r10), (0, .ref (gB G + 55)), (1, vI (56 + (14 * q1))), (2, vI q3.2)]) dX9_readSort_106 (by decide) rfl ?_
          refine a_aload_n 1 dX9_readSort_107 rfl ?_
          refine a_getR (j := 7) dX9_readSort_108 KX9 rfl (by decide) rfl kf_RX9_26 ?_
          refine a_iload_n 2 dX9_readSort_111 rfl ?_
          refine a_iload_n 3 dX9_readSort_112 rfl ?_
          refine a_iadd dX9_readSort_113 ?_
          refine a_aload_n 1 dX9_readSort_114 rfl ?_
          refine a_getI (j := 16) dX9_readSort_115 KX9 rfl (by decide) rfl kf_RX9_133 ?_
          refine a_bipush dX9_readSort_118 (by decide) ?_
          refine jn_s (fun q13 : Int => aW G cX9_readSort RX9 "readSort" 4 none (sR 4 0 0) (aQ G none 0 0 (r_0, (mkSh q_0 x_0, s_0))) aX 0 0 (mkSh q_0 x_0, σ12) [(0, .ref (gB G + 55)), (1, vI (56 + (14 * q1))), (2, vI q3.2)] 135 [vI q13, vI ((56 + (14 * q1)) + q3.2), .ref (gB G + 61)]) h (fun q13 h => ?_) (fun K14 hK14 h => ?_)
          · skip
            refine a_gd h (fun c15 h => ?_)
            refine a_iast (x' := wi ((56 + (14 * q1)) + q3.2)) dX9_readSort_135 rfl rfl c15 rfl ?_
            refine a_iinc (L' := [(2, vI (q3.2 + 1)), (0, .ref (gB G + 55)), (1, vI (56 + (14 * q1)))]) 2 dX9_readSort_136 rfl (by decide) rfl ?_
            refine a_goto 29 dX9_readSort_139 (by decide) ?_
            have hh := hK4 _ h
            exact a_sub [1, 2, 0] rfl hh
          · skip
            refine a_icmp_ne 127 dX9_readSort_120 (by decide) rfl (by decide) h (fun c16 h => ?_) (fun c16 h => ?_)
            · skip
              refine a_aload_n 1 dX9_readSort_127 rfl ?_
              refine a_getR (j := 7) dX9_readSort_128 KX9 rfl (by decide) rfl kf_RX9_26 ?_
              refine a_iload_n 2 dX9_readSort_131 rfl ?_
              refine a_iload_n 3 dX9_readSort_132 rfl ?_
              refine a_iadd dX9_readSort_133 ?_
              refine a_gd h (fun c17 h => ?_)
              refine a_iald (x' := wi ((56 + (14 * q1)) + q3.2)) dX9_readSort_134 rfl rfl c17 rfl ?_
              have hh := hK14 _ h
              exact a_sub [1, 2, 3] rfl hh
            · skip
              refine a_iload_n 0 dX9_readSort_123 rfl ?_
              refine a_goto 135 dX9_readSort_124 (by decide) ?_
              have hh := hK14 _ h
              exact a_sub [1, 2, 3] rfl hh
        · skip
          refine a_icmp_ge 101 dX9_readSort_93 (by decide) rfl (by decide) h (fun c18 h => ?_) (fun c18 h => ?_)
          · skip
            refine a_bipush dX9_readSort_101 (by decide) ?_
            have hh := hK9 _ h
            exact a_sub [0, 1, 2] rfl hh
          · skip
            refine a_bipush dX9_readSort_96 (by decide) ?_
            refine a_goto 103 dX9_readSort_98 (by decide) ?_
            have hh := hK9 _ h
            exact a_sub [0, 1, 2] rfl hh
      · skip
        refine jn_s (fun q19 : Unit => aW G cX9_readSort RX9 "readSort" 4 none (sR 4 0 0) (aQ G none 0 0 (r_0, (mkSh q_0 x_0, s_0))) aX 0 0 (mkSh q_0 x_0, q3.1) [(0, .ref (gB G + 55)), (1, vI (56 + (14 * q1))), (2, vI q3.2)] 52 []) h (fun q19 h => ?_) (fun K20 hK20 h => ?_)
        · skip
          refine a_aload_n 0 dX9_readSort_52 rfl ?_
          refine a_aload_n 0 dX9_readSort_53 rfl ?_
          refine a_getI (j := 14) dX9_readSort_54 KX9 rfl (by decide) rfl kf_RX9_126 ?_
          refine a_iload_n 2 dX9_readSort_57 rfl ?_
          refine a_iconst dX9_readSort_58 ?_
          refine jn_s (fun q21 : Int => aW G cX9_readSort RX9 "readSort" 4 none (sR 4 0 0) (aQ G none 0 0 (r_0, (mkSh q_0 x_0, s_0))) aX 0 0 (mkSh q_0 x_0, q3.1) [(0, .ref (gB G + 55)), (1, vI (56 + (14 * q1))), (2, vI q3.2)] 77 [vI q21, vI (q3.1 55 14), .ref (gB G + 55)]) h (fun q21 h => ?_) (fun K22 hK22 h => ?_)
          · skip
            refine jn_s (fun q23 : Int => aW G cX9_readSort RX9 "readSort" 4 none (sR 4 0 0) (aQ G none 0 0 (r_0, (mkSh q_0 x_0, s_0))) aX 0 0 (mkSh q_0 x_0, q3.1) [(0, .ref (gB G + 55)), (1, vI (56 + (14 * q1))), (2, vI q3.2)] 85 [vI q23, .ref (gB G + 55)]) h (fun q23 h => ?_) (fun K24 hK24 h => ?_)
            · skip
              refine bn_s h (fun r25 σ27 e26 h => ?_)
              refine a_callVI dX9_readSort_85 mX9_due KX9 rfl kv_X9_due ks_X9_due rfl km_RX9_139 rfl (T_X9_due e26) (fun _ => rfl) rfl (Nat.le_of_ble_eq_true rfl) (Nat.le_of_ble_eq_true rfl) ⟨(Nat.le_of_ble_eq_true rfl), (Nat.le_of_ble_eq_true rfl)⟩ (Nat.le_of_ble_eq_true rfl) ?_
              refine a_popI dX9_readSort_88 ?_
              have hh := hK7 _ h
              exact a_sub [0, 1, 2] rfl hh
            · skip
              refine a_icmp_ne 84 dX9_readSort_77 (by decide) rfl rfl h (fun c28 h => ?_) (fun c28 h => ?_)
              · skip
                refine a_iconst dX9_readSort_84 ?_
                have hh := hK24 _ h
                exact a_sub [0, 1, 2] rfl hh
              · skip
                refine a_iconst dX9_readSort_80 ?_
                refine a_goto 85 dX9_readSort_81 (by decide) ?_
                have hh := hK24 _ h
                exact a_sub [0, 1, 2] rfl hh
          · skip
            refine a_icmp_ne 66 dX9_readSort_59 (by decide) rfl (by decide) h (fun c29 h => ?_) (fun c29 h => ?_)
            · skip
              refine a_iload_n 2 dX9_readSort_66 rfl ?_
              refine a_bipush dX9_readSort_67 (by decide) ?_
              refine a_icmp_ne 76 dX9_readSort_69 (by decide) rfl (by decide) h (fun c30 h => ?_) (fun c30 h => ?_)
              · skip
                refine a_iconst dX9_readSort_76 ?_
                have hh := hK22 _ h
                exact a_sub [0, 1, 2] rfl hh
              · skip
                refine a_iconst dX9_readSort_72 ?_
                refine a_goto 77 dX9_readSort_73 (by decide) ?_
                have hh := hK22 _ h
                exact a_sub [0, 1, 2] rfl hh
            · skip
              refine a_iconst dX9_readSort_62 ?_
              refine a_goto 77 dX9_readSort_63 (by decide) ?_
              have hh := hK22 _ h
              exact a_sub [0, 1, 2] rfl hh
        · skip
          refine a_icmp_eq 52 dX9_readSort_37 (by decide) rfl (by decide) h (fun c31 h => ?_) (fun c31 h => ?_)
          · skip
            have hh := hK20 _ h
            exact a_sub [0, 1, 2] rfl hh
          · skip
            refine a_iload_n 2 dX9_readSort_40 rfl ?_
            refine a_bipush dX9_readSort_41 (by decide) ?_
            refine a_icmp_eq 52 dX9_readSort_43 (by decide) rfl (by decide) h (fun c32 h => ?_) (fun c32 h => ?_)
            · skip
              have hh := hK20 _ h
              exact a_sub [0, 1, 2] rfl hh
            · skip
              refine a_iload_n 2 dX9_readSort_46 rfl ?_
              refine a_bipush dX9_readSort_47 (by decide) ?_
              refine a_icmp_ne 89 dX9_readSort_49 (by decide) rfl (by decide) h (fun c33 h => ?_) (fun c33 h => ?_)
              · skip
                have hh := hK7 _ h
                exact a_sub [0, 1, 2] rfl hh
              · skip
                have hh := hK20 _ h
                exact a_sub [0, 1, 2] rfl hh
  · skip
    refine a_icmp_ge 23 dX9_readSort_11 (by decide) rfl (by decide) h (fun c34 h => ?_) (fun c34 h => ?_)
    · skip
      refine a_iconst dX9_readSort_23 ?_
      have hh := hK2 _ h
      exact a_sub [0] rfl hh
    · skip
      refine a_aload_n 0 dX9_readSort_14 rfl ?_
      refine a_getR (j := 3) dX9_readSort_15 KX9 rfl (by decide) rfl kf_RX9_13 ?_
      refine a_iconst dX9_readSort_18 ?_
      refine a_iald (x' := 1) dX9_readSort_19 rfl (by decide) (by decide) rfl ?_
      refine a_goto 24 dX9_readSort_20 (by decide) ?_
      have hh := hK2 _ h
      exact a_sub [0] rfl hh

def X9_item (F : Nat) (σ : sM) (a1 a2 : Int) : Option (Int × sM) := jn (fun q1 : Int => bn (X9_due F σ q1) (fun r3 σ5 => if wi (σ5 55 16) = (-9) then jn (fun q7 : sM => jn (fun q9 : Int => bn (X9_due F q7 q9) (fun r11 σ13 => some (0, σ13))) (fun K10 => if ¬ wi (q7 55 14) = 11 then K10 0 else K10 1)) (fun K8 => if ¬ wi a1 = 1 then if ¬ wi a1 = 2 then if ¬ wi a1 = 6 then if ¬ wi a1 = 7 then bn (X9_number F σ5 0 7) (fun r19 σ21 => jn (fun q22 : Int => bn (X9_number F σ21 0 q22) (fun r24 σ26 => jn (fun q27 : Unit => if ¬ wi (σ26 55 16) = (-9) then K8 σ26 else if 0 ≤ wi (8 + r19) ∧ wi (8 + r19) < 16 then K8 (sU σ26 65 (wi (8 + r19)).toNat r24) else none) (fun K28 => if ¬ wi (σ26 55 16) = (-9) then K28 () else if ¬ wi a1 = 8 then K28 () else if 0 ≤ wi (8 + r19) ∧ wi (8 + r19) < 16 then K8 (sU σ26 64 (wi (8 + r19)).toNat r24) else none))) (fun K23 => if ¬ wi a1 = 8 then K23 99 else K23 5)) else bn (X9_number F σ5 1 3) (fun r35 σ37 => K8 (sU σ37 60 1 r35)) else bn (X9_number F σ5 0 ((σ5 57 1) - 1)) (fun r38 σ40 => if 0 ≤ wi (3 + (σ5 58 1)) ∧ wi (3 + (σ5 58 1)) < 6 then bn (X9_number F (sU σ40 62 (wi (3 + (σ5 58 1))).toNat r38) 1 3) (fun r42 σ44 => if 0 ≤ wi (3 + ((sU σ40 62 (wi (3 + (σ5 58 1))).toNat r38) 58 1)) ∧ wi (3 + ((sU σ40 62 (wi (3 + (σ5 58 1))).toNat r38) 58 1)) < 6 then nm (sU (sU σ44 63 (wi (3 + ((sU σ40 62 (wi (3 + (σ5 58 1))).toNat r38) 58 1))).toNat r42) 58 1 (((sU σ44 63 (wi (3 + ((sU σ40 62 (wi (3 + (σ5 58 1))).toNat r38) 58 1))).toNat r42) 58 1) + 1)) (fun σ46 => K8 σ46) else none) else none) else bn (X9_readSort F σ5) (fun r48 σ50 => K8 σ50) else bn (X9_number F σ5 1 8) (fun r51 σ53 => K8 (sU σ53 59 1 r51))) else some (0, σ5))) (fun K2 => if ¬ wi a1 = 1 then if ¬ wi a1 = 2 then if ¬ wi a1 = 6 then jn (fun q57 : Unit => K2 1) (fun K58 => if wi a1 = 7 then K58 () else if wi a1 = 8 then K58 () else if ¬ wi a1 = 9 then K2 0 else K58 ()) else if 3 ≤ wi (σ 58 1) then K2 0 else K2 1 else if 4 ≤ wi (σ 57 1) then K2 0 else K2 1 else if ¬ wi a2 = 0 then K2 0 else K2 1)
set_option maxRecDepth 100000 in
set_option maxHeartbeats 400000 in
theorem T_X9_item {G : sG} {q_0 : qT} {x_0 : List Nat} {σ s_0 : sM} {r_0 : Int} {a1 a2 : Int} {F : Nat}  (h : X9_item F σ a1 a2 = some (r_0, s_0)) : aM G yX9_item cX9_item 5 none 5 0 0 [.ref (gB G + 55), vI a1, vI a2] (mkSh q_0 x_0, σ) (r_0, (mkSh q_0 x_0, s_0)) := by
  unfold X9_item at h
  refine aM_of (by decide) (Nat.le_of_ble_eq_true rfl) ?_
  show aW G cX9_item RX9 "item" 5 none _ _ aX 0 0 _ [(0, .ref (gB G + 55)), (1, vI a1), (2, vI a2)] 0 []
  refine a_aload_n 0 dX9_item_0 rfl ?_
  refine a_iload_n 1 dX9_item_1 rfl ?_
  refine a_iconst dX9_item_2 ?_
  refine jn_s (fun q1 : Int => aW G cX9_item RX9 "item" 5 none (sR 5 0 0) (aQ G none 0 0 (r_0, (mkSh q_0 x_0, s_0))) aX 0 0 (mkSh q_0 x_0, σ) [(0, .ref (gB G + 55)), (1, vI a1)] 88 [vI q1, .ref (gB G + 55)]) h (fun q1 h => ?_) (fun K2 hK2 h => ?_)
  · skip
    refine bn_s h (fun r3 σ5 e4 h => ?_)
    refine a_callVI dX9_item_88 mX9_due KX9 rfl kv_X9_due ks_X9_due rfl km_RX9_139 rfl (T_X9_due e4) (fun _ => rfl) rfl (Nat.le_of_ble_eq_true rfl) (Nat.le_of_ble_eq_true rfl) ⟨(Nat.le_of_ble_eq_true rfl), (Nat.le_of_ble_eq_true rfl)⟩ (Nat.le_of_ble_eq_true rfl) ?_
    refine a_popI dX9_item_91 ?_
    refine a_aload_n 0 dX9_item_92 rfl ?_
    refine a_getI (j := 16) dX9_item_93 KX9 rfl (by decide) rfl kf_RX9_133 ?_
    refine a_bipush dX9_item_96 (by decide) ?_
    refine a_icmp_eq 102 dX9_item_98 (by decide) rfl (by decide) h (fun c6 h => ?_) (fun c6 h => ?_)
    · skip
      refine a_iload_n 1 dX9_item_102 rfl ?_
      refine a_iconst dX9_item_103 ?_
      refine jn_s (fun q7 : sM => aW G cX9_item RX9 "item" 5 none (sR 5 0 0) (aQ G none 0 0 (r_0, (mkSh q_0 x_0, s_0))) aX 0 0 (mkSh q_0 x_0, q7) [(0, .ref (gB G + 55))] 296 []) h (fun q7 h => ?_) (fun K8 hK8 h => ?_)
      · skip
        refine a_aload_n 0 dX9_item_296 rfl ?_
        refine a_aload_n 0 dX9_item_297 rfl ?_
        refine a_getI (j := 14) dX9_item_298 KX9 rfl (by decide) rfl kf_RX9_126 ?_
        refine a_bipush dX9_item_301 (by decide) ?_
        refine jn_s (fun q9 : Int => aW G cX9_item RX9 "item" 5 none (sR 5 0 0) (aQ G none 0 0 (r_0, (mkSh q_0 x_0, s_0))) aX 0 0 (mkSh q_0 x_0, q7) [] 311 [vI q9, .ref (gB G + 55)]) h (fun q9 h => ?_) (fun K10 hK10 h => ?_)
        · skip
          refine bn_s h (fun r11 σ13 e12 h => ?_)
          refine a_callVI dX9_item_311 mX9_due KX9 rfl kv_X9_due ks_X9_due rfl km_RX9_139 rfl (T_X9_due e12) (fun _ => rfl) rfl (Nat.le_of_ble_eq_true rfl) (Nat.le_of_ble_eq_true rfl) ⟨(Nat.le_of_ble_eq_true rfl), (Nat.le_of_ble_eq_true rfl)⟩ (Nat.le_of_ble_eq_true rfl) ?_
          refine a_popI dX9_item_314 ?_
          exact a_vret dX9_item_315 rfl (p_S (p_2 h))
        · skip
          refine a_icmp_ne 310 dX9_item_303 (by decide) rfl (by decide) h (fun c14 h => ?_) (fun c14 h => ?_)
          · skip
            refine a_iconst dX9_item_310 ?_
            have hh := hK10 _ h
            exact a_sub [] rfl hh
          · skip
            refine a_iconst dX9_item_306 ?_
            refine a_goto 311 dX9_item_307 (by decide) ?_
            have hh := hK10 _ h
            exact a_sub [] rfl hh
      · skip
        refine a_icmp_ne 123 dX9_item_104 (by decide) rfl (by decide) h (fun c15 h => ?_) (fun c15 h => ?_)
        · skip
          refine a_iload_n 1 dX9_item_123 rfl ?_
          refine a_iconst dX9_item_124 ?_
          refine a_icmp_ne 135 dX9_item_125 (by decide) rfl (by decide) h (fun c16 h => ?_) (fun c16 h => ?_)
          · skip
            refine a_iload_n 1 dX9_item_135 rfl ?_
            refine a_bipush dX9_item_136 (by decide) ?_
            refine a_icmp_ne 199 dX9_item_138 (by decide) rfl (by decide) h (fun c17 h => ?_) (fun c17 h => ?_)
            · skip
              refine a_iload_n 1 dX9_item_199 rfl ?_
              refine a_bipush dX9_item_200 (by decide) ?_
              refine a_icmp_ne 220 dX9_item_202 (by decide) rfl (by decide) h (fun c18 h => ?_) (fun c18 h => ?_)
              · skip
                refine a_aload_n 0 dX9_item_220 rfl ?_
                refine a_iconst dX9_item_221 ?_
                refine a_bipush dX9_item_222 (by decide) ?_
                refine bn_s h (fun r19 σ21 e20 h => ?_)
                refine a_callVI dX9_item_224 mX9_number KX9 rfl kv_X9_number ks_X9_number rfl km_RX9_143 rfl (T_X9_number e20) (fun _ => rfl) rfl (Nat.le_of_ble_eq_true rfl) (Nat.le_of_ble_eq_true rfl) ⟨(Nat.le_of_ble_eq_true rfl), (Nat.le_of_ble_eq_true rfl)⟩ (Nat.le_of_ble_eq_true rfl) ?_
                refine a_istore_n (L' := [(3, vI r19), (0, .ref (gB G + 55)), (1, vI a1)]) dX9_item_227 (by decide) rfl ?_
                refine a_aload_n 1 dX9_item_228 rfl ?_
                refine a_iconst dX9_item_229 ?_
                refine a_iload_n 2 dX9_item_230 rfl ?_
                refine a_bipush dX9_item_231 (by decide) ?_
                refine jn_s (fun q22 : Int => aW G cX9_item RX9 "item" 5 none (sR 5 0 0) (aQ G none 0 0 (r_0, (mkSh q_0 x_0, s_0))) aX 0 0 (mkSh q_0 x_0, σ21) [(0, .ref (gB G + 55)), (1, vI a1), (3, vI r19)] 242 [vI q22, vI 0, .ref (gB G + 55)]) h (fun q22 h => ?_) (fun K23 hK23 h => ?_)
                · skip
                  refine bn_s h (fun r24 σ26 e25 h => ?_)
                  refine a_callVI dX9_item_242 mX9_number KX9 rfl kv_X9_number ks_X9_number rfl km_RX9_143 rfl (T_X9_number e25) (fun _ => rfl) rfl (Nat.le_of_ble_eq_true rfl) (Nat.le_of_ble_eq_true rfl) ⟨(Nat.le_of_ble_eq_true rfl), (Nat.le_of_ble_eq_true rfl)⟩ (Nat.le_of_ble_eq_true rfl) ?_
                  refine a_istore (L' := [(4, vI r24), (0, .ref (gB G + 55)), (1, vI a1), (3, vI r19)]) dX9_item_245 (by decide) rfl ?_
                  refine a_aload_n 1 dX9_item_247 rfl ?_
                  refine a_getI (j := 16) dX9_item_248 KX9 rfl (by decide) rfl kf_RX9_133 ?_
                  refine a_bipush dX9_item_251 (by decide) ?_
                  refine jn_s (fun q27 : Unit => aW G cX9_item RX9 "item" 5 none (sR 5 0 0) (aQ G none 0 0 (r_0, (mkSh q_0 x_0, s_0))) aX 0 0 (mkSh q_0 x_0, σ26) [(0, .ref (gB G + 55)), (3, vI r19), (4, vI r24)] 276 []) h (fun q27 h => ?_) (fun K28 hK28 h => ?_)
                  · skip
                    refine a_aload_n 0 dX9_item_276 rfl ?_
                    refine a_getI (j := 16) dX9_item_277 KX9 rfl (by decide) rfl kf_RX9_133 ?_
                    refine a_bipush dX9_item_280 (by decide) ?_
                    refine a_icmp_ne 296 dX9_item_282 (by decide) rfl (by decide) h (fun c29 h => ?_) (fun c29 h => ?_)
                    · skip
                      have hh := hK8 _ h
                      exact a_sub [0] rfl hh
                    · skip
                      refine a_aload_n 0 dX9_item_285 rfl ?_
                      refine a_getR (j := 11) dX9_item_286 KX9 rfl (by decide) rfl kf_RX9_38 ?_
                      refine a_bipush dX9_item_289 (by decide) ?_
                      refine a_iload_n 1 dX9_item_291 rfl ?_
                      refine a_iadd dX9_item_292 ?_
                      refine a_iload 2 dX9_item_293 rfl ?_
                      refine a_gd h (fun c30 h => ?_)
                      refine a_iast (x' := wi (8 + r19)) dX9_item_295 rfl rfl c30 rfl ?_
                      have hh := hK8 _ h
                      exact a_sub [0] rfl hh
                  · skip
                    refine a_icmp_ne 276 dX9_item_253 (by decide) rfl (by decide) h (fun c31 h => ?_) (fun c31 h => ?_)
                    · skip
                      have hh := hK28 _ h
                      exact a_sub [1, 3, 0] rfl hh
                    · skip
                      refine a_iload_n 2 dX9_item_256 rfl ?_
                      refine a_bipush dX9_item_257 (by decide) ?_
                      refine a_icmp_ne 276 dX9_item_259 (by decide) rfl (by decide) h (fun c32 h => ?_) (fun c32 h => ?_)
                      · skip
                        have hh := hK28 _ h
                        exact a_sub [1, 3, 0] rfl hh
                      · skip
                        refine a_aload_n 1 dX9_item_262 rfl ?_
                        refine a_getR (j := 10) dX9_item_263 KX9 rfl (by decide) rfl kf_RX9_35 ?_
                        refine a_bipush dX9_item_266 (by decide) ?_
                        refine a_iload_n 3 dX9_item_268 rfl ?_
                        refine a_iadd dX9_item_269 ?_
                        refine a_iload 0 dX9_item_270 rfl ?_
                        refine a_gd h (fun c33 h => ?_)
                        refine a_iast (x' := wi (8 + r19)) dX9_item_272 rfl rfl c33 rfl ?_
                        refine a_goto 296 dX9_item_273 (by decide) ?_
                        have hh := hK8 _ h
                        exact a_sub [1] rfl hh
                · skip
                  refine a_icmp_ne 240 dX9_item_233 (by decide) rfl (by decide) h (fun c34 h => ?_) (fun c34 h => ?_)
                  · skip
                    refine a_bipush dX9_item_240 (by decide) ?_
                    have hh := hK23 _ h
                    exact a_sub [1, 2, 0] rfl hh
                  · skip
                    refine a_iconst dX9_item_236 ?_
                    refine a_goto 242 dX9_item_237 (by decide) ?_
                    have hh := hK23 _ h
                    exact a_sub [1, 2, 0] rfl hh
              · skip
                refine a_aload_n 0 dX9_item_205 rfl ?_
                refine a_getR (j := 6) dX9_item_206 KX9 rfl (by decide) rfl kf_RX9_23 ?_
                refine a_iconst dX9_item_209 ?_
                refine a_aload_n 0 dX9_item_210 rfl ?_
                refine a_iconst dX9_item_211 ?_
                refine a_iconst dX9_item_212 ?_
                refine bn_s h (fun r35 σ37 e36 h => ?_)
                refine a_callVI dX9_item_213 mX9_number KX9 rfl kv_X9_number ks_X9_number rfl km_RX9_143 rfl (T_X9_number e36) (fun _ => rfl) rfl (Nat.le_of_ble_eq_true rfl) (Nat.le_of_ble_eq_true rfl) ⟨(Nat.le_of_ble_eq_true rfl), (Nat.le_of_ble_eq_true rfl)⟩ (Nat.le_of_ble_eq_true rfl) ?_
                refine a_iast (x' := 1) dX9_item_216 rfl (by decide) (by decide) rfl ?_
                refine a_goto 296 dX9_item_217 (by decide) ?_
                have hh := hK8 _ h
                exact a_sub [0] rfl hh
            · skip
              refine a_aload_n 0 dX9_item_141 rfl ?_
              refine a_getR (j := 8) dX9_item_142 KX9 rfl (by decide) rfl kf_RX9_29 ?_
              refine a_iconst dX9_item_145 ?_
              refine a_aload_n 0 dX9_item_146 rfl ?_
              refine a_getR (j := 4) dX9_item_147 KX9 rfl (by decide) rfl kf_RX9_17 ?_
              refine a_iconst dX9_item_150 ?_
              refine a_iald (x' := 1) dX9_item_151 rfl (by decide) (by decide) rfl ?_
              refine a_iadd dX9_item_152 ?_
              refine a_aload_n 0 dX9_item_153 rfl ?_
              refine a_iconst dX9_item_154 ?_
              refine a_aload_n 0 dX9_item_155 rfl ?_
              refine a_getR (j := 3) dX9_item_156 KX9 rfl (by decide) rfl kf_RX9_13 ?_
              refine a_iconst dX9_item_159 ?_
              refine a_iald (x' := 1) dX9_item_160 rfl (by decide) (by decide) rfl ?_
              refine a_iconst dX9_item_161 ?_
              refine a_isub dX9_item_162 ?_
              refine bn_s h (fun r38 σ40 e39 h => ?_)
              refine a_callVI dX9_item_163 mX9_number KX9 rfl kv_X9_number ks_X9_number rfl km_RX9_143 rfl (T_X9_number e39) (fun _ => rfl) rfl (Nat.le_of_ble_eq_true rfl) (Nat.le_of_ble_eq_true rfl) ⟨(Nat.le_of_ble_eq_true rfl), (Nat.le_of_ble_eq_true rfl)⟩ (Nat.le_of_ble_eq_true rfl) ?_
              refine a_gd h (fun c41 h => ?_)
              refine a_iast (x' := wi (3 + (σ5 58 1))) dX9_item_166 rfl rfl c41 rfl ?_
              refine a_aload_n 0 dX9_item_167 rfl ?_
              refine a_getR (j := 9) dX9_item_168 KX9 rfl (by decide) rfl kf_RX9_32 ?_
              refine a_iconst dX9_item_171 ?_
              refine a_aload_n 0 dX9_item_172 rfl ?_
              refine a_getR (j := 4) dX9_item_173 KX9 rfl (by decide) rfl kf_RX9_17 ?_
              refine a_iconst dX9_item_176 ?_
              refine a_iald (x' := 1) dX9_item_177 rfl (by decide) (by decide) rfl ?_
              refine a_iadd dX9_item_178 ?_
              refine a_aload_n 0 dX9_item_179 rfl ?_
              refine a_iconst dX9_item_180 ?_
              refine a_iconst dX9_item_181 ?_
              refine bn_s h (fun r42 σ44 e43 h => ?_)
              refine a_callVI dX9_item_182 mX9_number KX9 rfl kv_X9_number ks_X9_number rfl km_RX9_143 rfl (T_X9_number e43) (fun _ => rfl) rfl (Nat.le_of_ble_eq_true rfl) (Nat.le_of_ble_eq_true rfl) ⟨(Nat.le_of_ble_eq_true rfl), (Nat.le_of_ble_eq_true rfl)⟩ (Nat.le_of_ble_eq_true rfl) ?_
              refine a_gd h (fun c45 h => ?_)
              refine a_iast (x' := wi (3 + ((sU σ40 62 (wi (3 + (σ5 58 1))).toNat r38) 58 1))) dX9_item_185 rfl rfl c45 rfl ?_
              refine a_aload_n 0 dX9_item_186 rfl ?_
              refine a_getR (j := 4) dX9_item_187 KX9 rfl (by decide) rfl kf_RX9_17 ?_
              refine a_iconst dX9_item_190 ?_
              refine a_dup2 dX9_item_191 ?_
              refine a_iald (x' := 1) dX9_item_192 rfl (by decide) (by decide) rfl ?_
              refine a_iconst dX9_item_193 ?_
              refine a_iadd dX9_item_194 ?_
              refine a_iast (x' := 1) dX9_item_195 rfl (by decide) (by decide) rfl ?_
              refine a_nmS h (fun σ46 w47 h => ?_)
              refine a_goto 296 dX9_item_196 (by decide) ?_
              have hh := hK8 _ h
              exact a_sub [0] rfl hh
          · skip
            refine a_aload_n 0 dX9_item_128 rfl ?_
            refine bn_s h (fun r48 σ50 e49 h => ?_)
            refine a_callVV dX9_item_129 mX9_readSort KX9 rfl kv_X9_readSort ks_X9_readSort rfl km_RX9_147 rfl (T_X9_readSort e49) (fun _ => rfl) rfl (Nat.le_of_ble_eq_true rfl) (Nat.le_of_ble_eq_true rfl) ⟨(Nat.le_of_ble_eq_true rfl), (Nat.le_of_ble_eq_true rfl)⟩ (Nat.le_of_ble_eq_true rfl) ?_
            refine a_goto 296 dX9_item_132 (by decide) ?_
            have hh := hK8 _ h
            exact a_sub [0] rfl hh
        · skip
          refine a_aload_n 0 dX9_item_107 rfl ?_
          refine a_getR (j := 5) dX9_item_108 KX9 rfl (by decide) rfl kf_RX9_20 ?_
          refine a_iconst dX9_item_111 ?_
          refine a_aload_n 0 dX9_item_112 rfl ?_
          refine a_iconst dX9_item_113 ?_
          refine a_bipush dX9_item_114 (by decide) ?_
          refine bn_s h (fun r51 σ53 e52 h => ?_)
          refine a_callVI dX9_item_116 mX9_number KX9 rfl kv_X9_number ks_X9_number rfl km_RX9_143 rfl (T_X9_number e52) (fun _ => rfl) rfl (Nat.le_of_ble_eq_true rfl) (Nat.le_of_ble_eq_true rfl) ⟨(Nat.le_of_ble_eq_true rfl), (Nat.le_of_ble_eq_true rfl)⟩ (Nat.le_of_ble_eq_true rfl) ?_
          refine a_iast (x' := 1) dX9_item_119 rfl (by decide) (by decide) rfl ?_
          refine a_goto 296 dX9_item_120 (by decide) ?_
          have hh := hK8 _ h
          exact a_sub [0] rfl hh
    · skip
      exact a_vret dX9_item_101 rfl (p_S (p_2 h))
  · skip
    refine a_icmp_ne 18 dX9_item_3 (by decide) rfl (by decide) h (fun c54 h => ?_) (fun c54 h => ?_)
    · skip
      refine a_iload_n 1 dX9_item_18 rfl ?_
      refine a_iconst dX9_item_19 ?_
      refine a_icmp_ne 41 dX9_item_20 (by decide) rfl (by decide) h (fun c55 h => ?_) (fun c55 h => ?_)
      · skip
        refine a_iload_n 1 dX9_item_41 rfl ?_
        refine a_bipush dX9_item_42 (by decide) ?_
        refine a_icmp_ne 65 dX9_item_44 (by decide) rfl (by decide) h (fun c56 h => ?_) (fun c56 h => ?_)
        · skip
          refine a_iload_n 1 dX9_item_65 rfl ?_
          refine a_bipush dX9_item_66 (by decide) ?_
          refine jn_s (fun q57 : Unit => aW G cX9_item RX9 "item" 5 none (sR 5 0 0) (aQ G none 0 0 (r_0, (mkSh q_0 x_0, s_0))) aX 0 0 (mkSh q_0 x_0, σ) [(0, .ref (gB G + 55)), (1, vI a1)] 83 [.ref (gB G + 55)]) h (fun q57 h => ?_) (fun K58 hK58 h => ?_)
          · skip
            refine a_iconst dX9_item_83 ?_
            refine a_goto 88 dX9_item_84 (by decide) ?_
            have hh := hK2 _ h
            exact a_sub [0, 1] rfl hh
          · skip
            refine a_icmp_eq 83 dX9_item_68 (by decide) rfl (by decide) h (fun c59 h => ?_) (fun c59 h => ?_)
            · skip
              have hh := hK58 _ h
              exact a_sub [0, 1] rfl hh
            · skip
              refine a_iload_n 1 dX9_item_71 rfl ?_
              refine a_bipush dX9_item_72 (by decide) ?_
              refine a_icmp_eq 83 dX9_item_74 (by decide) rfl (by decide) h (fun c60 h => ?_) (fun c60 h => ?_)
              · skip
                have hh := hK58 _ h
                exact a_sub [0, 1] rfl hh
              · skip
                refine a_iload_n 1 dX9_item_77 rfl ?_
                refine a_bipush dX9_item_78 (by decide) ?_
                refine a_icmp_ne 87 dX9_item_80 (by decide) rfl (by decide) h (fun c61 h => ?_) (fun c61 h => ?_)
                · skip
                  refine a_iconst dX9_item_87 ?_
                  have hh := hK2 _ h
                  exact a_sub [0, 1] rfl hh
                · skip
                  have hh := hK58 _ h
                  exact a_sub [0, 1] rfl hh
        · skip
          refine a_aload_n 0 dX9_item_47 rfl ?_
          refine a_getR (j := 4) dX9_item_48 KX9 rfl (by decide) rfl kf_RX9_17 ?_
          refine a_iconst dX9_item_51 ?_
          refine a_iald (x' := 1) dX9_item_52 rfl (by decide) (by decide) rfl ?_
          refine a_iconst dX9_item_53 ?_
          refine a_icmp_ge 61 dX9_item_54 (by decide) rfl (by decide) h (fun c62 h => ?_) (fun c62 h => ?_)
          · skip
            refine a_iconst dX9_item_61 ?_
            refine a_goto 88 dX9_item_62 (by decide) ?_
            have hh := hK2 _ h
            exact a_sub [0, 1] rfl hh
          · skip
            refine a_iconst dX9_item_57 ?_
            refine a_goto 88 dX9_item_58 (by decide) ?_
            have hh := hK2 _ h
            exact a_sub [0, 1] rfl hh
      · skip
        refine a_aload_n 0 dX9_item_23 rfl ?_
        refine a_getR (j := 3) dX9_item_24 KX9 rfl (by decide) rfl kf_RX9_13 ?_
        refine a_iconst dX9_item_27 ?_
        refine a_iald (x' := 1) dX9_item_28 rfl (by decide) (by decide) rfl ?_
        refine a_iconst dX9_item_29 ?_
        refine a_icmp_ge 37 dX9_item_30 (by decide) rfl (by decide) h (fun c63 h => ?_) (fun c63 h => ?_)
        · skip
          refine a_iconst dX9_item_37 ?_
          refine a_goto 88 dX9_item_38 (by decide) ?_
          have hh := hK2 _ h
          exact a_sub [0, 1] rfl hh
        · skip
          refine a_iconst dX9_item_33 ?_
          refine a_goto 88 dX9_item_34 (by decide) ?_
          have hh := hK2 _ h
          exact a_sub [0, 1] rfl hh
    · skip
      refine a_iload_n 2 dX9_item_6 rfl ?_
      refine a_if_ne 14 dX9_item_7 (by decide) rfl h (fun c64 h => ?_) (fun c64 h => ?_)
      · skip
        refine a_iconst dX9_item_14 ?_
        refine a_goto 88 dX9_item_15 (by decide) ?_
        have hh := hK2 _ h
        exact a_sub [0, 1] rfl hh
      · skip
        refine a_iconst dX9_item_10 ?_
        refine a_goto 88 dX9_item_11 (by decide) ?_
        have hh := hK2 _ h
        exact a_sub [0, 1] rfl hh

def X9_begin (F : Nat) (σ : sM) : Option (Int × sM) := lp (fun K2 (q1 : sM × Int) => if 3 ≤ wi q1.2 then some (0, q1.1) else if 0 ≤ wi q1.2 ∧ wi q1.2 < 9 then if 0 ≤ wi q1.2 ∧ wi q1.2 < 6 then if 0 ≤ wi q1.2 ∧ wi q1.2 < 9 then nm (sU (sU q1.1 71 (wi q1.2).toNat 0) 72 (wi q1.2).toNat ((sU q1.1 71 (wi q1.2).toNat 0) 63 (wi q1.2).toNat)) (fun σ7 => if 0 ≤ wi q1.2 ∧ wi q1.2 < 9 then K2 ((sU σ7 73 (wi q1.2).toNat (q_z 0)), q1.2 + 1) else none) else none else none else none) F ((sU (sU (sU (sU σ 66 0 0) 67 0 (q_z 0)) 68 0 0) 69 0 0), 0)
set_option maxRecDepth 100000 in
set_option maxHeartbeats 400000 in
theorem T_X9_begin {G : sG} {q_0 : qT} {x_0 : List Nat} {σ s_0 : sM} {r_0 : Int} {F : Nat}  (h : X9_begin F σ = some (r_0, s_0)) : aM G yX9_begin cX9_begin 2 none 0 0 0 [.ref (gB G + 55)] (mkSh q_0 x_0, σ) (r_0, (mkSh q_0 x_0, s_0)) := by
  unfold X9_begin at h
  refine aM_of (by decide) (Nat.le_of_ble_eq_true rfl) ?_
  show aW G cX9_begin RX9 "begin" 2 none _ _ aX 0 0 _ [(0, .ref (gB G + 55))] 0 []
  refine a_aload_n 0 dX9_begin_0 rfl ?_
  refine a_getR (j := 17) dX9_begin_1 KX9 rfl (by decide) rfl kf_RX9_41 ?_
  refine a_iconst dX9_begin_4 ?_
  refine a_iconst dX9_begin_5 ?_
  refine a_iast (x' := 0) dX9_begin_6 rfl (by decide) (by decide) rfl ?_
  refine a_aload_n 0 dX9_begin_7 rfl ?_
  refine a_getR (j := 18) dX9_begin_8 KX9 rfl (by decide) rfl kf_RX9_44 ?_
  refine a_iconst dX9_begin_11 ?_
  refine a_iconst dX9_begin_12 ?_
  refine a_zast (x' := 0) dX9_begin_13 rfl (by decide) (by decide) rfl ?_
  refine a_aload_n 0 dX9_begin_14 rfl ?_
  refine a_getR (j := 19) dX9_begin_15 KX9 rfl (by decide) rfl kf_RX9_48 ?_
  refine a_iconst dX9_begin_18 ?_
  refine a_iconst dX9_begin_19 ?_
  refine a_iast (x' := 0) dX9_begin_20 rfl (by decide) (by decide) rfl ?_
  refine a_aload_n 0 dX9_begin_21 rfl ?_
  refine a_getR (j := 20) dX9_begin_22 KX9 rfl (by decide) rfl kf_RX9_51 ?_
  refine a_iconst dX9_begin_25 ?_
  refine a_iconst dX9_begin_26 ?_
  refine a_iast (x' := 0) dX9_begin_27 rfl (by decide) (by decide) rfl ?_
  refine a_iconst dX9_begin_28 ?_
  refine a_istore_n (L' := [(1, vI 0), (0, .ref (gB G + 55))]) dX9_begin_29 (by decide) rfl ?_
  refine a_sub (L' := [(0, .ref (gB G + 55)), (1, vI 0)]) [1, 0] rfl (lp_s (x := ((sU (sU (sU (sU σ 66 0 0) 67 0 (q_z 0)) 68 0 0) 69 0 0), 0)) (fun q1 : sM × Int => aW G cX9_begin RX9 "begin" 2 none (sR 0 0 0) (aQ G none 0 0 (r_0, (mkSh q_0 x_0, s_0))) aX 0 0 (mkSh q_0 x_0, q1.1) [(0, .ref (gB G + 55)), (1, vI q1.2)] 30 []) h (fun K2 hK2 q1 h => ?_))
  refine a_iload_n 1 dX9_begin_30 rfl ?_
  refine a_iconst dX9_begin_31 ?_
  refine a_icmp_ge 67 dX9_begin_32 (by decide) rfl (by decide) h (fun c3 h => ?_) (fun c3 h => ?_)
  · skip
    exact a_vret dX9_begin_67 rfl (p_S (p_2 h))
  · skip
    refine a_aload_n 0 dX9_begin_35 rfl ?_
    refine a_getR (j := 22) dX9_begin_36 KX9 rfl (by decide) rfl kf_RX9_57 ?_
    refine a_iload_n 1 dX9_begin_39 rfl ?_
    refine a_iconst dX9_begin_40 ?_
    refine a_gd h (fun c4 h => ?_)
    refine a_iast (x' := wi q1.2) dX9_begin_41 rfl rfl c4 rfl ?_
    refine a_aload_n 0 dX9_begin_42 rfl ?_
    refine a_getR (j := 23) dX9_begin_43 KX9 rfl (by decide) rfl kf_RX9_60 ?_
    refine a_iload_n 1 dX9_begin_46 rfl ?_
    refine a_aload_n 0 dX9_begin_47 rfl ?_
    refine a_getR (j := 9) dX9_begin_48 KX9 rfl (by decide) rfl kf_RX9_32 ?_
    refine a_iload_n 1 dX9_begin_51 rfl ?_
    refine a_gd h (fun c5 h => ?_)
    refine a_iald (x' := wi q1.2) dX9_begin_52 rfl rfl c5 rfl ?_
    refine a_gd h (fun c6 h => ?_)
    refine a_iast (x' := wi q1.2) dX9_begin_53 rfl rfl c6 rfl ?_
    refine a_nmS h (fun σ7 w8 h => ?_)
    refine a_aload_n 0 dX9_begin_54 rfl ?_
    refine a_getR (j := 24) dX9_begin_55 KX9 rfl (by decide) rfl kf_RX9_63 ?_
    refine a_iload_n 1 dX9_begin_58 rfl ?_
    refine a_iconst dX9_begin_59 ?_
    refine a_gd h (fun c9 h => ?_)
    refine a_zast (x' := wi q1.2) dX9_begin_60 rfl rfl c9 rfl ?_
    refine a_iinc (L' := [(1, vI (q1.2 + 1)), (0, .ref (gB G + 55))]) 1 dX9_begin_61 rfl (by decide) rfl ?_
    refine a_goto 30 dX9_begin_64 (by decide) ?_
    have hh := hK2 _ h
    exact a_sub [1, 0] rfl hh

def X9_isWheel (σ : sM) (a1 : Int) : Option Int := bp (X9_in σ a1 0 ((σ 58 0) - 1)) (fun r1 => if wi r1 = 0 ∨ wi r1 = 1 then some r1 else none)
set_option maxRecDepth 100000 in
set_option maxHeartbeats 400000 in
theorem T_X9_isWheel {G : sG} {q_0 : qT} {x_0 : List Nat} {σ : sM} {r_0 : Int} {a1 : Int}  (h : X9_isWheel σ a1 = some r_0) : aM G yX9_isWheel cX9_isWheel 2 (some .boolean) 1 0 0 [.ref (gB G + 55), vI a1] (mkSh q_0 x_0, σ) (r_0, (mkSh q_0 x_0, σ)) := by
  unfold X9_isWheel at h
  refine aM_of (by decide) (Nat.le_of_ble_eq_true rfl) ?_
  show aW G cX9_isWheel RX9 "isWheel" 2 (some .boolean) _ _ aX 0 0 _ [(0, .ref (gB G + 55)), (1, vI a1)] 0 []
  refine a_iload_n 1 dX9_isWheel_0 rfl ?_
  refine a_iconst dX9_isWheel_1 ?_
  refine a_aload_n 0 dX9_isWheel_2 rfl ?_
  refine a_getR (j := 4) dX9_isWheel_3 KX9 rfl (by decide) rfl kf_RX9_17 ?_
  refine a_iconst dX9_isWheel_6 ?_
  refine a_iald (x' := 0) dX9_isWheel_7 rfl (by decide) (by decide) rfl ?_
  refine a_iconst dX9_isWheel_8 ?_
  refine a_isub dX9_isWheel_9 ?_
  refine bp_s h (fun r1 e2 h => ?_)
  refine a_callSI dX9_isWheel_10 mX9_in kv_X9_in km_RX9_103 rfl (T_X9_in e2) (fun _ => rfl) rfl (Nat.le_of_ble_eq_true rfl) (Nat.le_of_ble_eq_true rfl) ⟨(Nat.le_of_ble_eq_true rfl), (Nat.le_of_ble_eq_true rfl)⟩ (Nat.le_of_ble_eq_true rfl) ?_
  refine a_gd h (fun c3 h => ?_)
  exact a_zret dX9_isWheel_13 rfl (nb_01 c3) (s_inj h) rfl

def X9_isOver (σ : sM) : Option Int := if ¬ wi (σ 66 0) = wi (σ 59 0) then some 0 else some 1
set_option maxRecDepth 100000 in
set_option maxHeartbeats 400000 in
theorem T_X9_isOver {G : sG} {q_0 : qT} {x_0 : List Nat} {σ : sM} {r_0 : Int}  (h : X9_isOver σ = some r_0) : aM G yX9_isOver cX9_isOver 1 (some .boolean) 0 0 0 [.ref (gB G + 55)] (mkSh q_0 x_0, σ) (r_0, (mkSh q_0 x_0, σ)) := by
  unfold X9_isOver at h
  refine aM_of (by decide) (Nat.le_of_ble_eq_true rfl) ?_
  show aW G cX9_isOver RX9 "isOver" 1 (some .boolean) _ _ aX 0 0 _ [(0, .ref (gB G + 55))] 0 []
  refine a_aload_n 0 dX9_isOver_0 rfl ?_
  refine a_getR (j := 17) dX9_isOver_1 KX9 rfl (by decide) rfl kf_RX9_41 ?_
  refine a_iconst dX9_isOver_4 ?_
  refine a_iald (x' := 0) dX9_isOver_5 rfl (by decide) (by decide) rfl ?_
  refine a_aload_n 0 dX9_isOver_6 rfl ?_
  refine a_getR (j := 5) dX9_isOver_7 KX9 rfl (by decide) rfl kf_RX9_20 ?_
  refine a_iconst dX9_isOver_10 ?_
  refine a_iald (x' := 0) dX9_isOver_11 rfl (by decide) (by decide) rfl ?_
  refine a_icmp_ne 19 dX9_isOver_12 (by decide) rfl rfl h (fun c1 h => ?_) (fun c1 h => ?_)
  · skip
    refine a_iconst dX9_isOver_19 ?_
    exact a_zret dX9_isOver_20 rfl (by decide) (s_inj h) rfl
  · skip
    refine a_iconst dX9_isOver_15 ?_
    refine a_goto 20 dX9_isOver_16 (by decide) ?_
    exact a_zret dX9_isOver_20 rfl (by decide) (s_inj h) rfl

def X9_goodOf (σ : sM) (a1 a2 : Int) : Option Int := if 0 ≤ wi a1 ∧ wi a1 < 6 then if 0 ≤ wi ((14 * (σ 62 (wi a1).toNat)) + a2) ∧ wi ((14 * (σ 62 (wi a1).toNat)) + a2) < 112 then some (σ 61 (wi ((14 * (σ 62 (wi a1).toNat)) + a2)).toNat) else none else none
set_option maxRecDepth 100000 in
set_option maxHeartbeats 400000 in
theorem T_X9_goodOf {G : sG} {q_0 : qT} {x_0 : List Nat} {σ : sM} {r_0 : Int} {a1 a2 : Int}  (h : X9_goodOf σ a1 a2 = some r_0) : aM G yX9_goodOf cX9_goodOf 3 (some .int) 0 0 0 [.ref (gB G + 55), vI a1, vI a2] (mkSh q_0 x_0, σ) (r_0, (mkSh q_0 x_0, σ)) := by
  unfold X9_goodOf at h
  refine aM_of (by decide) (Nat.le_of_ble_eq_true rfl) ?_
  show aW G cX9_goodOf RX9 "goodOf" 3 (some .int) _ _ aX 0 0 _ [(0, .ref (gB G + 55)), (1, vI a1), (2, vI a2)] 0 []
  refine a_aload_n 0 dX9_goodOf_0 rfl ?_
  refine a_getR (j := 7) dX9_goodOf_1 KX9 rfl (by decide) rfl kf_RX9_26 ?_
  refine a_bipush dX9_goodOf_4 (by decide) ?_
  refine a_aload_n 0 dX9_goodOf_6 rfl ?_
  refine a_getR (j := 8) dX9_goodOf_7 KX9 rfl (by decide) rfl kf_RX9_29 ?_
  refine a_iload_n 1 dX9_goodOf_10 rfl ?_
  refine a_gd h (fun c1 h => ?_)
  refine a_iald (x' := wi a1) dX9_goodOf_11 rfl rfl c1 rfl ?_
  refine a_imul dX9_goodOf_12 ?_
  refine a_iload_n 2 dX9_goodOf_13 rfl ?_
  refine a_iadd dX9_goodOf_14 ?_
  refine a_gd h (fun c2 h => ?_)
  refine a_iald (x' := wi ((14 * (σ 62 (wi a1).toNat)) + a2)) dX9_goodOf_15 rfl rfl c2 rfl ?_
  exact a_iret dX9_goodOf_16 rfl (s_inj h) rfl

def X9_warmth (σ : sM) (a1 : Int) : Option Int := if 8 ≤ wi a1 then some 0 else if 0 ≤ wi a1 ∧ wi a1 < 16 then some (σ 64 (wi a1).toNat) else none
set_option maxRecDepth 100000 in
set_option maxHeartbeats 400000 in
theorem T_X9_warmth {G : sG} {q_0 : qT} {x_0 : List Nat} {σ : sM} {r_0 : Int} {a1 : Int}  (h : X9_warmth σ a1 = some r_0) : aM G yX9_warmth cX9_warmth 2 (some .int) 0 0 0 [.ref (gB G + 55), vI a1] (mkSh q_0 x_0, σ) (r_0, (mkSh q_0 x_0, σ)) := by
  unfold X9_warmth at h
  refine aM_of (by decide) (Nat.le_of_ble_eq_true rfl) ?_
  show aW G cX9_warmth RX9 "warmth" 2 (some .int) _ _ aX 0 0 _ [(0, .ref (gB G + 55)), (1, vI a1)] 0 []
  refine a_iload_n 1 dX9_warmth_0 rfl ?_
  refine a_bipush dX9_warmth_1 (by decide) ?_
  refine a_icmp_ge 15 dX9_warmth_3 (by decide) rfl (by decide) h (fun c1 h => ?_) (fun c1 h => ?_)
  · skip
    refine a_iconst dX9_warmth_15 ?_
    exact a_iret dX9_warmth_16 rfl (s_inj h) rfl
  · skip
    refine a_aload_n 0 dX9_warmth_6 rfl ?_
    refine a_getR (j := 10) dX9_warmth_7 KX9 rfl (by decide) rfl kf_RX9_35 ?_
    refine a_iload_n 1 dX9_warmth_10 rfl ?_
    refine a_gd h (fun c2 h => ?_)
    refine a_iald (x' := wi a1) dX9_warmth_11 rfl rfl c2 rfl ?_
    refine a_goto 16 dX9_warmth_12 (by decide) ?_
    exact a_iret dX9_warmth_16 rfl (s_inj h) rfl

def X9_goes (σ : sM) (a1 a2 a3 a4 : Int) : Option Int := if wi a3 = 0 then some 0 else if wi a2 = 3 then some 0 else if 0 ≤ wi a1 ∧ wi a1 < 9 then if wi (σ 73 (wi a1).toNat) = 0 then if 0 ≤ wi a1 ∧ wi a1 < 6 then if 0 ≤ wi a1 ∧ wi a1 < 6 then jn (fun q7 : Int => if 0 ≤ wi (((14 * (σ 62 (wi a1).toNat)) + q7) + a2) ∧ wi (((14 * (σ 62 (wi a1).toNat)) + q7) + a2) < 112 then nm (σ 61 (wi (((14 * (σ 62 (wi a1).toNat)) + q7) + a2)).toNat) (fun y10 => bp (X9_warmth σ a4) (fun r12 => if ¬ wi y10 = 0 then if wi (y10 + r12) ≤ 10 then some (y10 + r12) else some 10 else some 0)) else none) (fun K8 => if ¬ wi a3 = wi (σ 63 (wi a1).toNat) then K8 7 else K8 4) else none else none else some 0 else none
set_option maxRecDepth 100000 in
set_option maxHeartbeats 400000 in
theorem T_X9_goes {G : sG} {q_0 : qT} {x_0 : List Nat} {σ : sM} {r_0 : Int} {a1 a2 a3 a4 : Int}  (h : X9_goes σ a1 a2 a3 a4 = some r_0) : aM G yX9_goes cX9_goes 7 (some .int) 1 0 0 [.ref (gB G + 55), vI a1, vI a2, vI a3, vI a4] (mkSh q_0 x_0, σ) (r_0, (mkSh q_0 x_0, σ)) := by
  unfold X9_goes at h
  refine aM_of (by decide) (Nat.le_of_ble_eq_true rfl) ?_
  show aW G cX9_goes RX9 "goes" 7 (some .int) _ _ aX 0 0 _ [(0, .ref (gB G + 55)), (1, vI a1), (2, vI a2), (3, vI a3), (4, vI a4)] 0 []
  refine a_iload_n 3 dX9_goes_0 rfl ?_
  refine a_if_eq 18 dX9_goes_1 (by decide) rfl h (fun c1 h => ?_) (fun c1 h => ?_)
  · skip
    refine a_iconst dX9_goes_18 ?_
    exact a_iret dX9_goes_19 rfl (s_inj h) rfl
  · skip
    refine a_iload_n 2 dX9_goes_4 rfl ?_
    refine a_iconst dX9_goes_5 ?_
    refine a_icmp_eq 18 dX9_goes_6 (by decide) rfl (by decide) h (fun c2 h => ?_) (fun c2 h => ?_)
    · skip
      refine a_iconst dX9_goes_18 ?_
      exact a_iret dX9_goes_19 rfl (s_inj h) rfl
    · skip
      refine a_aload_n 0 dX9_goes_9 rfl ?_
      refine a_getR (j := 24) dX9_goes_10 KX9 rfl (by decide) rfl kf_RX9_63 ?_
      refine a_iload_n 1 dX9_goes_13 rfl ?_
      refine a_gd h (fun c3 h => ?_)
      refine a_zald (x' := wi a1) dX9_goes_14 rfl rfl c3 rfl ?_
      refine a_if_eq 20 dX9_goes_15 (by decide) rfl h (fun c4 h => ?_) (fun c4 h => ?_)
      · skip
        refine a_aload_n 0 dX9_goes_20 rfl ?_
        refine a_getR (j := 7) dX9_goes_21 KX9 rfl (by decide) rfl kf_RX9_26 ?_
        refine a_bipush dX9_goes_24 (by decide) ?_
        refine a_aload_n 0 dX9_goes_26 rfl ?_
        refine a_getR (j := 8) dX9_goes_27 KX9 rfl (by decide) rfl kf_RX9_29 ?_
        refine a_iload_n 1 dX9_goes_30 rfl ?_
        refine a_gd h (fun c5 h => ?_)
        refine a_iald (x' := wi a1) dX9_goes_31 rfl rfl c5 rfl ?_
        refine a_imul dX9_goes_32 ?_
        refine a_iload_n 3 dX9_goes_33 rfl ?_
        refine a_aload_n 0 dX9_goes_34 rfl ?_
        refine a_getR (j := 9) dX9_goes_35 KX9 rfl (by decide) rfl kf_RX9_32 ?_
        refine a_iload_n 1 dX9_goes_38 rfl ?_
        refine a_gd h (fun c6 h => ?_)
        refine a_iald (x' := wi a1) dX9_goes_39 rfl rfl c6 rfl ?_
        refine jn_s (fun q7 : Int => aW G cX9_goes RX9 "goes" 7 (some .int) (sR 1 0 0) (aQ G (some .int) 0 0 (r_0, (mkSh q_0 x_0, σ))) aX 0 0 (mkSh q_0 x_0, σ) [(0, .ref (gB G + 55)), (2, vI a2), (4, vI a4)] 49 [vI q7, vI (14 * (σ 62 (wi a1).toNat)), .ref (gB G + 61)]) h (fun q7 h => ?_) (fun K8 hK8 h => ?_)
        · skip
          refine a_iadd dX9_goes_49 ?_
          refine a_iload_n 1 dX9_goes_50 rfl ?_
          refine a_iadd dX9_goes_51 ?_
          refine a_gd h (fun c9 h => ?_)
          refine a_iald (x' := wi (((14 * (σ 62 (wi a1).toNat)) + q7) + a2)) dX9_goes_52 rfl rfl c9 rfl ?_
          refine a_nmI h (fun y10 w11 h => ?_)
          refine a_istore (L' := [(5, vI y10), (0, .ref (gB G + 55)), (2, vI a2), (4, vI a4)]) dX9_goes_53 (by decide) rfl ?_
          refine a_iload 0 dX9_goes_55 rfl ?_
          refine a_aload_n 1 dX9_goes_57 rfl ?_
          refine a_iload 3 dX9_goes_58 rfl ?_
          refine bp_s h (fun r12 e13 h => ?_)
          refine a_callVI dX9_goes_60 mX9_warmth KX9 rfl kv_X9_warmth ks_X9_warmth rfl km_RX9_161 rfl (T_X9_warmth e13) (fun _ => rfl) rfl (Nat.le_of_ble_eq_true rfl) (Nat.le_of_ble_eq_true rfl) ⟨(Nat.le_of_ble_eq_true rfl), (Nat.le_of_ble_eq_true rfl)⟩ (Nat.le_of_ble_eq_true rfl) ?_
          refine a_iadd dX9_goes_63 ?_
          refine a_istore (L' := [(6, vI (y10 + r12)), (5, vI y10), (0, .ref (gB G + 55)), (2, vI a2), (4, vI a4)]) dX9_goes_64 (by decide) rfl ?_
          refine a_iload 1 dX9_goes_66 rfl ?_
          refine a_if_ne 75 dX9_goes_68 (by decide) rfl h (fun c14 h => ?_) (fun c14 h => ?_)
          · skip
            refine a_iload 0 dX9_goes_75 rfl ?_
            refine a_bipush dX9_goes_77 (by decide) ?_
            refine a_icmp_le 87 dX9_goes_79 (by decide) rfl (by decide) h (fun c15 h => ?_) (fun c15 h => ?_)
            · skip
              refine a_iload 0 dX9_goes_87 rfl ?_
              exact a_iret dX9_goes_89 rfl (s_inj h) rfl
            · skip
              refine a_bipush dX9_goes_82 (by decide) ?_
              refine a_goto 89 dX9_goes_84 (by decide) ?_
              exact a_iret dX9_goes_89 rfl (s_inj h) rfl
          · skip
            refine a_iconst dX9_goes_71 ?_
            refine a_goto 89 dX9_goes_72 (by decide) ?_
            exact a_iret dX9_goes_89 rfl (s_inj h) rfl
        · skip
          refine a_icmp_ne 47 dX9_goes_40 (by decide) rfl rfl h (fun c16 h => ?_) (fun c16 h => ?_)
          · skip
            refine a_bipush dX9_goes_47 (by decide) ?_
            have hh := hK8 _ h
            exact a_sub [0, 2, 4] rfl hh
          · skip
            refine a_iconst dX9_goes_43 ?_
            refine a_goto 49 dX9_goes_44 (by decide) ?_
            have hh := hK8 _ h
            exact a_sub [0, 2, 4] rfl hh
      · skip
        refine a_iconst dX9_goes_18 ?_
        exact a_iret dX9_goes_19 rfl (s_inj h) rfl

def X9_sort (σ : sM) (a1 a2 : Int) : Option Int := bp (X9_in σ a1 0 ((σ 57 0) - 1)) (fun r1 => if wi r1 = 0 then some (-1) else bp (X9_in σ a2 0 13) (fun r4 => if wi r4 = 0 then some (-1) else if 0 ≤ wi ((14 * a1) + a2) ∧ wi ((14 * a1) + a2) < 112 then some (σ 61 (wi ((14 * a1) + a2)).toNat) else none))
set_option maxRecDepth 100000 in
set_option maxHeartbeats 400000 in
theorem T_X9_sort {G : sG} {q_0 : qT} {x_0 : List Nat} {σ : sM} {r_0 : Int} {a1 a2 : Int}  (h : X9_sort σ a1 a2 = some r_0) : aM G yX9_sort cX9_sort 3 (some .int) 1 0 0 [.ref (gB G + 55), vI a1, vI a2] (mkSh q_0 x_0, σ) (r_0, (mkSh q_0 x_0, σ)) := by
  unfold X9_sort at h
  refine aM_of (by decide) (Nat.le_of_ble_eq_true rfl) ?_
  show aW G cX9_sort RX9 "sort" 3 (some .int) _ _ aX 0 0 _ [(0, .ref (gB G + 55)), (1, vI a1), (2, vI a2)] 0 []
  refine a_iload_n 1 dX9_sort_0 rfl ?_
  refine a_iconst dX9_sort_1 ?_
  refine a_aload_n 0 dX9_sort_2 rfl ?_
  refine a_getR (j := 3) dX9_sort_3 KX9 rfl (by decide) rfl kf_RX9_13 ?_
  refine a_iconst dX9_sort_6 ?_
  refine a_iald (x' := 0) dX9_sort_7 rfl (by decide) (by decide) rfl ?_
  refine a_iconst dX9_sort_8 ?_
  refine a_isub dX9_sort_9 ?_
  refine bp_s h (fun r1 e2 h => ?_)
  refine a_callSI dX9_sort_10 mX9_in kv_X9_in km_RX9_103 rfl (T_X9_in e2) (fun _ => rfl) rfl (Nat.le_of_ble_eq_true rfl) (Nat.le_of_ble_eq_true rfl) ⟨(Nat.le_of_ble_eq_true rfl), (Nat.le_of_ble_eq_true rfl)⟩ (Nat.le_of_ble_eq_true rfl) ?_
  refine a_if_eq 40 dX9_sort_13 (by decide) rfl h (fun c3 h => ?_) (fun c3 h => ?_)
  · skip
    refine a_iconst dX9_sort_40 ?_
    exact a_iret dX9_sort_41 rfl (s_inj h) rfl
  · skip
    refine a_iload_n 2 dX9_sort_16 rfl ?_
    refine a_iconst dX9_sort_17 ?_
    refine a_bipush dX9_sort_18 (by decide) ?_
    refine bp_s h (fun r4 e5 h => ?_)
    refine a_callSI dX9_sort_20 mX9_in kv_X9_in km_RX9_103 rfl (T_X9_in e5) (fun _ => rfl) rfl (Nat.le_of_ble_eq_true rfl) (Nat.le_of_ble_eq_true rfl) ⟨(Nat.le_of_ble_eq_true rfl), (Nat.le_of_ble_eq_true rfl)⟩ (Nat.le_of_ble_eq_true rfl) ?_
    refine a_if_eq 40 dX9_sort_23 (by decide) rfl h (fun c6 h => ?_) (fun c6 h => ?_)
    · skip
      refine a_iconst dX9_sort_40 ?_
      exact a_iret dX9_sort_41 rfl (s_inj h) rfl
    · skip
      refine a_aload_n 0 dX9_sort_26 rfl ?_
      refine a_getR (j := 7) dX9_sort_27 KX9 rfl (by decide) rfl kf_RX9_26 ?_
      refine a_bipush dX9_sort_30 (by decide) ?_
      refine a_iload_n 1 dX9_sort_32 rfl ?_
      refine a_imul dX9_sort_33 ?_
      refine a_iload_n 2 dX9_sort_34 rfl ?_
      refine a_iadd dX9_sort_35 ?_
      refine a_gd h (fun c7 h => ?_)
      refine a_iald (x' := wi ((14 * a1) + a2)) dX9_sort_36 rfl rfl c7 rfl ?_
      refine a_goto 41 dX9_sort_37 (by decide) ?_
      exact a_iret dX9_sort_41 rfl (s_inj h) rfl

def X9_wheel (σ : sM) (a1 a2 : Int) : Option Int := bp (X9_isWheel σ a1) (fun r1 => if ¬ wi r1 = 0 then if wi a2 = 0 then if 0 ≤ wi a1 ∧ wi a1 < 6 then some (σ 62 (wi a1).toNat) else none else if wi a2 = 1 then if 0 ≤ wi a1 ∧ wi a1 < 6 then some (σ 63 (wi a1).toNat) else none else if wi a2 = 2 then if 0 ≤ wi a1 ∧ wi a1 < 9 then some (σ 71 (wi a1).toNat) else none else if wi a2 = 3 then if 0 ≤ wi a1 ∧ wi a1 < 9 then some (σ 72 (wi a1).toNat) else none else if wi a2 = 4 then if 0 ≤ wi a1 ∧ wi a1 < 9 then if wi (σ 72 (wi a1).toNat) ≤ 0 then some 0 else if 0 ≤ wi a1 ∧ wi a1 < 9 then if 0 ≤ wi a1 ∧ wi a1 < 6 then if wi (σ 63 (wi a1).toNat) ≤ wi (σ 72 (wi a1).toNat) then some 0 else some 1 else none else none else none else if wi a2 = 5 then if 0 ≤ wi a1 ∧ wi a1 < 9 then if wi (σ 73 (wi a1).toNat) = 0 then some 0 else some 1 else none else if wi a2 = 6 then if 0 ≤ wi a1 ∧ wi a1 < 9 then bp (X9_goodOf σ a1 (σ 71 (wi a1).toNat)) (fun r23 => some r23) else none else if wi a2 = 7 then if 0 ≤ wi a1 ∧ wi a1 < 9 then if 0 ≤ wi a1 ∧ wi a1 < 9 then bp (X9_goes σ a1 (σ 71 (wi a1).toNat) (σ 72 (wi a1).toNat) (σ 66 0)) (fun r28 => some r28) else none else none else some (-1) else some (-1))
set_option maxRecDepth 100000 in
set_option maxHeartbeats 400000 in
theorem T_X9_wheel {G : sG} {q_0 : qT} {x_0 : List Nat} {σ : sM} {r_0 : Int} {a1 a2 : Int}  (h : X9_wheel σ a1 a2 = some r_0) : aM G yX9_wheel cX9_wheel 3 (some .int) 2 0 0 [.ref (gB G + 55), vI a1, vI a2] (mkSh q_0 x_0, σ) (r_0, (mkSh q_0 x_0, σ)) := by
  unfold X9_wheel at h
  refine aM_of (by decide) (Nat.le_of_ble_eq_true rfl) ?_
  show aW G cX9_wheel RX9 "wheel" 3 (some .int) _ _ aX 0 0 _ [(0, .ref (gB G + 55)), (1, vI a1), (2, vI a2)] 0 []
  refine a_aload_n 0 dX9_wheel_0 rfl ?_
  refine a_iload_n 1 dX9_wheel_1 rfl ?_
  refine bp_s h (fun r1 e2 h => ?_)
  refine a_callVI dX9_wheel_2 mX9_isWheel KX9 rfl kv_X9_isWheel ks_X9_isWheel rfl km_RX9_164 rfl (T_X9_isWheel e2) (fun _ => rfl) rfl (Nat.le_of_ble_eq_true rfl) (Nat.le_of_ble_eq_true rfl) ⟨(Nat.le_of_ble_eq_true rfl), (Nat.le_of_ble_eq_true rfl)⟩ (Nat.le_of_ble_eq_true rfl) ?_
  refine a_if_ne 10 dX9_wheel_5 (by decide) rfl h (fun c3 h => ?_) (fun c3 h => ?_)
  · skip
    refine a_iload_n 2 dX9_wheel_10 rfl ?_
    refine a_if h (fun c4 h => ?_) (fun c4 h => ?_)
    · skip
      refine a_tsIn (off := 45) 56 dX9_wheel_11 c4 (by decide) (by decide) (by decide) ?_
      refine a_aload_n 0 dX9_wheel_56 rfl ?_
      refine a_getR (j := 8) dX9_wheel_57 KX9 rfl (by decide) rfl kf_RX9_29 ?_
      refine a_iload_n 1 dX9_wheel_60 rfl ?_
      refine a_gd h (fun c5 h => ?_)
      refine a_iald (x' := wi a1) dX9_wheel_61 rfl rfl c5 rfl ?_
      exact a_iret dX9_wheel_62 rfl (s_inj h) rfl
    · skip
      refine a_if h (fun c6 h => ?_) (fun c6 h => ?_)
      · skip
        refine a_tsIn (off := 52) 63 dX9_wheel_11 c6 (by decide) (by decide) (by decide) ?_
        refine a_aload_n 0 dX9_wheel_63 rfl ?_
        refine a_getR (j := 9) dX9_wheel_64 KX9 rfl (by decide) rfl kf_RX9_32 ?_
        refine a_iload_n 1 dX9_wheel_67 rfl ?_
        refine a_gd h (fun c7 h => ?_)
        refine a_iald (x' := wi a1) dX9_wheel_68 rfl rfl c7 rfl ?_
        exact a_iret dX9_wheel_69 rfl (s_inj h) rfl
      · skip
        refine a_if h (fun c8 h => ?_) (fun c8 h => ?_)
        · skip
          refine a_tsIn (off := 59) 70 dX9_wheel_11 c8 (by decide) (by decide) (by decide) ?_
          refine a_aload_n 0 dX9_wheel_70 rfl ?_
          refine a_getR (j := 22) dX9_wheel_71 KX9 rfl (by decide) rfl kf_RX9_57 ?_
          refine a_iload_n 1 dX9_wheel_74 rfl ?_
          refine a_gd h (fun c9 h => ?_)
          refine a_iald (x' := wi a1) dX9_wheel_75 rfl rfl c9 rfl ?_
          exact a_iret dX9_wheel_76 rfl (s_inj h) rfl
        · skip
          refine a_if h (fun c10 h => ?_) (fun c10 h => ?_)
          · skip
            refine a_tsIn (off := 66) 77 dX9_wheel_11 c10 (by decide) (by decide) (by decide) ?_
            refine a_aload_n 0 dX9_wheel_77 rfl ?_
            refine a_getR (j := 23) dX9_wheel_78 KX9 rfl (by decide) rfl kf_RX9_60 ?_
            refine a_iload_n 1 dX9_wheel_81 rfl ?_
            refine a_gd h (fun c11 h => ?_)
            refine a_iald (x' := wi a1) dX9_wheel_82 rfl rfl c11 rfl ?_
            exact a_iret dX9_wheel_83 rfl (s_inj h) rfl
          · skip
            refine a_if h (fun c12 h => ?_) (fun c12 h => ?_)
            · skip
              refine a_tsIn (off := 73) 84 dX9_wheel_11 c12 (by decide) (by decide) (by decide) ?_
              refine a_aload_n 0 dX9_wheel_84 rfl ?_
              refine a_getR (j := 23) dX9_wheel_85 KX9 rfl (by decide) rfl kf_RX9_60 ?_
              refine a_iload_n 1 dX9_wheel_88 rfl ?_
              refine a_gd h (fun c13 h => ?_)
              refine a_iald (x' := wi a1) dX9_wheel_89 rfl rfl c13 rfl ?_
              refine a_if_le 112 dX9_wheel_90 (by decide) rfl h (fun c14 h => ?_) (fun c14 h => ?_)
              · skip
                refine a_iconst dX9_wheel_112 ?_
                exact a_iret dX9_wheel_113 rfl (s_inj h) rfl
              · skip
                refine a_aload_n 0 dX9_wheel_93 rfl ?_
                refine a_getR (j := 23) dX9_wheel_94 KX9 rfl (by decide) rfl kf_RX9_60 ?_
                refine a_iload_n 1 dX9_wheel_97 rfl ?_
                refine a_gd h (fun c15 h => ?_)
                refine a_iald (x' := wi a1) dX9_wheel_98 rfl rfl c15 rfl ?_
                refine a_aload_n 0 dX9_wheel_99 rfl ?_
                refine a_getR (j := 9) dX9_wheel_100 KX9 rfl (by decide) rfl kf_RX9_32 ?_
                refine a_iload_n 1 dX9_wheel_103 rfl ?_
                refine a_gd h (fun c16 h => ?_)
                refine a_iald (x' := wi a1) dX9_wheel_104 rfl rfl c16 rfl ?_
                refine a_icmp_ge 112 dX9_wheel_105 (by decide) rfl rfl h (fun c17 h => ?_) (fun c17 h => ?_)
                · skip
                  refine a_iconst dX9_wheel_112 ?_
                  exact a_iret dX9_wheel_113 rfl (s_inj h) rfl
                · skip
                  refine a_iconst dX9_wheel_108 ?_
                  refine a_goto 113 dX9_wheel_109 (by decide) ?_
                  exact a_iret dX9_wheel_113 rfl (s_inj h) rfl
            · skip
              refine a_if h (fun c18 h => ?_) (fun c18 h => ?_)
              · skip
                refine a_tsIn (off := 103) 114 dX9_wheel_11 c18 (by decide) (by decide) (by decide) ?_
                refine a_aload_n 0 dX9_wheel_114 rfl ?_
                refine a_getR (j := 24) dX9_wheel_115 KX9 rfl (by decide) rfl kf_RX9_63 ?_
                refine a_iload_n 1 dX9_wheel_118 rfl ?_
                refine a_gd h (fun c19 h => ?_)
                refine a_zald (x' := wi a1) dX9_wheel_119 rfl rfl c19 rfl ?_
                refine a_if_eq 127 dX9_wheel_120 (by decide) rfl h (fun c20 h => ?_) (fun c20 h => ?_)
                · skip
                  refine a_iconst dX9_wheel_127 ?_
                  exact a_iret dX9_wheel_128 rfl (s_inj h) rfl
                · skip
                  refine a_iconst dX9_wheel_123 ?_
                  refine a_goto 128 dX9_wheel_124 (by decide) ?_
                  exact a_iret dX9_wheel_128 rfl (s_inj h) rfl
              · skip
                refine a_if h (fun c21 h => ?_) (fun c21 h => ?_)
                · skip
                  refine a_tsIn (off := 118) 129 dX9_wheel_11 c21 (by decide) (by decide) (by decide) ?_
                  refine a_aload_n 0 dX9_wheel_129 rfl ?_
                  refine a_iload_n 1 dX9_wheel_130 rfl ?_
                  refine a_aload_n 0 dX9_wheel_131 rfl ?_
                  refine a_getR (j := 22) dX9_wheel_132 KX9 rfl (by decide) rfl kf_RX9_57 ?_
                  refine a_iload_n 1 dX9_wheel_135 rfl ?_
                  refine a_gd h (fun c22 h => ?_)
                  refine a_iald (x' := wi a1) dX9_wheel_136 rfl rfl c22 rfl ?_
                  refine bp_s h (fun r23 e24 h => ?_)
                  refine a_callVI dX9_wheel_137 mX9_goodOf KX9 rfl kv_X9_goodOf ks_X9_goodOf rfl km_RX9_168 rfl (T_X9_goodOf e24) (fun _ => rfl) rfl (Nat.le_of_ble_eq_true rfl) (Nat.le_of_ble_eq_true rfl) ⟨(Nat.le_of_ble_eq_true rfl), (Nat.le_of_ble_eq_true rfl)⟩ (Nat.le_of_ble_eq_true rfl) ?_
                  exact a_iret dX9_wheel_140 rfl (s_inj h) rfl
                · skip
                  refine a_if h (fun c25 h => ?_) (fun c25 h => ?_)
                  · skip
                    refine a_tsIn (off := 130) 141 dX9_wheel_11 c25 (by decide) (by decide) (by decide) ?_
                    refine a_aload_n 0 dX9_wheel_141 rfl ?_
                    refine a_iload_n 1 dX9_wheel_142 rfl ?_
                    refine a_aload_n 0 dX9_wheel_143 rfl ?_
                    refine a_getR (j := 22) dX9_wheel_144 KX9 rfl (by decide) rfl kf_RX9_57 ?_
                    refine a_iload_n 1 dX9_wheel_147 rfl ?_
                    refine a_gd h (fun c26 h => ?_)
                    refine a_iald (x' := wi a1) dX9_wheel_148 rfl rfl c26 rfl ?_
                    refine a_aload_n 0 dX9_wheel_149 rfl ?_
                    refine a_getR (j := 23) dX9_wheel_150 KX9 rfl (by decide) rfl kf_RX9_60 ?_
                    refine a_iload_n 1 dX9_wheel_153 rfl ?_
                    refine a_gd h (fun c27 h => ?_)
                    refine a_iald (x' := wi a1) dX9_wheel_154 rfl rfl c27 rfl ?_
                    refine a_aload_n 0 dX9_wheel_155 rfl ?_
                    refine a_getR (j := 17) dX9_wheel_156 KX9 rfl (by decide) rfl kf_RX9_41 ?_
                    refine a_iconst dX9_wheel_159 ?_
                    refine a_iald (x' := 0) dX9_wheel_160 rfl (by decide) (by decide) rfl ?_
                    refine bp_s h (fun r28 e29 h => ?_)
                    refine a_callVI dX9_wheel_161 mX9_goes KX9 rfl kv_X9_goes ks_X9_goes rfl km_RX9_171 rfl (T_X9_goes e29) (fun _ => rfl) rfl (Nat.le_of_ble_eq_true rfl) (Nat.le_of_ble_eq_true rfl) ⟨(Nat.le_of_ble_eq_true rfl), (Nat.le_of_ble_eq_true rfl)⟩ (Nat.le_of_ble_eq_true rfl) ?_
                    exact a_iret dX9_wheel_164 rfl (s_inj h) rfl
                  · skip
                    refine a_tsOut (v := wi a2) 165 dX9_wheel_11 rfl (by omega) (by decide) ?_
                    refine a_iconst dX9_wheel_165 ?_
                    exact a_iret dX9_wheel_166 rfl (s_inj h) rfl
  · skip
    refine a_iconst dX9_wheel_8 ?_
    exact a_iret dX9_wheel_9 rfl (s_inj h) rfl

def X9_week (σ : sM) (a1 a2 : Int) : Option Int := bp (X9_in σ a1 0 7) (fun r1 => if wi r1 = 0 then some (-1) else bp (X9_in σ a2 0 1) (fun r4 => if wi r4 = 0 then some (-1) else if ¬ wi a2 = 0 then if 0 ≤ wi a1 ∧ wi a1 < 16 then some (σ 65 (wi a1).toNat) else none else if 0 ≤ wi a1 ∧ wi a1 < 16 then some (σ 64 (wi a1).toNat) else none))
set_option maxRecDepth 100000 in
set_option maxHeartbeats 400000 in
theorem T_X9_week {G : sG} {q_0 : qT} {x_0 : List Nat} {σ : sM} {r_0 : Int} {a1 a2 : Int}  (h : X9_week σ a1 a2 = some r_0) : aM G yX9_week cX9_week 3 (some .int) 1 0 0 [.ref (gB G + 55), vI a1, vI a2] (mkSh q_0 x_0, σ) (r_0, (mkSh q_0 x_0, σ)) := by
  unfold X9_week at h
  refine aM_of (by decide) (Nat.le_of_ble_eq_true rfl) ?_
  show aW G cX9_week RX9 "week" 3 (some .int) _ _ aX 0 0 _ [(0, .ref (gB G + 55)), (1, vI a1), (2, vI a2)] 0 []
  refine a_iload_n 1 dX9_week_0 rfl ?_
  refine a_iconst dX9_week_1 ?_
  refine a_bipush dX9_week_2 (by decide) ?_
  refine bp_s h (fun r1 e2 h => ?_)
  refine a_callSI dX9_week_4 mX9_in kv_X9_in km_RX9_103 rfl (T_X9_in e2) (fun _ => rfl) rfl (Nat.le_of_ble_eq_true rfl) (Nat.le_of_ble_eq_true rfl) ⟨(Nat.le_of_ble_eq_true rfl), (Nat.le_of_ble_eq_true rfl)⟩ (Nat.le_of_ble_eq_true rfl) ?_
  refine a_if_eq 41 dX9_week_7 (by decide) rfl h (fun c3 h => ?_) (fun c3 h => ?_)
  · skip
    refine a_iconst dX9_week_41 ?_
    exact a_iret dX9_week_42 rfl (s_inj h) rfl
  · skip
    refine a_iload_n 2 dX9_week_10 rfl ?_
    refine a_iconst dX9_week_11 ?_
    refine a_iconst dX9_week_12 ?_
    refine bp_s h (fun r4 e5 h => ?_)
    refine a_callSI dX9_week_13 mX9_in kv_X9_in km_RX9_103 rfl (T_X9_in e5) (fun _ => rfl) rfl (Nat.le_of_ble_eq_true rfl) (Nat.le_of_ble_eq_true rfl) ⟨(Nat.le_of_ble_eq_true rfl), (Nat.le_of_ble_eq_true rfl)⟩ (Nat.le_of_ble_eq_true rfl) ?_
    refine a_if_eq 41 dX9_week_16 (by decide) rfl h (fun c6 h => ?_) (fun c6 h => ?_)
    · skip
      refine a_iconst dX9_week_41 ?_
      exact a_iret dX9_week_42 rfl (s_inj h) rfl
    · skip
      refine a_iload_n 2 dX9_week_19 rfl ?_
      refine a_if_ne 32 dX9_week_20 (by decide) rfl h (fun c7 h => ?_) (fun c7 h => ?_)
      · skip
        refine a_aload_n 0 dX9_week_32 rfl ?_
        refine a_getR (j := 11) dX9_week_33 KX9 rfl (by decide) rfl kf_RX9_38 ?_
        refine a_iload_n 1 dX9_week_36 rfl ?_
        refine a_gd h (fun c8 h => ?_)
        refine a_iald (x' := wi a1) dX9_week_37 rfl rfl c8 rfl ?_
        refine a_goto 42 dX9_week_38 (by decide) ?_
        exact a_iret dX9_week_42 rfl (s_inj h) rfl
      · skip
        refine a_aload_n 0 dX9_week_23 rfl ?_
        refine a_getR (j := 10) dX9_week_24 KX9 rfl (by decide) rfl kf_RX9_35 ?_
        refine a_iload_n 1 dX9_week_27 rfl ?_
        refine a_gd h (fun c9 h => ?_)
        refine a_iald (x' := wi a1) dX9_week_28 rfl rfl c9 rfl ?_
        refine a_goto 42 dX9_week_29 (by decide) ?_
        exact a_iret dX9_week_42 rfl (s_inj h) rfl

def X9_place (σ : sM) (a1 a2 a3 : Int) : Option (Int × sM) := bp (X9_isWheel σ a1) (fun r1 => if wi r1 = 0 then some ((-1), σ) else bp (X9_in σ a2 0 3) (fun r4 => if wi r4 = 0 then some ((-1), σ) else if 0 ≤ wi a1 ∧ wi a1 < 6 then bp (X9_in σ a3 0 (σ 63 (wi a1).toNat)) (fun r8 => if ¬ wi r8 = 0 then if 0 ≤ wi a1 ∧ wi a1 < 9 then if 0 ≤ wi a1 ∧ wi a1 < 9 then nm ((10 * (σ 71 (wi a1).toNat)) + (σ 72 (wi a1).toNat)) (fun y13 => if 0 ≤ wi a1 ∧ wi a1 < 9 then if 0 ≤ wi a1 ∧ wi a1 < 9 then some (y13, (sU (sU σ 71 (wi a1).toNat a2) 72 (wi a1).toNat a3)) else none else none) else none else none else some ((-1), σ)) else none))
set_option maxRecDepth 100000 in
set_option maxHeartbeats 400000 in
theorem T_X9_place {G : sG} {q_0 : qT} {x_0 : List Nat} {σ s_0 : sM} {r_0 : Int} {a1 a2 a3 : Int}  (h : X9_place σ a1 a2 a3 = some (r_0, s_0)) : aM G yX9_place cX9_place 5 (some .int) 2 0 0 [.ref (gB G + 55), vI a1, vI a2, vI a3] (mkSh q_0 x_0, σ) (r_0, (mkSh q_0 x_0, s_0)) := by
  unfold X9_place at h
  refine aM_of (by decide) (Nat.le_of_ble_eq_true rfl) ?_
  show aW G cX9_place RX9 "place" 5 (some .int) _ _ aX 0 0 _ [(0, .ref (gB G + 55)), (1, vI a1), (2, vI a2), (3, vI a3)] 0 []
  refine a_aload_n 0 dX9_place_0 rfl ?_
  refine a_iload_n 1 dX9_place_1 rfl ?_
  refine bp_s h (fun r1 e2 h => ?_)
  refine a_callVI dX9_place_2 mX9_isWheel KX9 rfl kv_X9_isWheel ks_X9_isWheel rfl km_RX9_164 rfl (T_X9_isWheel e2) (fun _ => rfl) rfl (Nat.le_of_ble_eq_true rfl) (Nat.le_of_ble_eq_true rfl) ⟨(Nat.le_of_ble_eq_true rfl), (Nat.le_of_ble_eq_true rfl)⟩ (Nat.le_of_ble_eq_true rfl) ?_
  refine a_if_eq 31 dX9_place_5 (by decide) rfl h (fun c3 h => ?_) (fun c3 h => ?_)
  · skip
    refine a_iconst dX9_place_31 ?_
    exact a_iret dX9_place_32 rfl (p_1 h) (p_S (p_2 h))
  · skip
    refine a_iload_n 2 dX9_place_8 rfl ?_
    refine a_iconst dX9_place_9 ?_
    refine a_iconst dX9_place_10 ?_
    refine bp_s h (fun r4 e5 h => ?_)
    refine a_callSI dX9_place_11 mX9_in kv_X9_in km_RX9_103 rfl (T_X9_in e5) (fun _ => rfl) rfl (Nat.le_of_ble_eq_true rfl) (Nat.le_of_ble_eq_true rfl) ⟨(Nat.le_of_ble_eq_true rfl), (Nat.le_of_ble_eq_true rfl)⟩ (Nat.le_of_ble_eq_true rfl) ?_
    refine a_if_eq 31 dX9_place_14 (by decide) rfl h (fun c6 h => ?_) (fun c6 h => ?_)
    · skip
      refine a_iconst dX9_place_31 ?_
      exact a_iret dX9_place_32 rfl (p_1 h) (p_S (p_2 h))
    · skip
      refine a_iload_n 3 dX9_place_17 rfl ?_
      refine a_iconst dX9_place_18 ?_
      refine a_aload_n 0 dX9_place_19 rfl ?_
      refine a_getR (j := 9) dX9_place_20 KX9 rfl (by decide) rfl kf_RX9_32 ?_
      refine a_iload_n 1 dX9_place_23 rfl ?_
      refine a_gd h (fun c7 h => ?_)
      refine a_iald (x' := wi a1) dX9_place_24 rfl rfl c7 rfl ?_
      refine bp_s h (fun r8 e9 h => ?_)
      refine a_callSI dX9_place_25 mX9_in kv_X9_in km_RX9_103 rfl (T_X9_in e9) (fun _ => rfl) rfl (Nat.le_of_ble_eq_true rfl) (Nat.le_of_ble_eq_true rfl) ⟨(Nat.le_of_ble_eq_true rfl), (Nat.le_of_ble_eq_true rfl)⟩ (Nat.le_of_ble_eq_true rfl) ?_
      refine a_if_ne 33 dX9_place_28 (by decide) rfl h (fun c10 h => ?_) (fun c10 h => ?_)
      · skip
        refine a_bipush dX9_place_33 (by decide) ?_
        refine a_aload_n 0 dX9_place_35 rfl ?_
        refine a_getR (j := 22) dX9_place_36 KX9 rfl (by decide) rfl kf_RX9_57 ?_
        refine a_iload_n 1 dX9_place_39 rfl ?_
        refine a_gd h (fun c11 h => ?_)
        refine a_iald (x' := wi a1) dX9_place_40 rfl rfl c11 rfl ?_
        refine a_imul dX9_place_41 ?_
        refine a_aload_n 0 dX9_place_42 rfl ?_
        refine a_getR (j := 23) dX9_place_43 KX9 rfl (by decide) rfl kf_RX9_60 ?_
        refine a_iload_n 1 dX9_place_46 rfl ?_
        refine a_gd h (fun c12 h => ?_)
        refine a_iald (x' := wi a1) dX9_place_47 rfl rfl c12 rfl ?_
        refine a_iadd dX9_place_48 ?_
        refine a_nmI h (fun y13 w14 h => ?_)
        refine a_istore (L' := [(4, vI y13), (0, .ref (gB G + 55)), (1, vI a1), (2, vI a2), (3, vI a3)]) dX9_place_49 (by decide) rfl ?_
        refine a_aload_n 1 dX9_place_51 rfl ?_
        refine a_getR (j := 22) dX9_place_52 KX9 rfl (by decide) rfl kf_RX9_57 ?_
        refine a_iload_n 2 dX9_place_55 rfl ?_
        refine a_iload_n 3 dX9_place_56 rfl ?_
        refine a_gd h (fun c15 h => ?_)
        refine a_iast (x' := wi a1) dX9_place_57 rfl rfl c15 rfl ?_
        refine a_aload_n 1 dX9_place_58 rfl ?_
        refine a_getR (j := 23) dX9_place_59 KX9 rfl (by decide) rfl kf_RX9_60 ?_
        refine a_iload_n 2 dX9_place_62 rfl ?_
        refine a_iload_n 4 dX9_place_63 rfl ?_
        refine a_gd h (fun c16 h => ?_)
        refine a_iast (x' := wi a1) dX9_place_64 rfl rfl c16 rfl ?_
        refine a_iload 0 dX9_place_65 rfl ?_
        exact a_iret dX9_place_67 rfl (p_1 h) (p_S (p_2 h))
      · skip
        refine a_iconst dX9_place_31 ?_
        exact a_iret dX9_place_32 rfl (p_1 h) (p_S (p_2 h))

def X9_stateNow (F : Nat) (σ : sM) : Option Int := lp (fun K2 (q1 : Int × Int) => if wi q1.2 < 0 then some q1.1 else if 0 ≤ wi q1.2 ∧ wi q1.2 < 9 then if 0 ≤ wi q1.2 ∧ wi q1.2 < 9 then nm (((16 * q1.1) + (4 * (σ 71 (wi q1.2).toNat))) + (σ 72 (wi q1.2).toNat)) (fun y6 => K2 (y6, q1.2 + (-1))) else none else none) F (0, (σ 58 0) - 1)
set_option maxRecDepth 100000 in
set_option maxHeartbeats 400000 in
theorem T_X9_stateNow {G : sG} {q_0 : qT} {x_0 : List Nat} {σ : sM} {r_0 : Int} {F : Nat}  (h : X9_stateNow F σ = some r_0) : aM G yX9_stateNow cX9_stateNow 3 (some .int) 0 0 0 [.ref (gB G + 55)] (mkSh q_0 x_0, σ) (r_0, (mkSh q_0 x_0, σ)) := by
  unfold X9_stateNow at h
  refine aM_of (by decide) (Nat.le_of_ble_eq_true rfl) ?_
  show aW G cX9_stateNow RX9 "stateNow" 3 (some .int) _ _ aX 0 0 _ [(0, .ref (gB G + 55))] 0 []
  refine a_iconst dX9_stateNow_0 ?_
  refine a_istore_n (L' := [(1, vI 0), (0, .ref (gB G + 55))]) dX9_stateNow_1 (by decide) rfl ?_
  refine a_aload_n 1 dX9_stateNow_2 rfl ?_
  refine a_getR (j := 4) dX9_stateNow_3 KX9 rfl (by decide) rfl kf_RX9_17 ?_
  refine a_iconst dX9_stateNow_6 ?_
  refine a_iald (x' := 0) dX9_stateNow_7 rfl (by decide) (by decide) rfl ?_
  refine a_iconst dX9_stateNow_8 ?_
  refine a_isub dX9_stateNow_9 ?_
  refine a_istore_n (L' := [(2, vI ((σ 58 0) - 1)), (1, vI 0), (0, .ref (gB G + 55))]) dX9_stateNow_10 (by decide) rfl ?_
  refine a_sub (L' := [(0, .ref (gB G + 55)), (1, vI 0), (2, vI ((σ 58 0) - 1))]) [2, 1, 0] rfl (lp_s (x := (0, (σ 58 0) - 1)) (fun q1 : Int × Int => aW G cX9_stateNow RX9 "stateNow" 3 (some .int) (sR 0 0 0) (aQ G (some .int) 0 0 (r_0, (mkSh q_0 x_0, σ))) aX 0 0 (mkSh q_0 x_0, σ) [(0, .ref (gB G + 55)), (1, vI q1.1), (2, vI q1.2)] 11 []) h (fun K2 hK2 q1 h => ?_))
  refine a_iload_n 2 dX9_stateNow_11 rfl ?_
  refine a_if_lt 42 dX9_stateNow_12 (by decide) rfl h (fun c3 h => ?_) (fun c3 h => ?_)
  · skip
    refine a_iload_n 1 dX9_stateNow_42 rfl ?_
    exact a_iret dX9_stateNow_43 rfl (s_inj h) rfl
  · skip
    refine a_bipush dX9_stateNow_15 (by decide) ?_
    refine a_iload_n 1 dX9_stateNow_17 rfl ?_
    refine a_imul dX9_stateNow_18 ?_
    refine a_iconst dX9_stateNow_19 ?_
    refine a_aload_n 0 dX9_stateNow_20 rfl ?_
    refine a_getR (j := 22) dX9_stateNow_21 KX9 rfl (by decide) rfl kf_RX9_57 ?_
    refine a_iload_n 2 dX9_stateNow_24 rfl ?_
    refine a_gd h (fun c4 h => ?_)
    refine a_iald (x' := wi q1.2) dX9_stateNow_25 rfl rfl c4 rfl ?_
    refine a_imul dX9_stateNow_26 ?_
    refine a_iadd dX9_stateNow_27 ?_
    refine a_aload_n 0 dX9_stateNow_28 rfl ?_
    refine a_getR (j := 23) dX9_stateNow_29 KX9 rfl (by decide) rfl kf_RX9_60 ?_
    refine a_iload_n 2 dX9_stateNow_32 rfl ?_
    refine a_gd h (fun c5 h => ?_)
    refine a_iald (x' := wi q1.2) dX9_stateNow_33 rfl rfl c5 rfl ?_
    refine a_iadd dX9_stateNow_34 ?_
    refine a_nmI h (fun y6 w7 h => ?_)
    refine a_istore_n (L' := [(1, vI y6), (0, .ref (gB G + 55)), (2, vI q1.2)]) dX9_stateNow_35 (by decide) rfl ?_
    refine a_iinc (L' := [(2, vI (q1.2 + (-1))), (1, vI y6), (0, .ref (gB G + 55))]) 2 dX9_stateNow_36 rfl (by decide) rfl ?_
    refine a_goto 11 dX9_stateNow_39 (by decide) ?_
    have hh := hK2 _ h
    exact a_sub [2, 1, 0] rfl hh

def X9_codeOf (σ : sM) (a0 a1 : Int) : Option Int := some (q_and (q_shr a0 (4 * a1)) 15)
set_option maxRecDepth 100000 in
set_option maxHeartbeats 400000 in
theorem T_X9_codeOf {G : sG} {q_0 : qT} {x_0 : List Nat} {σ : sM} {r_0 : Int} {a0 a1 : Int}  (h : X9_codeOf σ a0 a1 = some r_0) : aM G yX9_codeOf cX9_codeOf 2 (some .int) 0 0 0 [vI a0, vI a1] (mkSh q_0 x_0, σ) (r_0, (mkSh q_0 x_0, σ)) := by
  unfold X9_codeOf at h
  refine aM_of (by decide) (Nat.le_of_ble_eq_true rfl) ?_
  show aW G cX9_codeOf RX9 "codeOf" 2 (some .int) _ _ aX 0 0 _ [(0, vI a0), (1, vI a1)] 0 []
  refine a_iload_n 0 dX9_codeOf_0 rfl ?_
  refine a_iconst dX9_codeOf_1 ?_
  refine a_iload_n 1 dX9_codeOf_2 rfl ?_
  refine a_imul dX9_codeOf_3 ?_
  refine a_ishr dX9_codeOf_4 ?_
  refine a_bipush dX9_codeOf_5 (by decide) ?_
  refine a_iand dX9_codeOf_7 ?_
  exact a_iret dX9_codeOf_8 rfl (s_inj h) rfl

def X9_isOpenIn (σ : sM) (a1 a2 : Int) : Option Int := bp (X9_codeOf σ a1 a2) (fun r1 => if wi (q_and r1 3) ≤ 0 then some 0 else if 0 ≤ wi a2 ∧ wi a2 < 6 then if wi (σ 63 (wi a2).toNat) ≤ wi (q_and r1 3) then some 0 else some 1 else none)
set_option maxRecDepth 100000 in
set_option maxHeartbeats 400000 in
theorem T_X9_isOpenIn {G : sG} {q_0 : qT} {x_0 : List Nat} {σ : sM} {r_0 : Int} {a1 a2 : Int}  (h : X9_isOpenIn σ a1 a2 = some r_0) : aM G yX9_isOpenIn cX9_isOpenIn 4 (some .boolean) 1 0 0 [.ref (gB G + 55), vI a1, vI a2] (mkSh q_0 x_0, σ) (r_0, (mkSh q_0 x_0, σ)) := by
  unfold X9_isOpenIn at h
  refine aM_of (by decide) (Nat.le_of_ble_eq_true rfl) ?_
  show aW G cX9_isOpenIn RX9 "isOpenIn" 4 (some .boolean) _ _ aX 0 0 _ [(0, .ref (gB G + 55)), (1, vI a1), (2, vI a2)] 0 []
  refine a_iload_n 1 dX9_isOpenIn_0 rfl ?_
  refine a_iload_n 2 dX9_isOpenIn_1 rfl ?_
  refine bp_s h (fun r1 e2 h => ?_)
  refine a_callSI dX9_isOpenIn_2 mX9_codeOf kv_X9_codeOf km_RX9_175 rfl (T_X9_codeOf e2) (fun _ => rfl) rfl (Nat.le_of_ble_eq_true rfl) (Nat.le_of_ble_eq_true rfl) ⟨(Nat.le_of_ble_eq_true rfl), (Nat.le_of_ble_eq_true rfl)⟩ (Nat.le_of_ble_eq_true rfl) ?_
  refine a_iconst dX9_isOpenIn_5 ?_
  refine a_iand dX9_isOpenIn_6 ?_
  refine a_istore_n (L' := [(3, vI (q_and r1 3)), (0, .ref (gB G + 55)), (1, vI a1), (2, vI a2)]) dX9_isOpenIn_7 (by decide) rfl ?_
  refine a_iload_n 0 dX9_isOpenIn_8 rfl ?_
  refine a_if_le 26 dX9_isOpenIn_9 (by decide) rfl h (fun c3 h => ?_) (fun c3 h => ?_)
  · skip
    refine a_iconst dX9_isOpenIn_26 ?_
    exact a_zret dX9_isOpenIn_27 rfl (by decide) (s_inj h) rfl
  · skip
    refine a_iload_n 0 dX9_isOpenIn_12 rfl ?_
    refine a_aload_n 1 dX9_isOpenIn_13 rfl ?_
    refine a_getR (j := 9) dX9_isOpenIn_14 KX9 rfl (by decide) rfl kf_RX9_32 ?_
    refine a_iload_n 3 dX9_isOpenIn_17 rfl ?_
    refine a_gd h (fun c4 h => ?_)
    refine a_iald (x' := wi a2) dX9_isOpenIn_18 rfl rfl c4 rfl ?_
    refine a_icmp_ge 26 dX9_isOpenIn_19 (by decide) rfl rfl h (fun c5 h => ?_) (fun c5 h => ?_)
    · skip
      refine a_iconst dX9_isOpenIn_26 ?_
      exact a_zret dX9_isOpenIn_27 rfl (by decide) (s_inj h) rfl
    · skip
      refine a_iconst dX9_isOpenIn_22 ?_
      refine a_goto 27 dX9_isOpenIn_23 (by decide) ?_
      exact a_zret dX9_isOpenIn_27 rfl (by decide) (s_inj h) rfl

