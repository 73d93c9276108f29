def X9_think (F : Nat) (σ : sM) (a1 : Int) : Option (Int × sM) := lp (fun K2 (q1 : sM × Int) => if 4 ≤ wi q1.2 then some (0, q1.1) else jn (fun q4 : Int => if 0 ≤ wi q1.2 ∧ wi q1.2 < 8 then K2 ((sU q1.1 85 (wi q1.2).toNat q4), q1.2 + 1) else none) (fun K5 => if ¬ wi q1.2 = 0 then K5 0 else K5 1)) F ((sU σ 55 36 a1), 0)
set_option maxRecDepth 100000 in
set_option maxHeartbeats 400000 in
theorem T_X9_think {G : sG} {q_0 : qT} {x_0 : List Nat} {σ s_0 : sM} {r_0 : Int} {a1 : Int} {F : Nat}  (h : X9_think F σ a1 = some (r_0, s_0)) : aM G yX9_think cX9_think 3 none 0 0 0 [.ref (gP G 55), vI a1] (mkSh q_0 x_0, σ) (r_0, (mkSh q_0 x_0, s_0)) := by
  unfold X9_think at h
  refine aM_of (by decide) (Nat.le_of_ble_eq_true rfl) ?_
  show aW G cX9_think RX9 "think" 3 none _ _ aX 0 0 _ [(0, .ref (gP G 55)), (1, vI a1)] 0 []
  refine a_aload_n 0 dX9_think_0 rfl ?_
  refine a_iload_n 1 dX9_think_1 rfl ?_
  refine a_putI (j := 36) dX9_think_2 KX9 rfl (by decide) rfl rfl rfl kf_RX9_289 ?_
  refine a_iconst dX9_think_5 ?_
  refine a_istore_n (L' := [(2, vI 0), (0, .ref (gP G 55)), (1, vI a1)]) dX9_think_6 (by decide) rfl ?_
  refine a_sub (L' := [(0, .ref (gP G 55)), (2, vI 0)]) [1, 0] rfl (lp_s (x := ((sU σ 55 36 a1), 0)) (fun q1 : sM × Int => aW G cX9_think RX9 "think" 3 none (sR 0 0 0) (aQ G none 0 0 (r_0, (mkSh q_0 x_0, s_0))) aX 0 0 (mkSh q_0 x_0, q1.1) [(0, .ref (gP G 55)), (2, vI q1.2)] 7 []) h (fun K2 hK2 q1 h => ?_))
  refine a_iload_n 1 dX9_think_7 rfl ?_
  refine a_iconst dX9_think_8 ?_
  refine a_icmp_ge 33 dX9_think_9 (by decide) rfl (by decide) h (fun c3 h => ?_) (fun c3 h => ?_)
  · skip
    exact a_vret dX9_think_33 rfl (p_S (p_2 h))
  · skip
    refine a_aload_n 0 dX9_think_12 rfl ?_
    refine a_getR (j := 37) dX9_think_13 KX9 rfl (by decide) rfl kf_RX9_100 ?_
    refine a_iload_n 1 dX9_think_16 rfl ?_
    refine a_iload_n 1 dX9_think_17 rfl ?_
    refine jn_s (fun q4 : Int => aW G cX9_think RX9 "think" 3 none (sR 0 0 0) (aQ G none 0 0 (r_0, (mkSh q_0 x_0, s_0))) aX 0 0 (mkSh q_0 x_0, q1.1) [(0, .ref (gP G 55)), (2, vI q1.2)] 26 [vL q4, vI q1.2, .ref (gP G 85)]) h (fun q4 h => ?_) (fun K5 hK5 h => ?_)
    · skip
      refine a_gd h (fun c6 h => ?_)
      refine a_last (x' := wi q1.2) dX9_think_26 rfl rfl c6 rfl ?_
      refine a_iinc (L' := [(2, vI (q1.2 + 1)), (0, .ref (gP G 55))]) 1 dX9_think_27 rfl (by decide) rfl ?_
      refine a_goto 7 dX9_think_30 (by decide) ?_
      have hh := hK2 _ h
      exact a_sub [1, 0] rfl hh
    · skip
      refine a_if_ne 25 dX9_think_18 (by decide) rfl h (fun c7 h => ?_) (fun c7 h => ?_)
      · skip
        refine a_lconst (z := 0) dX9_think_25 (by decide) ?_
        have hh := hK5 _ h
        exact a_sub [0, 1] rfl hh
      · skip
        refine a_lconst (z := 1) dX9_think_21 (by decide) ?_
        refine a_goto 26 dX9_think_22 (by decide) ?_
        have hh := hK5 _ h
        exact a_sub [0, 1] rfl hh

def X9_thought (F : Nat) (σ : sM) (a1 : Int) : Option (Int × sM) := bp (X9_in σ a1 0 ((σ 57 0) - 1)) (fun r1 => if ¬ wi r1 = 0 then bn (X9_think F σ a1) (fun r4 σ6 => some (1, σ6)) else some ((-1), σ))
set_option maxRecDepth 100000 in
set_option maxHeartbeats 400000 in
theorem T_X9_thought {G : sG} {q_0 : qT} {x_0 : List Nat} {σ s_0 : sM} {r_0 : Int} {a1 : Int} {F : Nat}  (h : X9_thought F σ a1 = some (r_0, s_0)) : aM G yX9_thought cX9_thought 2 (some .int) 1 0 0 [.ref (gP G 55), vI a1] (mkSh q_0 x_0, σ) (r_0, (mkSh q_0 x_0, s_0)) := by
  unfold X9_thought at h
  refine aM_of (by decide) (Nat.le_of_ble_eq_true rfl) ?_
  show aW G cX9_thought RX9 "thought" 2 (some .int) _ _ aX 0 0 _ [(0, .ref (gP G 55)), (1, vI a1)] 0 []
  refine a_iload_n 1 dX9_thought_0 rfl ?_
  refine a_iconst dX9_thought_1 ?_
  refine a_aload_n 0 dX9_thought_2 rfl ?_
  refine a_getR (j := 3) dX9_thought_3 KX9 rfl (by decide) rfl kf_RX9_13 ?_
  refine a_iconst dX9_thought_6 ?_
  refine a_iald (x' := 0) dX9_thought_7 rfl (by decide) (by decide) rfl ?_
  refine a_iconst dX9_thought_8 ?_
  refine a_isub dX9_thought_9 ?_
  refine bp_s h (fun r1 e2 h => ?_)
  refine a_callSI dX9_thought_10 mX9_in kv_X9_in km_RX9_103 rfl (T_X9_in e2) (fun _ => rfl) rfl (Nat.le_of_ble_eq_true rfl) (Nat.le_of_ble_eq_true rfl) ⟨(Nat.le_of_ble_eq_true rfl), (Nat.le_of_ble_eq_true rfl)⟩ (Nat.le_of_ble_eq_true rfl) ?_
  refine a_if_ne 18 dX9_thought_13 (by decide) rfl h (fun c3 h => ?_) (fun c3 h => ?_)
  · skip
    refine a_aload_n 0 dX9_thought_18 rfl ?_
    refine a_iload_n 1 dX9_thought_19 rfl ?_
    refine bn_s h (fun r4 σ6 e5 h => ?_)
    refine a_callVV dX9_thought_20 mX9_think KX9 rfl kv_X9_think ks_X9_think rfl km_RX9_157 rfl (T_X9_think e5) (fun _ => rfl) rfl (Nat.le_of_ble_eq_true rfl) (Nat.le_of_ble_eq_true rfl) ⟨(Nat.le_of_ble_eq_true rfl), (Nat.le_of_ble_eq_true rfl)⟩ (Nat.le_of_ble_eq_true rfl) ?_
    refine a_iconst dX9_thought_23 ?_
    exact a_iret dX9_thought_24 rfl (p_1 h) (p_S (p_2 h))
  · skip
    refine a_iconst dX9_thought_16 ?_
    exact a_iret dX9_thought_17 rfl (p_1 h) (p_S (p_2 h))

def X9_settle (F : Nat) (σ : sM) : Option (Int × sM) := lp (fun K2 (q1 : Int × Int) => if 4 ≤ wi q1.2 then if ¬ wi (q_lcmp q1.1 0) = 0 then lp (fun K6 (q5 : Int) => if 4 ≤ wi q5 then lp (fun K9 (q8 : sM × Int) => if 4 ≤ wi q8.2 then some (1, q8.1) else if 0 ≤ wi (4 + q8.2) ∧ wi (4 + q8.2) < 8 then if ¬ wl q1.1 = 0 then if 0 ≤ wi q8.2 ∧ wi q8.2 < 8 then K9 ((sU q8.1 85 (wi q8.2).toNat (q_ldiv (q8.1 85 (wi (4 + q8.2)).toNat) q1.1)), q8.2 + 1) else none else none else none) F (σ, 0) else if 0 ≤ wi (4 + q5) ∧ wi (4 + q5) < 8 then if ¬ wl q1.1 = 0 then if wi (q_lcmp (q_ldiv (σ 85 (wi (4 + q5)).toNat) q1.1) 1000000000000) ≤ 0 then K6 (q5 + 1) else some ((-3), σ) else none else none) F 0 else some ((-2), σ) else if 0 ≤ wi (4 + q1.2) ∧ wi (4 + q1.2) < 8 then bp (X9_common F σ (σ 85 (wi (4 + q1.2)).toNat) q1.1) (fun r18 => K2 (r18, q1.2 + 1)) else none) F (0, 0)
set_option maxRecDepth 100000 in
set_option maxHeartbeats 400000 in
theorem T_X9_settle {G : sG} {q_0 : qT} {x_0 : List Nat} {σ s_0 : sM} {r_0 : Int} {F : Nat}  (h : X9_settle F σ = some (r_0, s_0)) : aM G yX9_settle cX9_settle 4 (some .int) 1 0 0 [.ref (gP G 55)] (mkSh q_0 x_0, σ) (r_0, (mkSh q_0 x_0, s_0)) := by
  unfold X9_settle at h
  refine aM_of (by decide) (Nat.le_of_ble_eq_true rfl) ?_
  show aW G cX9_settle RX9 "settle" 4 (some .int) _ _ aX 0 0 _ [(0, .ref (gP G 55))] 0 []
  refine a_lconst (z := 0) dX9_settle_0 (by decide) ?_
  refine a_lstore_n (L' := [(1, vL 0), (0, .ref (gP G 55))]) dX9_settle_1 (by decide) rfl ?_
  refine a_iconst dX9_settle_2 ?_
  refine a_istore_n (L' := [(3, vI 0), (1, vL 0), (0, .ref (gP G 55))]) dX9_settle_3 (by decide) rfl ?_
  refine a_sub (L' := [(0, .ref (gP G 55)), (1, vL 0), (3, vI 0)]) [2, 1, 0] rfl (lp_s (x := (0, 0)) (fun q1 : Int × Int => aW G cX9_settle RX9 "settle" 4 (some .int) (sR 1 0 0) (aQ G (some .int) 0 0 (r_0, (mkSh q_0 x_0, s_0))) aX 0 0 (mkSh q_0 x_0, σ) [(0, .ref (gP G 55)), (1, vL q1.1), (3, vI q1.2)] 4 []) h (fun K2 hK2 q1 h => ?_))
  refine a_iload_n 2 dX9_settle_4 rfl ?_
  refine a_iconst dX9_settle_5 ?_
  refine a_icmp_ge 28 dX9_settle_6 (by decide) rfl (by decide) h (fun c3 h => ?_) (fun c3 h => ?_)
  · skip
    refine a_lload_n 1 dX9_settle_28 rfl ?_
    refine a_lconst (z := 0) dX9_settle_29 (by decide) ?_
    refine a_lcmp dX9_settle_30 ?_
    refine a_if_ne 37 dX9_settle_31 (by decide) rfl h (fun c4 h => ?_) (fun c4 h => ?_)
    · skip
      refine a_iconst dX9_settle_37 ?_
      refine a_istore_n (L' := [(3, vI 0), (0, .ref (gP G 55)), (1, vL q1.1)]) dX9_settle_38 (by decide) rfl ?_
      refine a_sub (L' := [(0, .ref (gP G 55)), (1, vL q1.1), (3, vI 0)]) [1, 2, 0] rfl (lp_s (x := 0) (fun q5 : Int => aW G cX9_settle RX9 "settle" 4 (some .int) (sR 1 0 0) (aQ G (some .int) 0 0 (r_0, (mkSh q_0 x_0, s_0))) aX 0 0 (mkSh q_0 x_0, σ) [(0, .ref (gP G 55)), (1, vL q1.1), (3, vI q5)] 39 []) h (fun K6 hK6 q5 h => ?_))
      refine a_iload_n 2 dX9_settle_39 rfl ?_
      refine a_iconst dX9_settle_40 ?_
      refine a_icmp_ge 70 dX9_settle_41 (by decide) rfl (by decide) h (fun c7 h => ?_) (fun c7 h => ?_)
      · skip
        refine a_iconst dX9_settle_70 ?_
        refine a_istore_n (L' := [(3, vI 0), (0, .ref (gP G 55)), (1, vL q1.1)]) dX9_settle_71 (by decide) rfl ?_
        refine a_sub (L' := [(0, .ref (gP G 55)), (1, vL q1.1), (3, vI 0)]) [1, 2, 0] rfl (lp_s (x := (σ, 0)) (fun q8 : sM × Int => aW G cX9_settle RX9 "settle" 4 (some .int) (sR 1 0 0) (aQ G (some .int) 0 0 (r_0, (mkSh q_0 x_0, s_0))) aX 0 0 (mkSh q_0 x_0, q8.1) [(0, .ref (gP G 55)), (1, vL q1.1), (3, vI q8.2)] 72 []) h (fun K9 hK9 q8 h => ?_))
        refine a_iload_n 2 dX9_settle_72 rfl ?_
        refine a_iconst dX9_settle_73 ?_
        refine a_icmp_ge 99 dX9_settle_74 (by decide) rfl (by decide) h (fun c10 h => ?_) (fun c10 h => ?_)
        · skip
          refine a_iconst dX9_settle_99 ?_
          exact a_iret dX9_settle_100 rfl (p_1 h) (p_S (p_2 h))
        · skip
          refine a_aload_n 0 dX9_settle_77 rfl ?_
          refine a_getR (j := 37) dX9_settle_78 KX9 rfl (by decide) rfl kf_RX9_100 ?_
          refine a_iload_n 2 dX9_settle_81 rfl ?_
          refine a_aload_n 0 dX9_settle_82 rfl ?_
          refine a_getR (j := 37) dX9_settle_83 KX9 rfl (by decide) rfl kf_RX9_100 ?_
          refine a_iconst dX9_settle_86 ?_
          refine a_iload_n 2 dX9_settle_87 rfl ?_
          refine a_iadd dX9_settle_88 ?_
          refine a_gd h (fun c11 h => ?_)
          refine a_lald (x' := wi (4 + q8.2)) dX9_settle_89 rfl rfl c11 rfl ?_
          refine a_lload_n 1 dX9_settle_90 rfl ?_
          refine a_gd h (fun c12 h => ?_)
          refine a_ldiv dX9_settle_91 (nz_l c12) ?_
          refine a_gd h (fun c13 h => ?_)
          refine a_last (x' := wi q8.2) dX9_settle_92 rfl rfl c13 rfl ?_
          refine a_iinc (L' := [(3, vI (q8.2 + 1)), (0, .ref (gP G 55)), (1, vL q1.1)]) 2 dX9_settle_93 rfl (by decide) rfl ?_
          refine a_goto 72 dX9_settle_96 (by decide) ?_
          have hh := hK9 _ h
          exact a_sub [1, 2, 0] rfl hh
      · skip
        refine a_aload_n 0 dX9_settle_44 rfl ?_
        refine a_getR (j := 37) dX9_settle_45 KX9 rfl (by decide) rfl kf_RX9_100 ?_
        refine a_iconst dX9_settle_48 ?_
        refine a_iload_n 2 dX9_settle_49 rfl ?_
        refine a_iadd dX9_settle_50 ?_
        refine a_gd h (fun c14 h => ?_)
        refine a_lald (x' := wi (4 + q5)) dX9_settle_51 rfl rfl c14 rfl ?_
        refine a_lload_n 1 dX9_settle_52 rfl ?_
        refine a_gd h (fun c15 h => ?_)
        refine a_ldiv dX9_settle_53 (nz_l c15) ?_
        refine a_ldc2 (z := 1000000000000) dX9_settle_54 kc_RX9_292 (by decide) ?_
        refine a_lcmp dX9_settle_57 ?_
        refine a_if_le 64 dX9_settle_58 (by decide) rfl h (fun c16 h => ?_) (fun c16 h => ?_)
        · skip
          refine a_iinc (L' := [(3, vI (q5 + 1)), (0, .ref (gP G 55)), (1, vL q1.1)]) 2 dX9_settle_64 rfl (by decide) rfl ?_
          refine a_goto 39 dX9_settle_67 (by decide) ?_
          have hh := hK6 _ h
          exact a_sub [1, 2, 0] rfl hh
        · skip
          refine a_bipush dX9_settle_61 (by decide) ?_
          exact a_iret dX9_settle_63 rfl (p_1 h) (p_S (p_2 h))
    · skip
      refine a_bipush dX9_settle_34 (by decide) ?_
      exact a_iret dX9_settle_36 rfl (p_1 h) (p_S (p_2 h))
  · skip
    refine a_aload_n 0 dX9_settle_9 rfl ?_
    refine a_getR (j := 37) dX9_settle_10 KX9 rfl (by decide) rfl kf_RX9_100 ?_
    refine a_iconst dX9_settle_13 ?_
    refine a_iload_n 2 dX9_settle_14 rfl ?_
    refine a_iadd dX9_settle_15 ?_
    refine a_gd h (fun c17 h => ?_)
    refine a_lald (x' := wi (4 + q1.2)) dX9_settle_16 rfl rfl c17 rfl ?_
    refine a_lload_n 1 dX9_settle_17 rfl ?_
    refine bp_s h (fun r18 e19 h => ?_)
    refine a_callSL dX9_settle_18 mX9_common kv_X9_common km_RX9_279 rfl (T_X9_common e19) (fun _ => rfl) rfl (Nat.le_of_ble_eq_true rfl) (Nat.le_of_ble_eq_true rfl) ⟨(Nat.le_of_ble_eq_true rfl), (Nat.le_of_ble_eq_true rfl)⟩ (Nat.le_of_ble_eq_true rfl) ?_
    refine a_lstore_n (L' := [(1, vL r18), (0, .ref (gP G 55)), (3, vI q1.2)]) dX9_settle_21 (by decide) rfl ?_
    refine a_iinc (L' := [(3, vI (q1.2 + 1)), (1, vL r18), (0, .ref (gP G 55))]) 2 dX9_settle_22 rfl (by decide) rfl ?_
    refine a_goto 4 dX9_settle_25 (by decide) ?_
    have hh := hK2 _ h
    exact a_sub [2, 1, 0] rfl hh

def X9_aged (F : Nat) (σ : sM) : Option (Int × sM) := if ¬ wi (σ 57 0) = 0 then lp (fun K3 (q2 : sM × Int × Int) => if 4 ≤ wi q2.2.2 then bn (X9_settle F q2.1) (fun r5 σ7 => some (r5, σ7)) else jn (fun q8 : Int => if 0 ≤ wi q2.2.2 ∧ wi q2.2.2 < 8 then if 0 ≤ wi (4 + q2.2.2) ∧ wi (4 + q2.2.2) < 8 then if 0 ≤ wi q2.2.2 ∧ wi q2.2.2 < 8 then nm (((sU q2.1 85 (wi (4 + q2.2.2)).toNat (q2.2.1 + ((q2.1 85 (wi q2.2.2).toNat) * (10 - q8)))) 85 (wi q2.2.2).toNat) * q8) (fun y13 => K3 ((sU q2.1 85 (wi (4 + q2.2.2)).toNat (q2.2.1 + ((q2.1 85 (wi q2.2.2).toNat) * (10 - q8)))), y13, q2.2.2 + 1)) else none else none else none) (fun K9 => if ¬ wi q2.2.2 = 3 then if 0 ≤ wi (((14 * (q2.1 55 36)) + 4) + q2.2.2) ∧ wi (((14 * (q2.1 55 36)) + 4) + q2.2.2) < 112 then K9 (wi (q2.1 61 (wi (((14 * (q2.1 55 36)) + 4) + q2.2.2)).toNat)) else none else K9 0)) F (σ, 0, 0) else some ((-2), σ)
set_option maxRecDepth 100000 in
set_option maxHeartbeats 400000 in
theorem T_X9_aged {G : sG} {q_0 : qT} {x_0 : List Nat} {σ s_0 : sM} {r_0 : Int} {F : Nat}  (h : X9_aged F σ = some (r_0, s_0)) : aM G yX9_aged cX9_aged 6 (some .int) 2 0 0 [.ref (gP G 55)] (mkSh q_0 x_0, σ) (r_0, (mkSh q_0 x_0, s_0)) := by
  unfold X9_aged at h
  refine aM_of (by decide) (Nat.le_of_ble_eq_true rfl) ?_
  show aW G cX9_aged RX9 "aged" 6 (some .int) _ _ aX 0 0 _ [(0, .ref (gP G 55))] 0 []
  refine a_aload_n 0 dX9_aged_0 rfl ?_
  refine a_getR (j := 3) dX9_aged_1 KX9 rfl (by decide) rfl kf_RX9_13 ?_
  refine a_iconst dX9_aged_4 ?_
  refine a_iald (x' := 0) dX9_aged_5 rfl (by decide) (by decide) rfl ?_
  refine a_if_ne 12 dX9_aged_6 (by decide) rfl h (fun c1 h => ?_) (fun c1 h => ?_)
  · skip
    refine a_lconst (z := 0) dX9_aged_12 (by decide) ?_
    refine a_lstore_n (L' := [(1, vL 0), (0, .ref (gP G 55))]) dX9_aged_13 (by decide) rfl ?_
    refine a_iconst dX9_aged_14 ?_
    refine a_istore_n (L' := [(3, vI 0), (1, vL 0), (0, .ref (gP G 55))]) dX9_aged_15 (by decide) rfl ?_
    refine a_sub (L' := [(0, .ref (gP G 55)), (1, vL 0), (3, vI 0)]) [2, 1, 0] rfl (lp_s (x := (σ, 0, 0)) (fun q2 : sM × Int × Int => aW G cX9_aged RX9 "aged" 6 (some .int) (sR 2 0 0) (aQ G (some .int) 0 0 (r_0, (mkSh q_0 x_0, s_0))) aX 0 0 (mkSh q_0 x_0, q2.1) [(0, .ref (gP G 55)), (1, vL q2.2.1), (3, vI q2.2.2)] 16 []) h (fun K3 hK3 q2 h => ?_))
    refine a_iload_n 2 dX9_aged_16 rfl ?_
    refine a_iconst dX9_aged_17 ?_
    refine a_icmp_ge 88 dX9_aged_18 (by decide) rfl (by decide) h (fun c4 h => ?_) (fun c4 h => ?_)
    · skip
      refine a_aload_n 0 dX9_aged_88 rfl ?_
      refine bn_s h (fun r5 σ7 e6 h => ?_)
      refine a_callVI dX9_aged_89 mX9_settle KX9 rfl kv_X9_settle ks_X9_settle rfl km_RX9_294 rfl (T_X9_settle e6) (fun _ => rfl) rfl (Nat.le_of_ble_eq_true rfl) (Nat.le_of_ble_eq_true rfl) ⟨(Nat.le_of_ble_eq_true rfl), (Nat.le_of_ble_eq_true rfl)⟩ (Nat.le_of_ble_eq_true rfl) ?_
      exact a_iret dX9_aged_92 rfl (p_1 h) (p_S (p_2 h))
    · skip
      refine a_iload_n 2 dX9_aged_21 rfl ?_
      refine a_iconst dX9_aged_22 ?_
      refine jn_s (fun q8 : Int => aW G cX9_aged RX9 "aged" 6 (some .int) (sR 2 0 0) (aQ G (some .int) 0 0 (r_0, (mkSh q_0 x_0, s_0))) aX 0 0 (mkSh q_0 x_0, q2.1) [(0, .ref (gP G 55)), (1, vL q2.2.1), (3, vI q2.2.2)] 47 [vL q8]) h (fun q8 h => ?_) (fun K9 hK9 h => ?_)
      · skip
        refine a_lstore (L' := [(4, vL q8), (0, .ref (gP G 55)), (1, vL q2.2.1), (3, vI q2.2.2)]) dX9_aged_47 (by decide) rfl ?_
        refine a_aload_n 1 dX9_aged_49 rfl ?_
        refine a_getR (j := 37) dX9_aged_50 KX9 rfl (by decide) rfl kf_RX9_100 ?_
        refine a_iconst dX9_aged_53 ?_
        refine a_iload_n 3 dX9_aged_54 rfl ?_
        refine a_iadd dX9_aged_55 ?_
        refine a_lload_n 2 dX9_aged_56 rfl ?_
        refine a_aload_n 1 dX9_aged_57 rfl ?_
        refine a_getR (j := 37) dX9_aged_58 KX9 rfl (by decide) rfl kf_RX9_100 ?_
        refine a_iload_n 3 dX9_aged_61 rfl ?_
        refine a_gd h (fun c10 h => ?_)
        refine a_lald (x' := wi q2.2.2) dX9_aged_62 rfl rfl c10 rfl ?_
        refine a_ldc2 (z := 10) dX9_aged_63 kc_RX9_253 (by decide) ?_
        refine a_lload 0 dX9_aged_66 rfl ?_
        refine a_lsub dX9_aged_68 ?_
        refine a_lmul dX9_aged_69 ?_
        refine a_ladd dX9_aged_70 ?_
        refine a_gd h (fun c11 h => ?_)
        refine a_last (x' := wi (4 + q2.2.2)) dX9_aged_71 rfl rfl c11 rfl ?_
        refine a_aload_n 1 dX9_aged_72 rfl ?_
        refine a_getR (j := 37) dX9_aged_73 KX9 rfl (by decide) rfl kf_RX9_100 ?_
        refine a_iload_n 3 dX9_aged_76 rfl ?_
        refine a_gd h (fun c12 h => ?_)
        refine a_lald (x' := wi q2.2.2) dX9_aged_77 rfl rfl c12 rfl ?_
        refine a_lload 0 dX9_aged_78 rfl ?_
        refine a_lmul dX9_aged_80 ?_
        refine a_nmL h (fun y13 w14 h => ?_)
        refine a_lstore_n (L' := [(1, vL y13), (4, vL q8), (0, .ref (gP G 55)), (3, vI q2.2.2)]) dX9_aged_81 (by decide) rfl ?_
        refine a_iinc (L' := [(3, vI (q2.2.2 + 1)), (1, vL y13), (4, vL q8), (0, .ref (gP G 55))]) 3 dX9_aged_82 rfl (by decide) rfl ?_
        refine a_goto 16 dX9_aged_85 (by decide) ?_
        have hh := hK3 _ h
        exact a_sub [3, 1, 0] rfl hh
      · skip
        refine a_icmp_ne 30 dX9_aged_23 (by decide) rfl (by decide) h (fun c15 h => ?_) (fun c15 h => ?_)
        · skip
          refine a_aload_n 0 dX9_aged_30 rfl ?_
          refine a_getR (j := 7) dX9_aged_31 KX9 rfl (by decide) rfl kf_RX9_26 ?_
          refine a_bipush dX9_aged_34 (by decide) ?_
          refine a_aload_n 0 dX9_aged_36 rfl ?_
          refine a_getI (j := 36) dX9_aged_37 KX9 rfl (by decide) rfl kf_RX9_289 ?_
          refine a_imul dX9_aged_40 ?_
          refine a_iconst dX9_aged_41 ?_
          refine a_iadd dX9_aged_42 ?_
          refine a_iload_n 2 dX9_aged_43 rfl ?_
          refine a_iadd dX9_aged_44 ?_
          refine a_gd h (fun c16 h => ?_)
          refine a_iald (x' := wi (((14 * (q2.1 55 36)) + 4) + q2.2.2)) dX9_aged_45 rfl rfl c16 rfl ?_
          refine a_i2l dX9_aged_46 ?_
          have hh := hK9 _ h
          exact a_sub [0, 1, 2] rfl hh
        · skip
          refine a_lconst (z := 0) dX9_aged_26 (by decide) ?_
          refine a_goto 47 dX9_aged_27 (by decide) ?_
          have hh := hK9 _ h
          exact a_sub [0, 1, 2] rfl hh
  · skip
    refine a_bipush dX9_aged_9 (by decide) ?_
    exact a_iret dX9_aged_11 rfl (p_1 h) (p_S (p_2 h))

def X9_shown (F : Nat) (σ : sM) (a1 : Int) : Option (Int × sM) := bp (X9_in σ a1 0 1) (fun r1 => if ¬ wi r1 = 0 then if ¬ wi (σ 57 0) = 0 then lp (fun K6 (q5 : sM × Int) => if 4 ≤ wi q5.2 then bn (X9_settle F q5.1) (fun r8 σ10 => some (r8, σ10)) else if 0 ≤ wi (((14 * (q5.1 55 36)) + 10) + q5.2) ∧ wi (((14 * (q5.1 55 36)) + 10) + q5.2) < 112 then nm (wi (q5.1 61 (wi (((14 * (q5.1 55 36)) + 10) + q5.2)).toNat)) (fun y12 => if 0 ≤ wi q5.2 ∧ wi q5.2 < 8 then jn (fun q15 : Int => if 0 ≤ wi (4 + q5.2) ∧ wi (4 + q5.2) < 8 then K6 ((sU q5.1 85 (wi (4 + q5.2)).toNat ((q5.1 85 (wi q5.2).toNat) * q15)), q5.2 + 1) else none) (fun K16 => if ¬ wi a1 = 1 then K16 (10 - y12) else K16 y12) else none) else none) F (σ, 0) else some ((-2), σ) else some ((-1), σ))
set_option maxRecDepth 100000 in
set_option maxHeartbeats 400000 in
theorem T_X9_shown {G : sG} {q_0 : qT} {x_0 : List Nat} {σ s_0 : sM} {r_0 : Int} {a1 : Int} {F : Nat}  (h : X9_shown F σ a1 = some (r_0, s_0)) : aM G yX9_shown cX9_shown 5 (some .int) 2 0 0 [.ref (gP G 55), vI a1] (mkSh q_0 x_0, σ) (r_0, (mkSh q_0 x_0, s_0)) := by
  unfold X9_shown at h
  refine aM_of (by decide) (Nat.le_of_ble_eq_true rfl) ?_
  show aW G cX9_shown RX9 "shown" 5 (some .int) _ _ aX 0 0 _ [(0, .ref (gP G 55)), (1, vI a1)] 0 []
  refine a_iload_n 1 dX9_shown_0 rfl ?_
  refine a_iconst dX9_shown_1 ?_
  refine a_iconst dX9_shown_2 ?_
  refine bp_s h (fun r1 e2 h => ?_)
  refine a_callSI dX9_shown_3 mX9_in kv_X9_in km_RX9_103 rfl (T_X9_in e2) (fun _ => rfl) rfl (Nat.le_of_ble_eq_true rfl) (Nat.le_of_ble_eq_true rfl) ⟨(Nat.le_of_ble_eq_true rfl), (Nat.le_of_ble_eq_true rfl)⟩ (Nat.le_of_ble_eq_true rfl) ?_
  refine a_if_ne 11 dX9_shown_6 (by decide) rfl h (fun c3 h => ?_) (fun c3 h => ?_)
  · skip
    refine a_aload_n 0 dX9_shown_11 rfl ?_
    refine a_getR (j := 3) dX9_shown_12 KX9 rfl (by decide) rfl kf_RX9_13 ?_
    refine a_iconst dX9_shown_15 ?_
    refine a_iald (x' := 0) dX9_shown_16 rfl (by decide) (by decide) rfl ?_
    refine a_if_ne 23 dX9_shown_17 (by decide) rfl h (fun c4 h => ?_) (fun c4 h => ?_)
    · skip
      refine a_iconst dX9_shown_23 ?_
      refine a_istore_n (L' := [(2, vI 0), (0, .ref (gP G 55)), (1, vI a1)]) dX9_shown_24 (by decide) rfl ?_
      refine a_sub (L' := [(0, .ref (gP G 55)), (1, vI a1), (2, vI 0)]) [1, 2, 0] rfl (lp_s (x := (σ, 0)) (fun q5 : sM × Int => aW G cX9_shown RX9 "shown" 5 (some .int) (sR 2 0 0) (aQ G (some .int) 0 0 (r_0, (mkSh q_0 x_0, s_0))) aX 0 0 (mkSh q_0 x_0, q5.1) [(0, .ref (gP G 55)), (1, vI a1), (2, vI q5.2)] 25 []) h (fun K6 hK6 q5 h => ?_))
      refine a_iload_n 2 dX9_shown_25 rfl ?_
      refine a_iconst dX9_shown_26 ?_
      refine a_icmp_ge 84 dX9_shown_27 (by decide) rfl (by decide) h (fun c7 h => ?_) (fun c7 h => ?_)
      · skip
        refine a_aload_n 0 dX9_shown_84 rfl ?_
        refine bn_s h (fun r8 σ10 e9 h => ?_)
        refine a_callVI dX9_shown_85 mX9_settle KX9 rfl kv_X9_settle ks_X9_settle rfl km_RX9_294 rfl (T_X9_settle e9) (fun _ => rfl) rfl (Nat.le_of_ble_eq_true rfl) (Nat.le_of_ble_eq_true rfl) ⟨(Nat.le_of_ble_eq_true rfl), (Nat.le_of_ble_eq_true rfl)⟩ (Nat.le_of_ble_eq_true rfl) ?_
        exact a_iret dX9_shown_88 rfl (p_1 h) (p_S (p_2 h))
      · skip
        refine a_aload_n 0 dX9_shown_30 rfl ?_
        refine a_getR (j := 7) dX9_shown_31 KX9 rfl (by decide) rfl kf_RX9_26 ?_
        refine a_bipush dX9_shown_34 (by decide) ?_
        refine a_aload_n 0 dX9_shown_36 rfl ?_
        refine a_getI (j := 36) dX9_shown_37 KX9 rfl (by decide) rfl kf_RX9_289 ?_
        refine a_imul dX9_shown_40 ?_
        refine a_bipush dX9_shown_41 (by decide) ?_
        refine a_iadd dX9_shown_43 ?_
        refine a_iload_n 2 dX9_shown_44 rfl ?_
        refine a_iadd dX9_shown_45 ?_
        refine a_gd h (fun c11 h => ?_)
        refine a_iald (x' := wi (((14 * (q5.1 55 36)) + 10) + q5.2)) dX9_shown_46 rfl rfl c11 rfl ?_
        refine a_i2l dX9_shown_47 ?_
        refine a_nmL h (fun y12 w13 h => ?_)
        refine a_lstore_n (L' := [(3, vL y12), (0, .ref (gP G 55)), (1, vI a1), (2, vI q5.2)]) dX9_shown_48 (by decide) rfl ?_
        refine a_aload_n 1 dX9_shown_49 rfl ?_
        refine a_getR (j := 37) dX9_shown_50 KX9 rfl (by decide) rfl kf_RX9_100 ?_
        refine a_iconst dX9_shown_53 ?_
        refine a_iload_n 3 dX9_shown_54 rfl ?_
        refine a_iadd dX9_shown_55 ?_
        refine a_aload_n 1 dX9_shown_56 rfl ?_
        refine a_getR (j := 37) dX9_shown_57 KX9 rfl (by decide) rfl kf_RX9_100 ?_
        refine a_iload_n 3 dX9_shown_60 rfl ?_
        refine a_gd h (fun c14 h => ?_)
        refine a_lald (x' := wi q5.2) dX9_shown_61 rfl rfl c14 rfl ?_
        refine a_iload_n 2 dX9_shown_62 rfl ?_
        refine a_iconst dX9_shown_63 ?_
        refine jn_s (fun q15 : Int => aW G cX9_shown RX9 "shown" 5 (some .int) (sR 2 0 0) (aQ G (some .int) 0 0 (r_0, (mkSh q_0 x_0, s_0))) aX 0 0 (mkSh q_0 x_0, q5.1) [(0, .ref (gP G 55)), (1, vI a1), (2, vI q5.2)] 76 [vL q15, vL (q5.1 85 (wi q5.2).toNat), vI (4 + q5.2), .ref (gP G 85)]) h (fun q15 h => ?_) (fun K16 hK16 h => ?_)
        · skip
          refine a_lmul dX9_shown_76 ?_
          refine a_gd h (fun c17 h => ?_)
          refine a_last (x' := wi (4 + q5.2)) dX9_shown_77 rfl rfl c17 rfl ?_
          refine a_iinc (L' := [(2, vI (q5.2 + 1)), (0, .ref (gP G 55)), (1, vI a1)]) 2 dX9_shown_78 rfl (by decide) rfl ?_
          refine a_goto 25 dX9_shown_81 (by decide) ?_
          have hh := hK6 _ h
          exact a_sub [1, 2, 0] rfl hh
        · skip
          refine a_icmp_ne 71 dX9_shown_64 (by decide) rfl (by decide) h (fun c18 h => ?_) (fun c18 h => ?_)
          · skip
            refine a_ldc2 (z := 10) dX9_shown_71 kc_RX9_253 (by decide) ?_
            refine a_lload_n 0 dX9_shown_74 rfl ?_
            refine a_lsub dX9_shown_75 ?_
            have hh := hK16 _ h
            exact a_sub [1, 2, 3] rfl hh
          · skip
            refine a_lload_n 0 dX9_shown_67 rfl ?_
            refine a_goto 76 dX9_shown_68 (by decide) ?_
            have hh := hK16 _ h
            exact a_sub [1, 2, 3] rfl hh
    · skip
      refine a_bipush dX9_shown_20 (by decide) ?_
      exact a_iret dX9_shown_22 rfl (p_1 h) (p_S (p_2 h))
  · skip
    refine a_iconst dX9_shown_9 ?_
    exact a_iret dX9_shown_10 rfl (p_1 h) (p_S (p_2 h))

def X9_thinks (F : Nat) (σ : sM) (a1 a2 : Int) : Option Int := bp (X9_in σ a1 0 4) (fun r1 => jn (fun q3 : Unit => some (-1)) (fun K4 => if wi r1 = 0 then K4 () else bp (X9_in σ a2 0 1) (fun r6 => if wi r6 = 0 then K4 () else if ¬ wi (σ 57 0) = 0 then lp (fun K11 (q10 : Int × Int × Int) => if 4 ≤ wi q10.2.2 then jn (fun q13 : Int => bp (X9_inLeast F σ q13 q10.1 a2) (fun r15 => some r15)) (fun K14 => if ¬ wi a1 = 4 then if 0 ≤ wi a1 ∧ wi a1 < 8 then K14 (σ 85 (wi a1).toNat) else none else K14 q10.2.1) else if 0 ≤ wi q10.2.2 ∧ wi q10.2.2 < 8 then if 0 ≤ wi q10.2.2 ∧ wi q10.2.2 < 8 then if 0 ≤ wi ((14 * (σ 55 36)) + q10.2.2) ∧ wi ((14 * (σ 55 36)) + q10.2.2) < 112 then nm (q10.2.1 + ((σ 85 (wi q10.2.2).toNat) * (wi (σ 61 (wi ((14 * (σ 55 36)) + q10.2.2)).toNat)))) (fun y22 => K11 (q10.1 + (σ 85 (wi q10.2.2).toNat), y22, q10.2.2 + 1)) else none else none else none) F (0, 0, 0) else K4 ())))
set_option maxRecDepth 100000 in
set_option maxHeartbeats 400000 in
theorem T_X9_thinks {G : sG} {q_0 : qT} {x_0 : List Nat} {σ : sM} {r_0 : Int} {a1 a2 : Int} {F : Nat}  (h : X9_thinks F σ a1 a2 = some r_0) : aM G yX9_thinks cX9_thinks 8 (some .long) 2 0 0 [.ref (gP G 55), vI a1, vI a2] (mkSh q_0 x_0, σ) (r_0, (mkSh q_0 x_0, σ)) := by
  unfold X9_thinks at h
  refine aM_of (by decide) (Nat.le_of_ble_eq_true rfl) ?_
  show aW G cX9_thinks RX9 "thinks" 8 (some .long) _ _ aX 0 0 _ [(0, .ref (gP G 55)), (1, vI a1), (2, vI a2)] 0 []
  refine a_iload_n 1 dX9_thinks_0 rfl ?_
  refine a_iconst dX9_thinks_1 ?_
  refine a_iconst dX9_thinks_2 ?_
  refine bp_s h (fun r1 e2 h => ?_)
  refine a_callSI dX9_thinks_3 mX9_in kv_X9_in km_RX9_103 rfl (T_X9_in e2) (fun _ => rfl) rfl (Nat.le_of_ble_eq_true rfl) (Nat.le_of_ble_eq_true rfl) ⟨(Nat.le_of_ble_eq_true rfl), (Nat.le_of_ble_eq_true rfl)⟩ (Nat.le_of_ble_eq_true rfl) ?_
  refine jn_s (fun q3 : Unit => aW G cX9_thinks RX9 "thinks" 8 (some .long) (sR 2 0 0) (aQ G (some .long) 0 0 (r_0, (mkSh q_0 x_0, σ))) aX 0 0 (mkSh q_0 x_0, σ) [] 27 []) h (fun q3 h => ?_) (fun K4 hK4 h => ?_)
  · skip
    refine a_ldc2 (z := -1) dX9_thinks_27 kc_RX9_283 (by decide) ?_
    exact a_lret dX9_thinks_30 rfl (s_inj h) rfl
  · skip
    refine a_if_eq 27 dX9_thinks_6 (by decide) rfl h (fun c5 h => ?_) (fun c5 h => ?_)
    · skip
      have hh := hK4 _ h
      exact a_sub [] rfl hh
    · skip
      refine a_iload_n 2 dX9_thinks_9 rfl ?_
      refine a_iconst dX9_thinks_10 ?_
      refine a_iconst dX9_thinks_11 ?_
      refine bp_s h (fun r6 e7 h => ?_)
      refine a_callSI dX9_thinks_12 mX9_in kv_X9_in km_RX9_103 rfl (T_X9_in e7) (fun _ => rfl) rfl (Nat.le_of_ble_eq_true rfl) (Nat.le_of_ble_eq_true rfl) ⟨(Nat.le_of_ble_eq_true rfl), (Nat.le_of_ble_eq_true rfl)⟩ (Nat.le_of_ble_eq_true rfl) ?_
      refine a_if_eq 27 dX9_thinks_15 (by decide) rfl h (fun c8 h => ?_) (fun c8 h => ?_)
      · skip
        have hh := hK4 _ h
        exact a_sub [] rfl hh
      · skip
        refine a_aload_n 0 dX9_thinks_18 rfl ?_
        refine a_getR (j := 3) dX9_thinks_19 KX9 rfl (by decide) rfl kf_RX9_13 ?_
        refine a_iconst dX9_thinks_22 ?_
        refine a_iald (x' := 0) dX9_thinks_23 rfl (by decide) (by decide) rfl ?_
        refine a_if_ne 31 dX9_thinks_24 (by decide) rfl h (fun c9 h => ?_) (fun c9 h => ?_)
        · skip
          refine a_lconst (z := 0) dX9_thinks_31 (by decide) ?_
          refine a_lstore_n (L' := [(3, vL 0), (0, .ref (gP G 55)), (1, vI a1), (2, vI a2)]) dX9_thinks_32 (by decide) rfl ?_
          refine a_lconst (z := 0) dX9_thinks_33 (by decide) ?_
          refine a_lstore (L' := [(5, vL 0), (3, vL 0), (0, .ref (gP G 55)), (1, vI a1), (2, vI a2)]) dX9_thinks_34 (by decide) rfl ?_
          refine a_iconst dX9_thinks_36 ?_
          refine a_istore (L' := [(7, vI 0), (5, vL 0), (3, vL 0), (0, .ref (gP G 55)), (1, vI a1), (2, vI a2)]) dX9_thinks_37 (by decide) rfl ?_
          refine a_sub (L' := [(0, .ref (gP G 55)), (1, vI a1), (2, vI a2), (3, vL 0), (5, vL 0), (7, vI 0)]) [3, 4, 5, 2, 1, 0] rfl (lp_s (x := (0, 0, 0)) (fun q10 : Int × Int × Int => aW G cX9_thinks RX9 "thinks" 8 (some .long) (sR 2 0 0) (aQ G (some .long) 0 0 (r_0, (mkSh q_0 x_0, σ))) aX 0 0 (mkSh q_0 x_0, σ) [(0, .ref (gP G 55)), (1, vI a1), (2, vI a2), (3, vL q10.1), (5, vL q10.2.1), (7, vI q10.2.2)] 39 []) h (fun K11 hK11 q10 h => ?_))
          refine a_iload 5 dX9_thinks_39 rfl ?_
          refine a_iconst dX9_thinks_41 ?_
          refine a_icmp_ge 90 dX9_thinks_42 (by decide) rfl (by decide) h (fun c12 h => ?_) (fun c12 h => ?_)
          · skip
            refine a_iload_n 1 dX9_thinks_90 rfl ?_
            refine a_iconst dX9_thinks_91 ?_
            refine jn_s (fun q13 : Int => aW G cX9_thinks RX9 "thinks" 8 (some .long) (sR 2 0 0) (aQ G (some .long) 0 0 (r_0, (mkSh q_0 x_0, σ))) aX 0 0 (mkSh q_0 x_0, σ) [(2, vI a2), (3, vL q10.1)] 106 [vL q13]) h (fun q13 h => ?_) (fun K14 hK14 h => ?_)
            · skip
              refine a_lload_n 1 dX9_thinks_106 rfl ?_
              refine a_iload_n 0 dX9_thinks_107 rfl ?_
              refine bp_s h (fun r15 e16 h => ?_)
              refine a_callSL dX9_thinks_108 mX9_inLeast kv_X9_inLeast km_RX9_285 rfl (T_X9_inLeast e16) (fun _ => rfl) rfl (Nat.le_of_ble_eq_true rfl) (Nat.le_of_ble_eq_true rfl) ⟨(Nat.le_of_ble_eq_true rfl), (Nat.le_of_ble_eq_true rfl)⟩ (Nat.le_of_ble_eq_true rfl) ?_
              exact a_lret dX9_thinks_111 rfl (s_inj h) rfl
            · skip
              refine a_icmp_ne 100 dX9_thinks_92 (by decide) rfl (by decide) h (fun c17 h => ?_) (fun c17 h => ?_)
              · skip
                refine a_aload_n 0 dX9_thinks_100 rfl ?_
                refine a_getR (j := 37) dX9_thinks_101 KX9 rfl (by decide) rfl kf_RX9_100 ?_
                refine a_iload_n 1 dX9_thinks_104 rfl ?_
                refine a_gd h (fun c18 h => ?_)
                refine a_lald (x' := wi a1) dX9_thinks_105 rfl rfl c18 rfl ?_
                have hh := hK14 _ h
                exact a_sub [2, 3] rfl hh
              · skip
                refine a_lload 4 dX9_thinks_95 rfl ?_
                refine a_goto 106 dX9_thinks_97 (by decide) ?_
                have hh := hK14 _ h
                exact a_sub [2, 3] rfl hh
          · skip
            refine a_lload_n 3 dX9_thinks_45 rfl ?_
            refine a_aload_n 0 dX9_thinks_46 rfl ?_
            refine a_getR (j := 37) dX9_thinks_47 KX9 rfl (by decide) rfl kf_RX9_100 ?_
            refine a_iload 5 dX9_thinks_50 rfl ?_
            refine a_gd h (fun c19 h => ?_)
            refine a_lald (x' := wi q10.2.2) dX9_thinks_52 rfl rfl c19 rfl ?_
            refine a_ladd dX9_thinks_53 ?_
            refine a_lstore_n (L' := [(3, vL (q10.1 + (σ 85 (wi q10.2.2).toNat))), (0, .ref (gP G 55)), (1, vI a1), (2, vI a2), (5, vL q10.2.1), (7, vI q10.2.2)]) dX9_thinks_54 (by decide) rfl ?_
            refine a_lload 4 dX9_thinks_55 rfl ?_
            refine a_aload_n 1 dX9_thinks_57 rfl ?_
            refine a_getR (j := 37) dX9_thinks_58 KX9 rfl (by decide) rfl kf_RX9_100 ?_
            refine a_iload 5 dX9_thinks_61 rfl ?_
            refine a_gd h (fun c20 h => ?_)
            refine a_lald (x' := wi q10.2.2) dX9_thinks_63 rfl rfl c20 rfl ?_
            refine a_aload_n 1 dX9_thinks_64 rfl ?_
            refine a_getR (j := 7) dX9_thinks_65 KX9 rfl (by decide) rfl kf_RX9_26 ?_
            refine a_bipush dX9_thinks_68 (by decide) ?_
            refine a_aload_n 1 dX9_thinks_70 rfl ?_
            refine a_getI (j := 36) dX9_thinks_71 KX9 rfl (by decide) rfl kf_RX9_289 ?_
            refine a_imul dX9_thinks_74 ?_
            refine a_iload 5 dX9_thinks_75 rfl ?_
            refine a_iadd dX9_thinks_77 ?_
            refine a_gd h (fun c21 h => ?_)
            refine a_iald (x' := wi ((14 * (σ 55 36)) + q10.2.2)) dX9_thinks_78 rfl rfl c21 rfl ?_
            refine a_i2l dX9_thinks_79 ?_
            refine a_lmul dX9_thinks_80 ?_
            refine a_ladd dX9_thinks_81 ?_
            refine a_nmL h (fun y22 w23 h => ?_)
            refine a_lstore (L' := [(5, vL y22), (3, vL (q10.1 + (σ 85 (wi q10.2.2).toNat))), (0, .ref (gP G 55)), (1, vI a1), (2, vI a2), (7, vI q10.2.2)]) dX9_thinks_82 (by decide) rfl ?_
            refine a_iinc (L' := [(7, vI (q10.2.2 + 1)), (5, vL y22), (3, vL (q10.1 + (σ 85 (wi q10.2.2).toNat))), (0, .ref (gP G 55)), (1, vI a1), (2, vI a2)]) 5 dX9_thinks_84 rfl (by decide) rfl ?_
            refine a_goto 39 dX9_thinks_87 (by decide) ?_
            have hh := hK11 _ h
            exact a_sub [3, 4, 5, 2, 1, 0] rfl hh
        · skip
          have hh := hK4 _ h
          exact a_sub [] rfl hh

def X9_note (σ : sM) (a1 a2 : Int) : Option (Int × sM) := bp (X9_in σ a1 0 5) (fun r1 => jn (fun q3 : Unit => some ((-1000000), σ)) (fun K4 => if wi r1 = 0 then K4 () else bp (X9_isWheel σ a2) (fun r6 => if ¬ wi r6 = 0 then if 0 ≤ wi a2 ∧ wi a2 < 9 then if 0 ≤ wi a2 ∧ wi a2 < 9 then bp (X9_goodOf σ a2 (σ 71 (wi a2).toNat)) (fun r11 => if wi a1 = 0 then some (σ 72 (wi a2).toNat, (sU σ 55 0 ((σ 55 0) + 1))) else if wi a1 = 1 then some ((σ 72 (wi a2).toNat) + (σ 71 (wi a2).toNat), (sU σ 55 0 ((σ 55 0) + 11))) else if wi a1 = 2 then some ((σ 72 (wi a2).toNat) * r11, (sU σ 55 0 ((σ 55 0) + 101))) else if wi a1 = 3 then if 0 ≤ wi a2 ∧ wi a2 < 6 then if 0 ≤ wi (((14 * ((sU σ 55 0 ((σ 55 0) + 1101)) 62 (wi a2).toNat)) + 10) + (σ 71 (wi a2).toNat)) ∧ wi (((14 * ((sU σ 55 0 ((σ 55 0) + 1101)) 62 (wi a2).toNat)) + 10) + (σ 71 (wi a2).toNat)) < 112 then some (((σ 72 (wi a2).toNat) * r11) + ((sU σ 55 0 ((σ 55 0) + 1101)) 61 (wi (((14 * ((sU σ 55 0 ((σ 55 0) + 1101)) 62 (wi a2).toNat)) + 10) + (σ 71 (wi a2).toNat))).toNat), (sU σ 55 0 ((σ 55 0) + 1101))) else none else none else if wi a1 = 4 then some ((σ 72 (wi a2).toNat) - a2, (sU σ 55 0 ((σ 55 0) + 10001))) else some (3 * ((σ 72 (wi a2).toNat) + (σ 71 (wi a2).toNat)), (sU σ 55 0 ((σ 55 0) + 100011)))) else none else none else K4 ())))
set_option maxRecDepth 100000 in
set_option maxHeartbeats 400000 in
theorem T_X9_note {G : sG} {q_0 : qT} {x_0 : List Nat} {σ s_0 : sM} {r_0 : Int} {a1 a2 : Int}  (h : X9_note σ a1 a2 = some (r_0, s_0)) : aM G yX9_note cX9_note 6 (some .int) 2 0 0 [.ref (gP G 55), vI a1, vI a2] (mkSh q_0 x_0, σ) (r_0, (mkSh q_0 x_0, s_0)) := by
  unfold X9_note at h
  refine aM_of (by decide) (Nat.le_of_ble_eq_true rfl) ?_
  show aW G cX9_note RX9 "note" 6 (some .int) _ _ aX 0 0 _ [(0, .ref (gP G 55)), (1, vI a1), (2, vI a2)] 0 []
  refine a_iload_n 1 dX9_note_0 rfl ?_
  refine a_iconst dX9_note_1 ?_
  refine a_iconst dX9_note_2 ?_
  refine bp_s h (fun r1 e2 h => ?_)
  refine a_callSI dX9_note_3 mX9_in kv_X9_in km_RX9_103 rfl (T_X9_in e2) (fun _ => rfl) rfl (Nat.le_of_ble_eq_true rfl) (Nat.le_of_ble_eq_true rfl) ⟨(Nat.le_of_ble_eq_true rfl), (Nat.le_of_ble_eq_true rfl)⟩ (Nat.le_of_ble_eq_true rfl) ?_
  refine jn_s (fun q3 : Unit => aW G cX9_note RX9 "note" 6 (some .int) (sR 2 0 0) (aQ G (some .int) 0 0 (r_0, (mkSh q_0 x_0, s_0))) aX 0 0 (mkSh q_0 x_0, σ) [] 17 []) h (fun q3 h => ?_) (fun K4 hK4 h => ?_)
  · skip
    refine a_ldc (z := -1000000) dX9_note_17 kc_RX9_242 (by decide) ?_
    exact a_iret dX9_note_19 rfl (p_1 h) (p_S (p_2 h))
  · skip
    refine a_if_eq 17 dX9_note_6 (by decide) rfl h (fun c5 h => ?_) (fun c5 h => ?_)
    · skip
      have hh := hK4 _ h
      exact a_sub [] rfl hh
    · skip
      refine a_aload_n 0 dX9_note_9 rfl ?_
      refine a_iload_n 2 dX9_note_10 rfl ?_
      refine bp_s h (fun r6 e7 h => ?_)
      refine a_callVI dX9_note_11 mX9_isWheel KX9 rfl kv_X9_isWheel ks_X9_isWheel rfl km_RX9_164 rfl (T_X9_isWheel e7) (fun _ => rfl) rfl (Nat.le_of_ble_eq_true rfl) (Nat.le_of_ble_eq_true rfl) ⟨(Nat.le_of_ble_eq_true rfl), (Nat.le_of_ble_eq_true rfl)⟩ (Nat.le_of_ble_eq_true rfl) ?_
      refine a_if_ne 20 dX9_note_14 (by decide) rfl h (fun c8 h => ?_) (fun c8 h => ?_)
      · skip
        refine a_aload_n 0 dX9_note_20 rfl ?_
        refine a_getR (j := 23) dX9_note_21 KX9 rfl (by decide) rfl kf_RX9_60 ?_
        refine a_iload_n 2 dX9_note_24 rfl ?_
        refine a_gd h (fun c9 h => ?_)
        refine a_iald (x' := wi a2) dX9_note_25 rfl rfl c9 rfl ?_
        refine a_istore_n (L' := [(3, vI (σ 72 (wi a2).toNat)), (0, .ref (gP G 55)), (1, vI a1), (2, vI a2)]) dX9_note_26 (by decide) rfl ?_
        refine a_aload_n 1 dX9_note_27 rfl ?_
        refine a_getR (j := 22) dX9_note_28 KX9 rfl (by decide) rfl kf_RX9_57 ?_
        refine a_iload_n 3 dX9_note_31 rfl ?_
        refine a_gd h (fun c10 h => ?_)
        refine a_iald (x' := wi a2) dX9_note_32 rfl rfl c10 rfl ?_
        refine a_istore (L' := [(4, vI (σ 71 (wi a2).toNat)), (3, vI (σ 72 (wi a2).toNat)), (0, .ref (gP G 55)), (1, vI a1), (2, vI a2)]) dX9_note_33 (by decide) rfl ?_
        refine a_aload_n 2 dX9_note_35 rfl ?_
        refine a_iload_n 4 dX9_note_36 rfl ?_
        refine a_iload 0 dX9_note_37 rfl ?_
        refine bp_s h (fun r11 e12 h => ?_)
        refine a_callVI dX9_note_39 mX9_goodOf KX9 rfl kv_X9_goodOf ks_X9_goodOf rfl km_RX9_168 rfl (T_X9_goodOf e12) (fun _ => rfl) rfl (Nat.le_of_ble_eq_true rfl) (Nat.le_of_ble_eq_true rfl) ⟨(Nat.le_of_ble_eq_true rfl), (Nat.le_of_ble_eq_true rfl)⟩ (Nat.le_of_ble_eq_true rfl) ?_
        refine a_istore (L' := [(5, vI r11), (4, vI (σ 71 (wi a2).toNat)), (3, vI (σ 72 (wi a2).toNat)), (0, .ref (gP G 55)), (1, vI a1), (2, vI a2)]) dX9_note_42 (by decide) rfl ?_
        refine a_iload_n 4 dX9_note_44 rfl ?_
        refine a_if h (fun c13 h => ?_) (fun c13 h => ?_)
        · skip
          refine a_tsIn (off := 35) 80 dX9_note_45 c13 (by decide) (by decide) (by decide) ?_
          refine a_aload_n 3 dX9_note_80 rfl ?_
          refine a_dupR dX9_note_81 ?_
          refine a_getL (j := 0) dX9_note_82 KX9 rfl (by decide) rfl kf_RX9_297 ?_
          refine a_lconst (z := 1) dX9_note_85 (by decide) ?_
          refine a_ladd dX9_note_86 ?_
          refine a_putL (j := 0) dX9_note_87 KX9 rfl (by decide) rfl rfl rfl kf_RX9_297 ?_
          refine a_iload_n 2 dX9_note_90 rfl ?_
          exact a_iret dX9_note_91 rfl (p_1 h) (p_S (p_2 h))
        · skip
          refine a_if h (fun c14 h => ?_) (fun c14 h => ?_)
          · skip
            refine a_tsIn (off := 47) 92 dX9_note_45 c14 (by decide) (by decide) (by decide) ?_
            refine a_aload_n 3 dX9_note_92 rfl ?_
            refine a_dupR dX9_note_93 ?_
            refine a_getL (j := 0) dX9_note_94 KX9 rfl (by decide) rfl kf_RX9_297 ?_
            refine a_ldc2 (z := 11) dX9_note_97 kc_RX9_301 (by decide) ?_
            refine a_ladd dX9_note_100 ?_
            refine a_putL (j := 0) dX9_note_101 KX9 rfl (by decide) rfl rfl rfl kf_RX9_297 ?_
            refine a_iload_n 2 dX9_note_104 rfl ?_
            refine a_iload 1 dX9_note_105 rfl ?_
            refine a_iadd dX9_note_107 ?_
            exact a_iret dX9_note_108 rfl (p_1 h) (p_S (p_2 h))
          · skip
            refine a_if h (fun c15 h => ?_) (fun c15 h => ?_)
            · skip
              refine a_tsIn (off := 64) 109 dX9_note_45 c15 (by decide) (by decide) (by decide) ?_
              refine a_aload_n 3 dX9_note_109 rfl ?_
              refine a_dupR dX9_note_110 ?_
              refine a_getL (j := 0) dX9_note_111 KX9 rfl (by decide) rfl kf_RX9_297 ?_
              refine a_ldc2 (z := 101) dX9_note_114 kc_RX9_303 (by decide) ?_
              refine a_ladd dX9_note_117 ?_
              refine a_putL (j := 0) dX9_note_118 KX9 rfl (by decide) rfl rfl rfl kf_RX9_297 ?_
              refine a_iload_n 2 dX9_note_121 rfl ?_
              refine a_iload 0 dX9_note_122 rfl ?_
              refine a_imul dX9_note_124 ?_
              exact a_iret dX9_note_125 rfl (p_1 h) (p_S (p_2 h))
            · skip
              refine a_if h (fun c16 h => ?_) (fun c16 h => ?_)
              · skip
                refine a_tsIn (off := 81) 126 dX9_note_45 c16 (by decide) (by decide) (by decide) ?_
                refine a_aload_n 3 dX9_note_126 rfl ?_
                refine a_dupR dX9_note_127 ?_
                refine a_getL (j := 0) dX9_note_128 KX9 rfl (by decide) rfl kf_RX9_297 ?_
                refine a_ldc2 (z := 1101) dX9_note_131 kc_RX9_305 (by decide) ?_
                refine a_ladd dX9_note_134 ?_
                refine a_putL (j := 0) dX9_note_135 KX9 rfl (by decide) rfl rfl rfl kf_RX9_297 ?_
                refine a_iload_n 2 dX9_note_138 rfl ?_
                refine a_iload 0 dX9_note_139 rfl ?_
                refine a_imul dX9_note_141 ?_
                refine a_aload_n 3 dX9_note_142 rfl ?_
                refine a_getR (j := 7) dX9_note_143 KX9 rfl (by decide) rfl kf_RX9_26 ?_
                refine a_bipush dX9_note_146 (by decide) ?_
                refine a_aload_n 3 dX9_note_148 rfl ?_
                refine a_getR (j := 8) dX9_note_149 KX9 rfl (by decide) rfl kf_RX9_29 ?_
                refine a_iload_n 5 dX9_note_152 rfl ?_
                refine a_gd h (fun c17 h => ?_)
                refine a_iald (x' := wi a2) dX9_note_153 rfl rfl c17 rfl ?_
                refine a_imul dX9_note_154 ?_
                refine a_bipush dX9_note_155 (by decide) ?_
                refine a_iadd dX9_note_157 ?_
                refine a_iload 1 dX9_note_158 rfl ?_
                refine a_iadd dX9_note_160 ?_
                refine a_gd h (fun c18 h => ?_)
                refine a_iald (x' := wi (((14 * ((sU σ 55 0 ((σ 55 0) + 1101)) 62 (wi a2).toNat)) + 10) + (σ 71 (wi a2).toNat))) dX9_note_161 rfl rfl c18 rfl ?_
                refine a_iadd dX9_note_162 ?_
                exact a_iret dX9_note_163 rfl (p_1 h) (p_S (p_2 h))
              · skip
                refine a_if h (fun c19 h => ?_) (fun c19 h => ?_)
                · skip
                  refine a_tsIn (off := 119) 164 dX9_note_45 c19 (by decide) (by decide) (by decide) ?_
                  refine a_aload_n 3 dX9_note_164 rfl ?_
                  refine a_dupR dX9_note_165 ?_
                  refine a_getL (j := 0) dX9_note_166 KX9 rfl (by decide) rfl kf_RX9_297 ?_
                  refine a_ldc2 (z := 10001) dX9_note_169 kc_RX9_307 (by decide) ?_
                  refine a_ladd dX9_note_172 ?_
                  refine a_putL (j := 0) dX9_note_173 KX9 rfl (by decide) rfl rfl rfl kf_RX9_297 ?_
                  refine a_iload_n 2 dX9_note_176 rfl ?_
                  refine a_iload_n 5 dX9_note_177 rfl ?_
                  refine a_isub dX9_note_178 ?_
                  exact a_iret dX9_note_179 rfl (p_1 h) (p_S (p_2 h))
                · skip
                  refine a_tsOut (v := wi a1) 180 dX9_note_45 rfl (by omega) (by decide) ?_
                  refine a_aload_n 3 dX9_note_180 rfl ?_
                  refine a_dupR dX9_note_181 ?_
                  refine a_getL (j := 0) dX9_note_182 KX9 rfl (by decide) rfl kf_RX9_297 ?_
                  refine a_ldc2 (z := 100011) dX9_note_185 kc_RX9_309 (by decide) ?_
                  refine a_ladd dX9_note_188 ?_
                  refine a_putL (j := 0) dX9_note_189 KX9 rfl (by decide) rfl rfl rfl kf_RX9_297 ?_
                  refine a_iconst dX9_note_192 ?_
                  refine a_iload_n 2 dX9_note_193 rfl ?_
                  refine a_iload 1 dX9_note_194 rfl ?_
                  refine a_iadd dX9_note_196 ?_
                  refine a_imul dX9_note_197 ?_
                  exact a_iret dX9_note_198 rfl (p_1 h) (p_S (p_2 h))
      · skip
        have hh := hK4 _ h
        exact a_sub [] rfl hh

def X9_copy (F : Nat) (σ : sM) (a1 a2 : Int) : Option (Int × sM) := if 0 ≤ wi a1 ∧ wi a1 < 3 then if 0 ≤ wi a2 ∧ wi a2 < 3 then if 0 ≤ wi a1 ∧ wi a1 < 3 then if 0 ≤ wi a2 ∧ wi a2 < 3 then nm (sU (sU σ 66 (wi a2).toNat (σ 66 (wi a1).toNat)) 67 (wi a2).toNat (q_z ((sU σ 66 (wi a2).toNat (σ 66 (wi a1).toNat)) 67 (wi a1).toNat))) (fun σ5 => if 0 ≤ wi a1 ∧ wi a1 < 3 then if 0 ≤ wi a2 ∧ wi a2 < 3 then if 0 ≤ wi a1 ∧ wi a1 < 3 then if 0 ≤ wi a2 ∧ wi a2 < 3 then nm (sU (sU σ5 68 (wi a2).toNat (σ5 68 (wi a1).toNat)) 69 (wi a2).toNat ((sU σ5 68 (wi a2).toNat (σ5 68 (wi a1).toNat)) 69 (wi a1).toNat)) (fun σ11 => if 0 ≤ wi a1 ∧ wi a1 < 3 then if 0 ≤ wi a2 ∧ wi a2 < 3 then lp (fun K16 (q15 : sM × Int) => if 3 ≤ wi q15.2 then some (0, q15.1) else if 0 ≤ wi ((3 * a1) + q15.2) ∧ wi ((3 * a1) + q15.2) < 9 then if 0 ≤ wi ((3 * a2) + q15.2) ∧ wi ((3 * a2) + q15.2) < 9 then if 0 ≤ wi ((3 * a1) + q15.2) ∧ wi ((3 * a1) + q15.2) < 9 then if 0 ≤ wi ((3 * a2) + q15.2) ∧ wi ((3 * a2) + q15.2) < 9 then nm (sU (sU q15.1 71 (wi ((3 * a2) + q15.2)).toNat (q15.1 71 (wi ((3 * a1) + q15.2)).toNat)) 72 (wi ((3 * a2) + q15.2)).toNat ((sU q15.1 71 (wi ((3 * a2) + q15.2)).toNat (q15.1 71 (wi ((3 * a1) + q15.2)).toNat)) 72 (wi ((3 * a1) + q15.2)).toNat)) (fun σ22 => if 0 ≤ wi ((3 * a1) + q15.2) ∧ wi ((3 * a1) + q15.2) < 9 then if 0 ≤ wi ((3 * a2) + q15.2) ∧ wi ((3 * a2) + q15.2) < 9 then K16 ((sU σ22 73 (wi ((3 * a2) + q15.2)).toNat (q_z (σ22 73 (wi ((3 * a1) + q15.2)).toNat))), q15.2 + 1) else none else none) else none else none else none else none) F ((sU σ11 70 (wi a2).toNat (σ11 70 (wi a1).toNat)), 0) else none else none) else none else none else none else none) else none else none else none else none
set_option maxRecDepth 100000 in
set_option maxHeartbeats 400000 in
theorem T_X9_copy {G : sG} {q_0 : qT} {x_0 : List Nat} {σ s_0 : sM} {r_0 : Int} {a1 a2 : Int} {F : Nat}  (h : X9_copy F σ a1 a2 = some (r_0, s_0)) : aM G yX9_copy cX9_copy 4 none 0 0 0 [.ref (gP G 55), vI a1, vI a2] (mkSh q_0 x_0, σ) (r_0, (mkSh q_0 x_0, s_0)) := by
  unfold X9_copy at h
  refine aM_of (by decide) (Nat.le_of_ble_eq_true rfl) ?_
  show aW G cX9_copy RX9 "copy" 4 none _ _ aX 0 0 _ [(0, .ref (gP G 55)), (1, vI a1), (2, vI a2)] 0 []
  refine a_aload_n 0 dX9_copy_0 rfl ?_
  refine a_getR (j := 17) dX9_copy_1 KX9 rfl (by decide) rfl kf_RX9_41 ?_
  refine a_iload_n 2 dX9_copy_4 rfl ?_
  refine a_aload_n 0 dX9_copy_5 rfl ?_
  refine a_getR (j := 17) dX9_copy_6 KX9 rfl (by decide) rfl kf_RX9_41 ?_
  refine a_iload_n 1 dX9_copy_9 rfl ?_
  refine a_gd h (fun c1 h => ?_)
  refine a_iald (x' := wi a1) dX9_copy_10 rfl rfl c1 rfl ?_
  refine a_gd h (fun c2 h => ?_)
  refine a_iast (x' := wi a2) dX9_copy_11 rfl rfl c2 rfl ?_
  refine a_aload_n 0 dX9_copy_12 rfl ?_
  refine a_getR (j := 18) dX9_copy_13 KX9 rfl (by decide) rfl kf_RX9_44 ?_
  refine a_iload_n 2 dX9_copy_16 rfl ?_
  refine a_aload_n 0 dX9_copy_17 rfl ?_
  refine a_getR (j := 18) dX9_copy_18 KX9 rfl (by decide) rfl kf_RX9_44 ?_
  refine a_iload_n 1 dX9_copy_21 rfl ?_
  refine a_gd h (fun c3 h => ?_)
  refine a_zald (x' := wi a1) dX9_copy_22 rfl rfl c3 rfl ?_
  refine a_gd h (fun c4 h => ?_)
  refine a_zast (x' := wi a2) dX9_copy_23 rfl rfl c4 rfl ?_
  refine a_nmS h (fun σ5 w6 h => ?_)
  refine a_aload_n 0 dX9_copy_24 rfl ?_
  refine a_getR (j := 19) dX9_copy_25 KX9 rfl (by decide) rfl kf_RX9_48 ?_
  refine a_iload_n 2 dX9_copy_28 rfl ?_
  refine a_aload_n 0 dX9_copy_29 rfl ?_
  refine a_getR (j := 19) dX9_copy_30 KX9 rfl (by decide) rfl kf_RX9_48 ?_
  refine a_iload_n 1 dX9_copy_33 rfl ?_
  refine a_gd h (fun c7 h => ?_)
  refine a_iald (x' := wi a1) dX9_copy_34 rfl rfl c7 rfl ?_
  refine a_gd h (fun c8 h => ?_)
  refine a_iast (x' := wi a2) dX9_copy_35 rfl rfl c8 rfl ?_
  refine a_aload_n 0 dX9_copy_36 rfl ?_
  refine a_getR (j := 20) dX9_copy_37 KX9 rfl (by decide) rfl kf_RX9_51 ?_
  refine a_iload_n 2 dX9_copy_40 rfl ?_
  refine a_aload_n 0 dX9_copy_41 rfl ?_
  refine a_getR (j := 20) dX9_copy_42 KX9 rfl (by decide) rfl kf_RX9_51 ?_
  refine a_iload_n 1 dX9_copy_45 rfl ?_
  refine a_gd h (fun c9 h => ?_)
  refine a_iald (x' := wi a1) dX9_copy_46 rfl rfl c9 rfl ?_
  refine a_gd h (fun c10 h => ?_)
  refine a_iast (x' := wi a2) dX9_copy_47 rfl rfl c10 rfl ?_
  refine a_nmS h (fun σ11 w12 h => ?_)
  refine a_aload_n 0 dX9_copy_48 rfl ?_
  refine a_getR (j := 21) dX9_copy_49 KX9 rfl (by decide) rfl kf_RX9_54 ?_
  refine a_iload_n 2 dX9_copy_52 rfl ?_
  refine a_aload_n 0 dX9_copy_53 rfl ?_
  refine a_getR (j := 21) dX9_copy_54 KX9 rfl (by decide) rfl kf_RX9_54 ?_
  refine a_iload_n 1 dX9_copy_57 rfl ?_
  refine a_gd h (fun c13 h => ?_)
  refine a_iald (x' := wi a1) dX9_copy_58 rfl rfl c13 rfl ?_
  refine a_gd h (fun c14 h => ?_)
  refine a_iast (x' := wi a2) dX9_copy_59 rfl rfl c14 rfl ?_
  refine a_iconst dX9_copy_60 ?_
  refine a_istore_n (L' := [(3, vI 0), (0, .ref (gP G 55)), (1, vI a1), (2, vI a2)]) dX9_copy_61 (by decide) rfl ?_
  refine a_sub (L' := [(0, .ref (gP G 55)), (1, vI a1), (2, vI a2), (3, vI 0)]) [1, 2, 3, 0] rfl (lp_s (x := ((sU σ11 70 (wi a2).toNat (σ11 70 (wi a1).toNat)), 0)) (fun q15 : sM × Int => aW G cX9_copy RX9 "copy" 4 none (sR 0 0 0) (aQ G none 0 0 (r_0, (mkSh q_0 x_0, s_0))) aX 0 0 (mkSh q_0 x_0, q15.1) [(0, .ref (gP G 55)), (1, vI a1), (2, vI a2), (3, vI q15.2)] 62 []) h (fun K16 hK16 q15 h => ?_))
  refine a_iload_n 3 dX9_copy_62 rfl ?_
  refine a_iconst dX9_copy_63 ?_
  refine a_icmp_ge 133 dX9_copy_64 (by decide) rfl (by decide) h (fun c17 h => ?_) (fun c17 h => ?_)
  · skip
    exact a_vret dX9_copy_133 rfl (p_S (p_2 h))
  · skip
    refine a_aload_n 0 dX9_copy_67 rfl ?_
    refine a_getR (j := 22) dX9_copy_68 KX9 rfl (by decide) rfl kf_RX9_57 ?_
    refine a_iconst dX9_copy_71 ?_
    refine a_iload_n 2 dX9_copy_72 rfl ?_
    refine a_imul dX9_copy_73 ?_
    refine a_iload_n 3 dX9_copy_74 rfl ?_
    refine a_iadd dX9_copy_75 ?_
    refine a_aload_n 0 dX9_copy_76 rfl ?_
    refine a_getR (j := 22) dX9_copy_77 KX9 rfl (by decide) rfl kf_RX9_57 ?_
    refine a_iconst dX9_copy_80 ?_
    refine a_iload_n 1 dX9_copy_81 rfl ?_
    refine a_imul dX9_copy_82 ?_
    refine a_iload_n 3 dX9_copy_83 rfl ?_
    refine a_iadd dX9_copy_84 ?_
    refine a_gd h (fun c18 h => ?_)
    refine a_iald (x' := wi ((3 * a1) + q15.2)) dX9_copy_85 rfl rfl c18 rfl ?_
    refine a_gd h (fun c19 h => ?_)
    refine a_iast (x' := wi ((3 * a2) + q15.2)) dX9_copy_86 rfl rfl c19 rfl ?_
    refine a_aload_n 0 dX9_copy_87 rfl ?_
    refine a_getR (j := 23) dX9_copy_88 KX9 rfl (by decide) rfl kf_RX9_60 ?_
    refine a_iconst dX9_copy_91 ?_
    refine a_iload_n 2 dX9_copy_92 rfl ?_
    refine a_imul dX9_copy_93 ?_
    refine a_iload_n 3 dX9_copy_94 rfl ?_
    refine a_iadd dX9_copy_95 ?_
    refine a_aload_n 0 dX9_copy_96 rfl ?_
    refine a_getR (j := 23) dX9_copy_97 KX9 rfl (by decide) rfl kf_RX9_60 ?_
    refine a_iconst dX9_copy_100 ?_
    refine a_iload_n 1 dX9_copy_101 rfl ?_
    refine a_imul dX9_copy_102 ?_
    refine a_iload_n 3 dX9_copy_103 rfl ?_
    refine a_iadd dX9_copy_104 ?_
    refine a_gd h (fun c20 h => ?_)
    refine a_iald (x' := wi ((3 * a1) + q15.2)) dX9_copy_105 rfl rfl c20 rfl ?_
    refine a_gd h (fun c21 h => ?_)
    refine a_iast (x' := wi ((3 * a2) + q15.2)) dX9_copy_106 rfl rfl c21 rfl ?_
    refine a_nmS h (fun σ22 w23 h => ?_)
    refine a_aload_n 0 dX9_copy_107 rfl ?_
    refine a_getR (j := 24) dX9_copy_108 KX9 rfl (by decide) rfl kf_RX9_63 ?_
    refine a_iconst dX9_copy_111 ?_
    refine a_iload_n 2 dX9_copy_112 rfl ?_
    refine a_imul dX9_copy_113 ?_
    refine a_iload_n 3 dX9_copy_114 rfl ?_
    refine a_iadd dX9_copy_115 ?_
    refine a_aload_n 0 dX9_copy_116 rfl ?_
    refine a_getR (j := 24) dX9_copy_117 KX9 rfl (by decide) rfl kf_RX9_63 ?_
    refine a_iconst dX9_copy_120 ?_
    refine a_iload_n 1 dX9_copy_121 rfl ?_
    refine a_imul dX9_copy_122 ?_
    refine a_iload_n 3 dX9_copy_123 rfl ?_
    refine a_iadd dX9_copy_124 ?_
    refine a_gd h (fun c24 h => ?_)
    refine a_zald (x' := wi ((3 * a1) + q15.2)) dX9_copy_125 rfl rfl c24 rfl ?_
    refine a_gd h (fun c25 h => ?_)
    refine a_zast (x' := wi ((3 * a2) + q15.2)) dX9_copy_126 rfl rfl c25 rfl ?_
    refine a_iinc (L' := [(3, vI (q15.2 + 1)), (0, .ref (gP G 55)), (1, vI a1), (2, vI a2)]) 3 dX9_copy_127 rfl (by decide) rfl ?_
    refine a_goto 62 dX9_copy_130 (by decide) ?_
    have hh := hK16 _ h
    exact a_sub [1, 2, 3, 0] rfl hh

def X9_keep (F : Nat) (σ : sM) (a1 : Int) : Option (Int × sM) := bp (X9_in σ a1 0 1) (fun r1 => if ¬ wi r1 = 0 then bn (X9_copy F σ 0 (1 + a1)) (fun r4 σ6 => if 0 ≤ wi a1 ∧ wi a1 < 2 then some ((sU σ6 74 (wi a1).toNat (q_z 1)) 66 0, (sU σ6 74 (wi a1).toNat (q_z 1))) else none) else some ((-1), σ))
set_option maxRecDepth 100000 in
set_option maxHeartbeats 400000 in
theorem T_X9_keep {G : sG} {q_0 : qT} {x_0 : List Nat} {σ s_0 : sM} {r_0 : Int} {a1 : Int} {F : Nat}  (h : X9_keep F σ a1 = some (r_0, s_0)) : aM G yX9_keep cX9_keep 2 (some .int) 1 0 0 [.ref (gP G 55), vI a1] (mkSh q_0 x_0, σ) (r_0, (mkSh q_0 x_0, s_0)) := by
  unfold X9_keep at h
  refine aM_of (by decide) (Nat.le_of_ble_eq_true rfl) ?_
  show aW G cX9_keep RX9 "keep" 2 (some .int) _ _ aX 0 0 _ [(0, .ref (gP G 55)), (1, vI a1)] 0 []
  refine a_iload_n 1 dX9_keep_0 rfl ?_
  refine a_iconst dX9_keep_1 ?_
  refine a_iconst dX9_keep_2 ?_
  refine bp_s h (fun r1 e2 h => ?_)
  refine a_callSI dX9_keep_3 mX9_in kv_X9_in km_RX9_103 rfl (T_X9_in e2) (fun _ => rfl) rfl (Nat.le_of_ble_eq_true rfl) (Nat.le_of_ble_eq_true rfl) ⟨(Nat.le_of_ble_eq_true rfl), (Nat.le_of_ble_eq_true rfl)⟩ (Nat.le_of_ble_eq_true rfl) ?_
  refine a_if_ne 11 dX9_keep_6 (by decide) rfl h (fun c3 h => ?_) (fun c3 h => ?_)
  · skip
    refine a_aload_n 0 dX9_keep_11 rfl ?_
    refine a_iconst dX9_keep_12 ?_
    refine a_iconst dX9_keep_13 ?_
    refine a_iload_n 1 dX9_keep_14 rfl ?_
    refine a_iadd dX9_keep_15 ?_
    refine bn_s h (fun r4 σ6 e5 h => ?_)
    refine a_callVV dX9_keep_16 mX9_copy KX9 rfl kv_X9_copy ks_X9_copy rfl km_RX9_311 rfl (T_X9_copy e5) (fun _ => rfl) rfl (Nat.le_of_ble_eq_true rfl) (Nat.le_of_ble_eq_true rfl) ⟨(Nat.le_of_ble_eq_true rfl), (Nat.le_of_ble_eq_true rfl)⟩ (Nat.le_of_ble_eq_true rfl) ?_
    refine a_aload_n 0 dX9_keep_19 rfl ?_
    refine a_getR (j := 25) dX9_keep_20 KX9 rfl (by decide) rfl kf_RX9_66 ?_
    refine a_iload_n 1 dX9_keep_23 rfl ?_
    refine a_iconst dX9_keep_24 ?_
    refine a_gd h (fun c7 h => ?_)
    refine a_zast (x' := wi a1) dX9_keep_25 rfl rfl c7 rfl ?_
    refine a_aload_n 0 dX9_keep_26 rfl ?_
    refine a_getR (j := 17) dX9_keep_27 KX9 rfl (by decide) rfl kf_RX9_41 ?_
    refine a_iconst dX9_keep_30 ?_
    refine a_iald (x' := 0) dX9_keep_31 rfl (by decide) (by decide) rfl ?_
    exact a_iret dX9_keep_32 rfl (p_1 h) (p_S (p_2 h))
  · skip
    refine a_iconst dX9_keep_9 ?_
    exact a_iret dX9_keep_10 rfl (p_1 h) (p_S (p_2 h))

def X9_back (F : Nat) (σ : sM) (a1 : Int) : Option (Int × sM) := bp (X9_in σ a1 0 1) (fun r1 => if ¬ wi r1 = 0 then if 0 ≤ wi a1 ∧ wi a1 < 2 then if ¬ wi (σ 74 (wi a1).toNat) = 0 then bn (X9_copy F σ (1 + a1) 0) (fun r6 σ8 => some (σ8 66 0, σ8)) else some ((-2), σ) else none else some ((-1), σ))
set_option maxRecDepth 100000 in
set_option maxHeartbeats 400000 in
theorem T_X9_back {G : sG} {q_0 : qT} {x_0 : List Nat} {σ s_0 : sM} {r_0 : Int} {a1 : Int} {F : Nat}  (h : X9_back F σ a1 = some (r_0, s_0)) : aM G yX9_back cX9_back 2 (some .int) 1 0 0 [.ref (gP G 55), vI a1] (mkSh q_0 x_0, σ) (r_0, (mkSh q_0 x_0, s_0)) := by
  unfold X9_back at h
  refine aM_of (by decide) (Nat.le_of_ble_eq_true rfl) ?_
  show aW G cX9_back RX9 "back" 2 (some .int) _ _ aX 0 0 _ [(0, .ref (gP G 55)), (1, vI a1)] 0 []
  refine a_iload_n 1 dX9_back_0 rfl ?_
  refine a_iconst dX9_back_1 ?_
  refine a_iconst dX9_back_2 ?_
  refine bp_s h (fun r1 e2 h => ?_)
  refine a_callSI dX9_back_3 mX9_in kv_X9_in km_RX9_103 rfl (T_X9_in e2) (fun _ => rfl) rfl (Nat.le_of_ble_eq_true rfl) (Nat.le_of_ble_eq_true rfl) ⟨(Nat.le_of_ble_eq_true rfl), (Nat.le_of_ble_eq_true rfl)⟩ (Nat.le_of_ble_eq_true rfl) ?_
  refine a_if_ne 11 dX9_back_6 (by decide) rfl h (fun c3 h => ?_) (fun c3 h => ?_)
  · skip
    refine a_aload_n 0 dX9_back_11 rfl ?_
    refine a_getR (j := 25) dX9_back_12 KX9 rfl (by decide) rfl kf_RX9_66 ?_
    refine a_iload_n 1 dX9_back_15 rfl ?_
    refine a_gd h (fun c4 h => ?_)
    refine a_zald (x' := wi a1) dX9_back_16 rfl rfl c4 rfl ?_
    refine a_if_ne 23 dX9_back_17 (by decide) rfl h (fun c5 h => ?_) (fun c5 h => ?_)
    · skip
      refine a_aload_n 0 dX9_back_23 rfl ?_
      refine a_iconst dX9_back_24 ?_
      refine a_iload_n 1 dX9_back_25 rfl ?_
      refine a_iadd dX9_back_26 ?_
      refine a_iconst dX9_back_27 ?_
      refine bn_s h (fun r6 σ8 e7 h => ?_)
      refine a_callVV dX9_back_28 mX9_copy KX9 rfl kv_X9_copy ks_X9_copy rfl km_RX9_311 rfl (T_X9_copy e7) (fun _ => rfl) rfl (Nat.le_of_ble_eq_true rfl) (Nat.le_of_ble_eq_true rfl) ⟨(Nat.le_of_ble_eq_true rfl), (Nat.le_of_ble_eq_true rfl)⟩ (Nat.le_of_ble_eq_true rfl) ?_
      refine a_aload_n 0 dX9_back_31 rfl ?_
      refine a_getR (j := 17) dX9_back_32 KX9 rfl (by decide) rfl kf_RX9_41 ?_
      refine a_iconst dX9_back_35 ?_
      refine a_iald (x' := 0) dX9_back_36 rfl (by decide) (by decide) rfl ?_
      exact a_iret dX9_back_37 rfl (p_1 h) (p_S (p_2 h))
    · skip
      refine a_bipush dX9_back_20 (by decide) ?_
      exact a_iret dX9_back_22 rfl (p_1 h) (p_S (p_2 h))
  · skip
    refine a_iconst dX9_back_9 ?_
    exact a_iret dX9_back_10 rfl (p_1 h) (p_S (p_2 h))

def X9_count (σ : sM) (a1 : Int) : Option Int := if wi a1 = 0 then some (σ 57 0) else if wi a1 = 1 then some (σ 58 0) else if wi a1 = 2 then some (σ 59 0) else if wi a1 = 3 then some (σ 60 0) else if wi a1 = 4 then some (σ 55 2) else if wi a1 = 5 then some (σ 55 36) else some (-1)
set_option maxRecDepth 100000 in
set_option maxHeartbeats 400000 in
theorem T_X9_count {G : sG} {q_0 : qT} {x_0 : List Nat} {σ : sM} {r_0 : Int} {a1 : Int}  (h : X9_count σ a1 = some r_0) : aM G yX9_count cX9_count 2 (some .int) 0 0 0 [.ref (gP G 55), vI a1] (mkSh q_0 x_0, σ) (r_0, (mkSh q_0 x_0, σ)) := by
  unfold X9_count at h
  refine aM_of (by decide) (Nat.le_of_ble_eq_true rfl) ?_
  show aW G cX9_count RX9 "count" 2 (some .int) _ _ aX 0 0 _ [(0, .ref (gP G 55)), (1, vI a1)] 0 []
  refine a_iload_n 1 dX9_count_0 rfl ?_
  refine a_if h (fun c1 h => ?_) (fun c1 h => ?_)
  · skip
    refine a_tsIn (off := 39) 40 dX9_count_1 c1 (by decide) (by decide) (by decide) ?_
    refine a_aload_n 0 dX9_count_40 rfl ?_
    refine a_getR (j := 3) dX9_count_41 KX9 rfl (by decide) rfl kf_RX9_13 ?_
    refine a_iconst dX9_count_44 ?_
    refine a_iald (x' := 0) dX9_count_45 rfl (by decide) (by decide) rfl ?_
    exact a_iret dX9_count_46 rfl (s_inj h) rfl
  · skip
    refine a_if h (fun c2 h => ?_) (fun c2 h => ?_)
    · skip
      refine a_tsIn (off := 46) 47 dX9_count_1 c2 (by decide) (by decide) (by decide) ?_
      refine a_aload_n 0 dX9_count_47 rfl ?_
      refine a_getR (j := 4) dX9_count_48 KX9 rfl (by decide) rfl kf_RX9_17 ?_
      refine a_iconst dX9_count_51 ?_
      refine a_iald (x' := 0) dX9_count_52 rfl (by decide) (by decide) rfl ?_
      exact a_iret dX9_count_53 rfl (s_inj h) rfl
    · skip
      refine a_if h (fun c3 h => ?_) (fun c3 h => ?_)
      · skip
        refine a_tsIn (off := 53) 54 dX9_count_1 c3 (by decide) (by decide) (by decide) ?_
        refine a_aload_n 0 dX9_count_54 rfl ?_
        refine a_getR (j := 5) dX9_count_55 KX9 rfl (by decide) rfl kf_RX9_20 ?_
        refine a_iconst dX9_count_58 ?_
        refine a_iald (x' := 0) dX9_count_59 rfl (by decide) (by decide) rfl ?_
        exact a_iret dX9_count_60 rfl (s_inj h) rfl
      · skip
        refine a_if h (fun c4 h => ?_) (fun c4 h => ?_)
        · skip
          refine a_tsIn (off := 60) 61 dX9_count_1 c4 (by decide) (by decide) (by decide) ?_
          refine a_aload_n 0 dX9_count_61 rfl ?_
          refine a_getR (j := 6) dX9_count_62 KX9 rfl (by decide) rfl kf_RX9_23 ?_
          refine a_iconst dX9_count_65 ?_
          refine a_iald (x' := 0) dX9_count_66 rfl (by decide) (by decide) rfl ?_
          exact a_iret dX9_count_67 rfl (s_inj h) rfl
        · skip
          refine a_if h (fun c5 h => ?_) (fun c5 h => ?_)
          · skip
            refine a_tsIn (off := 67) 68 dX9_count_1 c5 (by decide) (by decide) (by decide) ?_
            refine a_aload_n 0 dX9_count_68 rfl ?_
            refine a_getI (j := 2) dX9_count_69 KX9 rfl (by decide) rfl kf_RX9_107 ?_
            exact a_iret dX9_count_72 rfl (s_inj h) rfl
          · skip
            refine a_if h (fun c6 h => ?_) (fun c6 h => ?_)
            · skip
              refine a_tsIn (off := 72) 73 dX9_count_1 c6 (by decide) (by decide) (by decide) ?_
              refine a_aload_n 0 dX9_count_73 rfl ?_
              refine a_getI (j := 36) dX9_count_74 KX9 rfl (by decide) rfl kf_RX9_289 ?_
              exact a_iret dX9_count_77 rfl (s_inj h) rfl
            · skip
              refine a_tsOut (v := wi a1) 78 dX9_count_1 rfl (by omega) (by decide) ?_
              refine a_iconst dX9_count_78 ?_
              exact a_iret dX9_count_79 rfl (s_inj h) rfl

def X9_trace (σ : sM) : Option Int := some (σ 55 0)
set_option maxRecDepth 100000 in
set_option maxHeartbeats 400000 in
theorem T_X9_trace {G : sG} {q_0 : qT} {x_0 : List Nat} {σ : sM} {r_0 : Int}  (h : X9_trace σ = some r_0) : aM G yX9_trace cX9_trace 1 (some .long) 0 0 0 [.ref (gP G 55)] (mkSh q_0 x_0, σ) (r_0, (mkSh q_0 x_0, σ)) := by
  unfold X9_trace at h
  refine aM_of (by decide) (Nat.le_of_ble_eq_true rfl) ?_
  show aW G cX9_trace RX9 "trace" 1 (some .long) _ _ aX 0 0 _ [(0, .ref (gP G 55))] 0 []
  refine a_aload_n 0 dX9_trace_0 rfl ?_
  refine a_getL (j := 0) dX9_trace_1 KX9 rfl (by decide) rfl kf_RX9_297 ?_
  exact a_lret dX9_trace_4 rfl (s_inj h) rfl

def J7_fill_53178 (F : Nat) (o0 o0n : Nat) (σ : sM) (a1 : Int) : Option (Int × sM) := lp (fun K2 (q1 : sM × Int) => if wi (o0n : Int) ≤ wi q1.2 then some (0, q1.1) else if 0 ≤ wi q1.2 ∧ wi q1.2 < o0n then K2 ((sU q1.1 o0 (wi q1.2).toNat a1), q1.2 + 1) else none) F (σ, 0)
set_option maxRecDepth 100000 in
set_option maxHeartbeats 400000 in
theorem T_J7_fill_53178 {G : sG} {q_0 : qT} {x_0 : List Nat} {σ s_0 : sM} {r_0 : Int} {a1 : Int} {o0 o0n : Nat} {F : Nat} (h_o0 : (mkSh q_0 x_0)[o0]? = some (.inr (.int, o0n, gN))) (h : J7_fill_53178 F o0 o0n σ a1 = some (r_0, s_0)) : aM G yJ7_fill_53178 cJ7_fill_53178 4 none 0 0 0 [.ref (gP G o0), vI a1] (mkSh q_0 x_0, σ) (r_0, (mkSh q_0 x_0, s_0)) := by
  unfold J7_fill_53178 at h
  refine aM_of (by decide) (Nat.le_of_ble_eq_true rfl) ?_
  show aW G cJ7_fill_53178 RJ7 "fill" 4 none _ _ aX 0 0 _ [(0, .ref (gP G o0)), (1, vI a1)] 0 []
  refine a_iconst dJ7_fill_53178_0 ?_
  refine a_istore_n (L' := [(2, vI 0), (0, .ref (gP G o0)), (1, vI a1)]) dJ7_fill_53178_1 (by decide) rfl ?_
  refine a_aload_n 1 dJ7_fill_53178_2 rfl ?_
  refine a_alen dJ7_fill_53178_3 h_o0 ?_
  refine a_istore_n (L' := [(3, vI (o0n : Int)), (2, vI 0), (0, .ref (gP G o0)), (1, vI a1)]) dJ7_fill_53178_4 (by decide) rfl ?_
  refine a_sub (L' := [(0, .ref (gP G o0)), (1, vI a1), (2, vI 0), (3, vI (o0n : Int))]) [2, 3, 1, 0] rfl (lp_s (x := (σ, 0)) (fun q1 : sM × Int => aW G cJ7_fill_53178 RJ7 "fill" 4 none (sR 0 0 0) (aQ G none 0 0 (r_0, (mkSh q_0 x_0, s_0))) aX 0 0 (mkSh q_0 x_0, q1.1) [(0, .ref (gP G o0)), (1, vI a1), (2, vI q1.2), (3, vI (o0n : Int))] 5 []) h (fun K2 hK2 q1 h => ?_))
  refine a_iload_n 2 dJ7_fill_53178_5 rfl ?_
  refine a_iload_n 3 dJ7_fill_53178_6 rfl ?_
  refine a_icmp_ge 20 dJ7_fill_53178_7 (by decide) rfl rfl h (fun c3 h => ?_) (fun c3 h => ?_)
  · skip
    exact a_vret dJ7_fill_53178_20 rfl (p_S (p_2 h))
  · skip
    refine a_aload_n 0 dJ7_fill_53178_10 rfl ?_
    refine a_iload_n 2 dJ7_fill_53178_11 rfl ?_
    refine a_iload_n 1 dJ7_fill_53178_12 rfl ?_
    refine a_gd h (fun c4 h => ?_)
    refine a_iast (x' := wi q1.2) dJ7_fill_53178_13 h_o0 rfl c4 rfl ?_
    refine a_iinc (L' := [(2, vI (q1.2 + 1)), (0, .ref (gP G o0)), (1, vI a1), (3, vI (o0n : Int))]) 2 dJ7_fill_53178_14 rfl (by decide) rfl ?_
    refine a_goto 5 dJ7_fill_53178_17 (by decide) ?_
    have hh := hK2 _ h
    exact a_sub [1, 2, 0, 3] rfl hh

def X0_tellMeansOfCut (F : Nat) (σ : sM) (a1 a2 a3 : Int) : Option (Int × sM) := bp (X1_sortOf σ a1) (fun r1 => bn (X5_becomeLike 40 38 σ) (fun r3 σ5 => lp (fun K7 (q6 : sM × Int) => if wi (q6.1 2 7) ≤ wi q6.2 then some (0, q6.1) else bp (X0_meanPlace q6.1 a1 a2 q6.2) (fun r9 => bp (X5_total 40 q6.1) (fun r11 => jn (fun q13 : sM => jn (fun q15 : sM => K7 (q15, q6.2 + 1)) (fun K16 => if wi a3 = 0 then K16 q13 else bn (X5_weekGoesBy F 40 q13 r1 1 q6.2) (fun r18 σ20 => K16 σ20))) (fun K14 => if wi r9 < 0 then K14 q6.1 else if 192 ≤ wi r9 then K14 q6.1 else if wi (q_lcmp r11 0) ≤ 0 then K14 q6.1 else bp (X5_allGood F 40 q6.1 r1) (fun r24 => if ¬ wl r11 = 0 then if 0 ≤ wi r9 ∧ wi r9 < 192 then K14 (sU q6.1 42 (wi r9).toNat (q_ldiv (1000 * r24) r11)) else none else none))))) F (σ5, a2)))
set_option maxRecDepth 100000 in
set_option maxHeartbeats 400000 in
theorem T_X0_tellMeansOfCut {G : sG} {q_0 : qT} {x_0 : List Nat} {σ s_0 : sM} {r_0 : Int} {a1 a2 a3 : Int} {F : Nat}  (h : X0_tellMeansOfCut F σ a1 a2 a3 = some (r_0, s_0)) : aM G yX0_tellMeansOfCut cX0_tellMeansOfCut 9 none 3 0 0 [.ref (gP G 37), vI a1, vI a2, vI a3] (mkSh q_0 x_0, σ) (r_0, (mkSh q_0 x_0, s_0)) := by
  unfold X0_tellMeansOfCut at h
  refine aM_of (by decide) (Nat.le_of_ble_eq_true rfl) ?_
  show aW G cX0_tellMeansOfCut RX0 "tellMeansOfCut" 9 none _ _ aX 0 0 _ [(0, .ref (gP G 37)), (1, vI a1), (2, vI a2), (3, vI a3)] 0 []
  refine a_aload_n 0 dX0_tellMeansOfCut_0 rfl ?_
  refine a_getR (j := 0) dX0_tellMeansOfCut_1 KX0 rfl (by decide) rfl kf_RX0_63 ?_
  refine a_iload_n 1 dX0_tellMeansOfCut_4 rfl ?_
  refine bp_s h (fun r1 e2 h => ?_)
  refine a_callVI dX0_tellMeansOfCut_5 mX1_sortOf KX1 rfl kv_X1_sortOf ks_X1_sortOf rfl km_RX0_137 rfl (T_X1_sortOf e2) (fun _ => rfl) rfl (Nat.le_of_ble_eq_true rfl) (Nat.le_of_ble_eq_true rfl) ⟨(Nat.le_of_ble_eq_true rfl), (Nat.le_of_ble_eq_true rfl)⟩ (Nat.le_of_ble_eq_true rfl) ?_
  refine a_istore (L' := [(4, vI r1), (0, .ref (gP G 37)), (1, vI a1), (2, vI a2), (3, vI a3)]) dX0_tellMeansOfCut_8 (by decide) rfl ?_
  refine a_aload_n 1 dX0_tellMeansOfCut_10 rfl ?_
  refine a_getR (j := 2) dX0_tellMeansOfCut_11 KX0 rfl (by decide) rfl kf_RX0_18 ?_
  refine a_aload_n 1 dX0_tellMeansOfCut_14 rfl ?_
  refine a_getR (j := 1) dX0_tellMeansOfCut_15 KX0 rfl (by decide) rfl kf_RX0_12 ?_
  refine bn_s h (fun r3 σ5 e4 h => ?_)
  refine a_callVV dX0_tellMeansOfCut_18 mX5_becomeLike KX5 rfl kv_X5_becomeLike ks_X5_becomeLike rfl km_RX0_145 rfl (T_X5_becomeLike rfl rfl rfl rfl e4) (fun _ => rfl) rfl (Nat.le_of_ble_eq_true rfl) (Nat.le_of_ble_eq_true rfl) ⟨(Nat.le_of_ble_eq_true rfl), (Nat.le_of_ble_eq_true rfl)⟩ (Nat.le_of_ble_eq_true rfl) ?_
  refine a_iload_n 3 dX0_tellMeansOfCut_21 rfl ?_
  refine a_istore (L' := [(5, vI a2), (4, vI r1), (0, .ref (gP G 37)), (1, vI a1), (2, vI a2), (3, vI a3)]) dX0_tellMeansOfCut_22 (by decide) rfl ?_
  refine a_sub (L' := [(0, .ref (gP G 37)), (1, vI a1), (2, vI a2), (3, vI a3), (4, vI r1), (5, vI a2)]) [2, 3, 4, 5, 1, 0] rfl (lp_s (x := (σ5, a2)) (fun q6 : sM × Int => aW G cX0_tellMeansOfCut RX0 "tellMeansOfCut" 9 none (sR 3 0 0) (aQ G none 0 0 (r_0, (mkSh q_0 x_0, s_0))) aX 0 0 (mkSh q_0 x_0, q6.1) [(0, .ref (gP G 37)), (1, vI a1), (2, vI a2), (3, vI a3), (4, vI r1), (5, vI q6.2)] 24 []) h (fun K7 hK7 q6 h => ?_))
  refine a_iload 5 dX0_tellMeansOfCut_24 rfl ?_
  refine a_aload_n 0 dX0_tellMeansOfCut_26 rfl ?_
  refine a_getR (j := 0) dX0_tellMeansOfCut_27 KX0 rfl (by decide) rfl kf_RX0_63 ?_
  refine a_getIN (j := 7) dX0_tellMeansOfCut_30 KX1 rfl (by decide) rfl kf_RX0_81 ?_
  refine a_icmp_ge 130 dX0_tellMeansOfCut_33 (by decide) rfl rfl h (fun c8 h => ?_) (fun c8 h => ?_)
  · skip
    exact a_vret dX0_tellMeansOfCut_130 rfl (p_S (p_2 h))
  · skip
    refine a_iload_n 1 dX0_tellMeansOfCut_36 rfl ?_
    refine a_iload_n 2 dX0_tellMeansOfCut_37 rfl ?_
    refine a_iload 5 dX0_tellMeansOfCut_38 rfl ?_
    refine bp_s h (fun r9 e10 h => ?_)
    refine a_callSI dX0_tellMeansOfCut_40 mX0_meanPlace kv_X0_meanPlace km_RX0_112 rfl (T_X0_meanPlace e10) (fun _ => rfl) rfl (Nat.le_of_ble_eq_true rfl) (Nat.le_of_ble_eq_true rfl) ⟨(Nat.le_of_ble_eq_true rfl), (Nat.le_of_ble_eq_true rfl)⟩ (Nat.le_of_ble_eq_true rfl) ?_
    refine a_istore (L' := [(6, vI r9), (0, .ref (gP G 37)), (1, vI a1), (2, vI a2), (3, vI a3), (4, vI r1), (5, vI q6.2)]) dX0_tellMeansOfCut_43 (by decide) rfl ?_
    refine a_aload_n 1 dX0_tellMeansOfCut_45 rfl ?_
    refine a_getR (j := 2) dX0_tellMeansOfCut_46 KX0 rfl (by decide) rfl kf_RX0_18 ?_
    refine bp_s h (fun r11 e12 h => ?_)
    refine a_callVL dX0_tellMeansOfCut_49 mX5_total KX5 rfl kv_X5_total ks_X5_total rfl km_RX0_149 rfl (T_X5_total rfl rfl e12) (fun _ => rfl) rfl (Nat.le_of_ble_eq_true rfl) (Nat.le_of_ble_eq_true rfl) ⟨(Nat.le_of_ble_eq_true rfl), (Nat.le_of_ble_eq_true rfl)⟩ (Nat.le_of_ble_eq_true rfl) ?_
    refine a_lstore (L' := [(7, vL r11), (6, vI r9), (0, .ref (gP G 37)), (1, vI a1), (2, vI a2), (3, vI a3), (4, vI r1), (5, vI q6.2)]) dX0_tellMeansOfCut_52 (by decide) rfl ?_
    refine a_iload 1 dX0_tellMeansOfCut_54 rfl ?_
    refine jn_s (fun q13 : sM => aW G cX0_tellMeansOfCut RX0 "tellMeansOfCut" 9 none (sR 3 0 0) (aQ G none 0 0 (r_0, (mkSh q_0 x_0, s_0))) aX 0 0 (mkSh q_0 x_0, q13) [(0, .ref (gP G 37)), (1, vI a1), (2, vI a2), (3, vI a3), (4, vI r1), (5, vI q6.2)] 104 []) h (fun q13 h => ?_) (fun K14 hK14 h => ?_)
    · skip
      refine a_iload_n 3 dX0_tellMeansOfCut_104 rfl ?_
      refine jn_s (fun q15 : sM => aW G cX0_tellMeansOfCut RX0 "tellMeansOfCut" 9 none (sR 3 0 0) (aQ G none 0 0 (r_0, (mkSh q_0 x_0, s_0))) aX 0 0 (mkSh q_0 x_0, q15) [(0, .ref (gP G 37)), (1, vI a1), (2, vI a2), (3, vI a3), (4, vI r1), (5, vI q6.2)] 124 []) h (fun q15 h => ?_) (fun K16 hK16 h => ?_)
      · skip
        refine a_iinc (L' := [(5, vI (q6.2 + 1)), (0, .ref (gP G 37)), (1, vI a1), (2, vI a2), (3, vI a3), (4, vI r1)]) 5 dX0_tellMeansOfCut_124 rfl (by decide) rfl ?_
        refine a_goto 24 dX0_tellMeansOfCut_127 (by decide) ?_
        have hh := hK7 _ h
        exact a_sub [1, 2, 3, 4, 5, 0] rfl hh
      · skip
        refine a_if_eq 124 dX0_tellMeansOfCut_105 (by decide) rfl h (fun c17 h => ?_) (fun c17 h => ?_)
        · skip
          have hh := hK16 _ h
          exact a_sub [0, 1, 2, 3, 4, 5] rfl hh
        · skip
          refine a_aload_n 0 dX0_tellMeansOfCut_108 rfl ?_
          refine a_getR (j := 2) dX0_tellMeansOfCut_109 KX0 rfl (by decide) rfl kf_RX0_18 ?_
          refine a_aload_n 0 dX0_tellMeansOfCut_112 rfl ?_
          refine a_getR (j := 0) dX0_tellMeansOfCut_113 KX0 rfl (by decide) rfl kf_RX0_63 ?_
          refine a_iload 4 dX0_tellMeansOfCut_116 rfl ?_
          refine a_iconst dX0_tellMeansOfCut_118 ?_
          refine a_iload 5 dX0_tellMeansOfCut_119 rfl ?_
          refine bn_s h (fun r18 σ20 e19 h => ?_)
          refine a_callVV dX0_tellMeansOfCut_121 mX5_weekGoesBy KX5 rfl kv_X5_weekGoesBy ks_X5_weekGoesBy rfl km_RX0_141 rfl (T_X5_weekGoesBy rfl rfl e19) (fun _ => rfl) rfl (Nat.le_of_ble_eq_true rfl) (Nat.le_of_ble_eq_true rfl) ⟨(Nat.le_of_ble_eq_true rfl), (Nat.le_of_ble_eq_true rfl)⟩ (Nat.le_of_ble_eq_true rfl) ?_
          have hh := hK16 _ h
          exact a_sub [0, 1, 2, 3, 4, 5] rfl hh
    · skip
      refine a_if_lt 104 dX0_tellMeansOfCut_56 (by decide) rfl h (fun c21 h => ?_) (fun c21 h => ?_)
      · skip
        have hh := hK14 _ h
        exact a_sub [2, 3, 4, 5, 6, 7] rfl hh
      · skip
        refine a_iload 1 dX0_tellMeansOfCut_59 rfl ?_
        refine a_aload_n 2 dX0_tellMeansOfCut_61 rfl ?_
        refine a_getR (j := 3) dX0_tellMeansOfCut_62 KX0 rfl (by decide) rfl kf_RX0_21 ?_
        refine a_alen dX0_tellMeansOfCut_65 rfl ?_
        refine a_icmp_ge 104 dX0_tellMeansOfCut_66 (by decide) rfl (by decide) h (fun c22 h => ?_) (fun c22 h => ?_)
        · skip
          have hh := hK14 _ h
          exact a_sub [2, 3, 4, 5, 6, 7] rfl hh
        · skip
          refine a_lload 0 dX0_tellMeansOfCut_69 rfl ?_
          refine a_lconst (z := 0) dX0_tellMeansOfCut_71 (by decide) ?_
          refine a_lcmp dX0_tellMeansOfCut_72 ?_
          refine a_if_le 104 dX0_tellMeansOfCut_73 (by decide) rfl h (fun c23 h => ?_) (fun c23 h => ?_)
          · skip
            have hh := hK14 _ h
            exact a_sub [2, 3, 4, 5, 6, 7] rfl hh
          · skip
            refine a_aload_n 2 dX0_tellMeansOfCut_76 rfl ?_
            refine a_getR (j := 3) dX0_tellMeansOfCut_77 KX0 rfl (by decide) rfl kf_RX0_21 ?_
            refine a_iload 1 dX0_tellMeansOfCut_80 rfl ?_
            refine a_ldc2 (z := 1000) dX0_tellMeansOfCut_82 kc_RX0_153 (by decide) ?_
            refine a_aload_n 2 dX0_tellMeansOfCut_85 rfl ?_
            refine a_getR (j := 2) dX0_tellMeansOfCut_86 KX0 rfl (by decide) rfl kf_RX0_18 ?_
            refine a_aload_n 2 dX0_tellMeansOfCut_89 rfl ?_
            refine a_getR (j := 0) dX0_tellMeansOfCut_90 KX0 rfl (by decide) rfl kf_RX0_63 ?_
            refine a_iload 6 dX0_tellMeansOfCut_93 rfl ?_
            refine bp_s h (fun r24 e25 h => ?_)
            refine a_callVL dX0_tellMeansOfCut_95 mX5_allGood KX5 rfl kv_X5_allGood ks_X5_allGood rfl km_RX0_155 rfl (T_X5_allGood rfl rfl e25) (fun _ => rfl) rfl (Nat.le_of_ble_eq_true rfl) (Nat.le_of_ble_eq_true rfl) ⟨(Nat.le_of_ble_eq_true rfl), (Nat.le_of_ble_eq_true rfl)⟩ (Nat.le_of_ble_eq_true rfl) ?_
            refine a_lmul dX0_tellMeansOfCut_98 ?_
            refine a_lload 0 dX0_tellMeansOfCut_99 rfl ?_
            refine a_gd h (fun c26 h => ?_)
            refine a_ldiv dX0_tellMeansOfCut_101 (nz_l c26) ?_
            refine a_l2i dX0_tellMeansOfCut_102 ?_
            refine a_gd h (fun c27 h => ?_)
            refine a_iast (x' := wi r9) dX0_tellMeansOfCut_103 rfl rfl c27 rfl ?_
            have hh := hK14 _ h
            exact a_sub [2, 3, 4, 5, 6, 7] rfl hh

def X0_tellMost (F : Nat) (σ : sM) : Option (Int × sM) := bn (J7_fill_53178 F 43 9 σ 0) (fun r1 σ3 => lp (fun K5 (q4 : sM × Int) => if wi q4.2 < 0 then some (0, q4.1) else lp (fun K8 (q7 : Int × Int) => if wi q4.2 < wi q7.2 then if 0 ≤ wi (q4.2 + 1) ∧ wi (q4.2 + 1) < 9 then if 0 ≤ wi q4.2 ∧ wi q4.2 < 9 then K5 ((sU q4.1 43 (wi q4.2).toNat ((q4.1 43 (wi (q4.2 + 1)).toNat) + q7.1)), q4.2 + (-1)) else none else none else lp (fun K13 (q12 : Int × Int) => if 3 ≤ wi q12.2 then K8 (q12.1, q7.2 + 1) else bp (X0_meanAt q4.1 q12.2 q7.2 q4.2) (fun r15 => K13 ((if wi q12.1 < wi r15 then r15 else q12.1), q12.2 + 1))) F (q7.1, 0)) F (0, 0)) F (σ3, 7))
set_option maxRecDepth 100000 in
set_option maxHeartbeats 400000 in
theorem T_X0_tellMost {G : sG} {q_0 : qT} {x_0 : List Nat} {σ s_0 : sM} {r_0 : Int} {F : Nat}  (h : X0_tellMost F σ = some (r_0, s_0)) : aM G yX0_tellMost cX0_tellMost 5 none 2 0 0 [.ref (gP G 37)] (mkSh q_0 x_0, σ) (r_0, (mkSh q_0 x_0, s_0)) := by
  unfold X0_tellMost at h
  refine aM_of (by decide) (Nat.le_of_ble_eq_true rfl) ?_
  show aW G cX0_tellMost RX0 "tellMost" 5 none _ _ aX 0 0 _ [(0, .ref (gP G 37))] 0 []
  refine a_aload_n 0 dX0_tellMost_0 rfl ?_
  refine a_getR (j := 4) dX0_tellMost_1 KX0 rfl (by decide) rfl kf_RX0_25 ?_
  refine a_iconst dX0_tellMost_4 ?_
  refine bn_s h (fun r1 σ3 e2 h => ?_)
  refine a_callSV dX0_tellMost_5 mJ7_fill_53178 kv_J7_fill_53178 km_RX0_92 rfl (T_J7_fill_53178 rfl e2) (fun _ => rfl) rfl (Nat.le_of_ble_eq_true rfl) (Nat.le_of_ble_eq_true rfl) ⟨(Nat.le_of_ble_eq_true rfl), (Nat.le_of_ble_eq_true rfl)⟩ (Nat.le_of_ble_eq_true rfl) ?_
  refine a_bipush dX0_tellMost_8 (by decide) ?_
  refine a_istore_n (L' := [(1, vI 7), (0, .ref (gP G 37))]) dX0_tellMost_10 (by decide) rfl ?_
  refine a_sub (L' := [(0, .ref (gP G 37)), (1, vI 7)]) [1, 0] rfl (lp_s (x := (σ3, 7)) (fun q4 : sM × Int => aW G cX0_tellMost RX0 "tellMost" 5 none (sR 2 0 0) (aQ G none 0 0 (r_0, (mkSh q_0 x_0, s_0))) aX 0 0 (mkSh q_0 x_0, q4.1) [(0, .ref (gP G 37)), (1, vI q4.2)] 11 []) h (fun K5 hK5 q4 h => ?_))
  refine a_iload_n 1 dX0_tellMost_11 rfl ?_
  refine a_if_lt 80 dX0_tellMost_12 (by decide) rfl h (fun c6 h => ?_) (fun c6 h => ?_)
  · skip
    exact a_vret dX0_tellMost_80 rfl (p_S (p_2 h))
  · skip
    refine a_iconst dX0_tellMost_15 ?_
    refine a_istore_n (L' := [(2, vI 0), (0, .ref (gP G 37)), (1, vI q4.2)]) dX0_tellMost_16 (by decide) rfl ?_
    refine a_iconst dX0_tellMost_17 ?_
    refine a_istore_n (L' := [(3, vI 0), (2, vI 0), (0, .ref (gP G 37)), (1, vI q4.2)]) dX0_tellMost_18 (by decide) rfl ?_
    refine a_sub (L' := [(0, .ref (gP G 37)), (1, vI q4.2), (2, vI 0), (3, vI 0)]) [2, 3, 1, 0] rfl (lp_s (x := (0, 0)) (fun q7 : Int × Int => aW G cX0_tellMost RX0 "tellMost" 5 none (sR 2 0 0) (aQ G none 0 0 (r_0, (mkSh q_0 x_0, s_0))) aX 0 0 (mkSh q_0 x_0, q4.1) [(0, .ref (gP G 37)), (1, vI q4.2), (2, vI q7.1), (3, vI q7.2)] 19 []) h (fun K8 hK8 q7 h => ?_))
    refine a_iload_n 3 dX0_tellMost_19 rfl ?_
    refine a_iload_n 1 dX0_tellMost_20 rfl ?_
    refine a_icmp_gt 58 dX0_tellMost_21 (by decide) rfl rfl h (fun c9 h => ?_) (fun c9 h => ?_)
    · skip
      refine a_aload_n 0 dX0_tellMost_58 rfl ?_
      refine a_getR (j := 4) dX0_tellMost_59 KX0 rfl (by decide) rfl kf_RX0_25 ?_
      refine a_iload_n 1 dX0_tellMost_62 rfl ?_
      refine a_aload_n 0 dX0_tellMost_63 rfl ?_
      refine a_getR (j := 4) dX0_tellMost_64 KX0 rfl (by decide) rfl kf_RX0_25 ?_
      refine a_iload_n 1 dX0_tellMost_67 rfl ?_
      refine a_iconst dX0_tellMost_68 ?_
      refine a_iadd dX0_tellMost_69 ?_
      refine a_gd h (fun c10 h => ?_)
      refine a_iald (x' := wi (q4.2 + 1)) dX0_tellMost_70 rfl rfl c10 rfl ?_
      refine a_iload_n 2 dX0_tellMost_71 rfl ?_
      refine a_iadd dX0_tellMost_72 ?_
      refine a_gd h (fun c11 h => ?_)
      refine a_iast (x' := wi q4.2) dX0_tellMost_73 rfl rfl c11 rfl ?_
      refine a_iinc (L' := [(1, vI (q4.2 + (-1))), (0, .ref (gP G 37)), (2, vI q7.1), (3, vI q7.2)]) 1 dX0_tellMost_74 rfl (by decide) rfl ?_
      refine a_goto 11 dX0_tellMost_77 (by decide) ?_
      have hh := hK5 _ h
      exact a_sub [1, 0] rfl hh
    · skip
      refine a_iconst dX0_tellMost_24 ?_
      refine a_istore (L' := [(4, vI 0), (0, .ref (gP G 37)), (1, vI q4.2), (2, vI q7.1), (3, vI q7.2)]) dX0_tellMost_25 (by decide) rfl ?_
      refine a_sub (L' := [(0, .ref (gP G 37)), (1, vI q4.2), (2, vI q7.1), (3, vI q7.2), (4, vI 0)]) [1, 2, 3, 4, 0] rfl (lp_s (x := (q7.1, 0)) (fun q12 : Int × Int => aW G cX0_tellMost RX0 "tellMost" 5 none (sR 2 0 0) (aQ G none 0 0 (r_0, (mkSh q_0 x_0, s_0))) aX 0 0 (mkSh q_0 x_0, q4.1) [(0, .ref (gP G 37)), (1, vI q4.2), (2, vI q12.1), (3, vI q7.2), (4, vI q12.2)] 27 []) h (fun K13 hK13 q12 h => ?_))
      refine a_iload 4 dX0_tellMost_27 rfl ?_
      refine a_iconst dX0_tellMost_29 ?_
      refine a_icmp_ge 52 dX0_tellMost_30 (by decide) rfl (by decide) h (fun c14 h => ?_) (fun c14 h => ?_)
      · skip
        refine a_iinc (L' := [(3, vI (q7.2 + 1)), (0, .ref (gP G 37)), (1, vI q4.2), (2, vI q12.1), (4, vI q12.2)]) 3 dX0_tellMost_52 rfl (by decide) rfl ?_
        refine a_goto 19 dX0_tellMost_55 (by decide) ?_
        have hh := hK8 _ h
        exact a_sub [1, 2, 3, 0] rfl hh
      · skip
        refine a_iload_n 2 dX0_tellMost_33 rfl ?_
        refine a_aload_n 0 dX0_tellMost_34 rfl ?_
        refine a_iload 4 dX0_tellMost_35 rfl ?_
        refine a_iload_n 3 dX0_tellMost_37 rfl ?_
        refine a_iload_n 1 dX0_tellMost_38 rfl ?_
        refine bp_s h (fun r15 e16 h => ?_)
        refine a_callVI dX0_tellMost_39 mX0_meanAt KX0 rfl kv_X0_meanAt ks_X0_meanAt rfl km_RX0_159 rfl (T_X0_meanAt e16) (fun _ => rfl) rfl (Nat.le_of_ble_eq_true rfl) (Nat.le_of_ble_eq_true rfl) ⟨(Nat.le_of_ble_eq_true rfl), (Nat.le_of_ble_eq_true rfl)⟩ (Nat.le_of_ble_eq_true rfl) ?_
        refine a_mmax dX0_tellMost_42 km_RX0_86 kv_J9_max_7cf53 ki_RJ9 kx_max ⟨Nat.le_of_ble_eq_true rfl, Nat.le_of_ble_eq_true rfl⟩ ⟨Nat.zero_le _, Nat.zero_le _⟩ (Nat.le_of_ble_eq_true rfl) ?_
        refine a_istore_n (L' := [(2, vI (if wi q12.1 < wi r15 then r15 else q12.1)), (0, .ref (gP G 37)), (1, vI q4.2), (3, vI q7.2), (4, vI q12.2)]) dX0_tellMost_45 (by decide) rfl ?_
        refine a_iinc (L' := [(4, vI (q12.2 + 1)), (2, vI (if wi q12.1 < wi r15 then r15 else q12.1)), (0, .ref (gP G 37)), (1, vI q4.2), (3, vI q7.2)]) 4 dX0_tellMost_46 rfl (by decide) rfl ?_
        refine a_goto 27 dX0_tellMost_49 (by decide) ?_
        have hh := hK13 _ h
        exact a_sub [2, 3, 1, 4, 0] rfl hh

