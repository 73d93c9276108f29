def X8_trace (σ : sM) : Option Int := some (σ 54 1)
set_option maxRecDepth 100000 in
set_option maxHeartbeats 400000 in
theorem T_X8_trace {G : sG} {q_0 : qT} {x_0 : List Nat} {σ : sM} {r_0 : Int}  (h : X8_trace σ = some r_0) : aM G yX8_trace cX8_trace 1 (some .long) 0 0 0 [.ref (gP G 0)] (mkSh q_0 x_0, σ) (r_0, (mkSh q_0 x_0, σ)) := by
  unfold X8_trace at h
  refine aM_of (by decide) (Nat.le_of_ble_eq_true rfl) ?_
  show aW G cX8_trace RX8 "trace" 1 (some .long) _ _ aX 0 0 _ [(0, .ref (gP G 0))] 0 []
  refine a_aload_n 0 dX8_trace_0 rfl ?_
  refine a_getR (j := 13) dX8_trace_1 KX8 rfl (by decide) rfl kf_RX8_85 ?_
  refine a_getLN (j := 1) dX8_trace_4 KX2 rfl (by decide) rfl kf_RX8_323 ?_
  exact a_lret dX8_trace_7 rfl (s_inj h) rfl

def X8_portionsOf (σ : sM) (a0 a1 : Int) : Option Int := some (q_and (q_shr a0 (4 * a1)) 3)
set_option maxRecDepth 100000 in
set_option maxHeartbeats 400000 in
theorem T_X8_portionsOf {G : sG} {q_0 : qT} {x_0 : List Nat} {σ : sM} {r_0 : Int} {a0 a1 : Int}  (h : X8_portionsOf σ a0 a1 = some r_0) : aM G yX8_portionsOf cX8_portionsOf 2 (some .int) 0 0 0 [vI a0, vI a1] (mkSh q_0 x_0, σ) (r_0, (mkSh q_0 x_0, σ)) := by
  unfold X8_portionsOf at h
  refine aM_of (by decide) (Nat.le_of_ble_eq_true rfl) ?_
  show aW G cX8_portionsOf RX8 "portionsOf" 2 (some .int) _ _ aX 0 0 _ [(0, vI a0), (1, vI a1)] 0 []
  refine a_iload_n 0 dX8_portionsOf_0 rfl ?_
  refine a_iconst dX8_portionsOf_1 ?_
  refine a_iload_n 1 dX8_portionsOf_2 rfl ?_
  refine a_imul dX8_portionsOf_3 ?_
  refine a_ishr dX8_portionsOf_4 ?_
  refine a_iconst dX8_portionsOf_5 ?_
  refine a_iand dX8_portionsOf_6 ?_
  exact a_iret dX8_portionsOf_7 rfl (s_inj h) rfl

def X8_stepOf (σ : sM) (a0 a1 : Int) : Option Int := some (q_and (q_shr a0 ((4 * a1) + 2)) 3)
set_option maxRecDepth 100000 in
set_option maxHeartbeats 400000 in
theorem T_X8_stepOf {G : sG} {q_0 : qT} {x_0 : List Nat} {σ : sM} {r_0 : Int} {a0 a1 : Int}  (h : X8_stepOf σ a0 a1 = some r_0) : aM G yX8_stepOf cX8_stepOf 2 (some .int) 0 0 0 [vI a0, vI a1] (mkSh q_0 x_0, σ) (r_0, (mkSh q_0 x_0, σ)) := by
  unfold X8_stepOf at h
  refine aM_of (by decide) (Nat.le_of_ble_eq_true rfl) ?_
  show aW G cX8_stepOf RX8 "stepOf" 2 (some .int) _ _ aX 0 0 _ [(0, vI a0), (1, vI a1)] 0 []
  refine a_iload_n 0 dX8_stepOf_0 rfl ?_
  refine a_iconst dX8_stepOf_1 ?_
  refine a_iload_n 1 dX8_stepOf_2 rfl ?_
  refine a_imul dX8_stepOf_3 ?_
  refine a_iconst dX8_stepOf_4 ?_
  refine a_iadd dX8_stepOf_5 ?_
  refine a_ishr dX8_stepOf_6 ?_
  refine a_iconst dX8_stepOf_7 ?_
  refine a_iand dX8_stepOf_8 ?_
  exact a_iret dX8_stepOf_9 rfl (s_inj h) rfl

def X8_field (σ : sM) (a0 a1 a2 : Int) : Option Int := some (q_shl ((4 * a1) + a2) (4 * a0))
set_option maxRecDepth 100000 in
set_option maxHeartbeats 400000 in
theorem T_X8_field {G : sG} {q_0 : qT} {x_0 : List Nat} {σ : sM} {r_0 : Int} {a0 a1 a2 : Int}  (h : X8_field σ a0 a1 a2 = some r_0) : aM G yX8_field cX8_field 3 (some .int) 0 0 0 [vI a0, vI a1, vI a2] (mkSh q_0 x_0, σ) (r_0, (mkSh q_0 x_0, σ)) := by
  unfold X8_field at h
  refine aM_of (by decide) (Nat.le_of_ble_eq_true rfl) ?_
  show aW G cX8_field RX8 "field" 3 (some .int) _ _ aX 0 0 _ [(0, vI a0), (1, vI a1), (2, vI a2)] 0 []
  refine a_iconst dX8_field_0 ?_
  refine a_iload_n 1 dX8_field_1 rfl ?_
  refine a_imul dX8_field_2 ?_
  refine a_iload_n 2 dX8_field_3 rfl ?_
  refine a_iadd dX8_field_4 ?_
  refine a_iconst dX8_field_5 ?_
  refine a_iload_n 0 dX8_field_6 rfl ?_
  refine a_imul dX8_field_7 ?_
  refine a_ishl dX8_field_8 ?_
  exact a_iret dX8_field_9 rfl (s_inj h) rfl

def X8_without (σ : sM) (a0 a1 : Int) : Option Int := some (q_and a0 (q_xor (q_shl 15 (4 * a1)) (-1)))
set_option maxRecDepth 100000 in
set_option maxHeartbeats 400000 in
theorem T_X8_without {G : sG} {q_0 : qT} {x_0 : List Nat} {σ : sM} {r_0 : Int} {a0 a1 : Int}  (h : X8_without σ a0 a1 = some r_0) : aM G yX8_without cX8_without 2 (some .int) 0 0 0 [vI a0, vI a1] (mkSh q_0 x_0, σ) (r_0, (mkSh q_0 x_0, σ)) := by
  unfold X8_without at h
  refine aM_of (by decide) (Nat.le_of_ble_eq_true rfl) ?_
  show aW G cX8_without RX8 "without" 2 (some .int) _ _ aX 0 0 _ [(0, vI a0), (1, vI a1)] 0 []
  refine a_iload_n 0 dX8_without_0 rfl ?_
  refine a_bipush dX8_without_1 (by decide) ?_
  refine a_iconst dX8_without_3 ?_
  refine a_iload_n 1 dX8_without_4 rfl ?_
  refine a_imul dX8_without_5 ?_
  refine a_ishl dX8_without_6 ?_
  refine a_iconst dX8_without_7 ?_
  refine a_ixor dX8_without_8 ?_
  refine a_iand dX8_without_9 ?_
  exact a_iret dX8_without_10 rfl (s_inj h) rfl

def X8_allPortions (σ : sM) (a0 : Int) : Option Int := bp (X8_portionsOf σ a0 0) (fun r1 => bp (X8_portionsOf σ a0 1) (fun r3 => bp (X8_portionsOf σ a0 2) (fun r5 => some ((r1 + r3) + r5))))
set_option maxRecDepth 100000 in
set_option maxHeartbeats 400000 in
theorem T_X8_allPortions {G : sG} {q_0 : qT} {x_0 : List Nat} {σ : sM} {r_0 : Int} {a0 : Int}  (h : X8_allPortions σ a0 = some r_0) : aM G yX8_allPortions cX8_allPortions 1 (some .int) 1 0 0 [vI a0] (mkSh q_0 x_0, σ) (r_0, (mkSh q_0 x_0, σ)) := by
  unfold X8_allPortions at h
  refine aM_of (by decide) (Nat.le_of_ble_eq_true rfl) ?_
  show aW G cX8_allPortions RX8 "allPortions" 1 (some .int) _ _ aX 0 0 _ [(0, vI a0)] 0 []
  refine a_iload_n 0 dX8_allPortions_0 rfl ?_
  refine a_iconst dX8_allPortions_1 ?_
  refine bp_s h (fun r1 e2 h => ?_)
  refine a_callSI dX8_allPortions_2 mX8_portionsOf kv_X8_portionsOf km_RX8_139 rfl (T_X8_portionsOf e2) (fun _ => rfl) rfl (Nat.le_of_ble_eq_true rfl) (Nat.le_of_ble_eq_true rfl) ⟨(Nat.le_of_ble_eq_true rfl), (Nat.le_of_ble_eq_true rfl)⟩ (Nat.le_of_ble_eq_true rfl) ?_
  refine a_iload_n 0 dX8_allPortions_5 rfl ?_
  refine a_iconst dX8_allPortions_6 ?_
  refine bp_s h (fun r3 e4 h => ?_)
  refine a_callSI dX8_allPortions_7 mX8_portionsOf kv_X8_portionsOf km_RX8_139 rfl (T_X8_portionsOf e4) (fun _ => rfl) rfl (Nat.le_of_ble_eq_true rfl) (Nat.le_of_ble_eq_true rfl) ⟨(Nat.le_of_ble_eq_true rfl), (Nat.le_of_ble_eq_true rfl)⟩ (Nat.le_of_ble_eq_true rfl) ?_
  refine a_iadd dX8_allPortions_10 ?_
  refine a_iload_n 0 dX8_allPortions_11 rfl ?_
  refine a_iconst dX8_allPortions_12 ?_
  refine bp_s h (fun r5 e6 h => ?_)
  refine a_callSI dX8_allPortions_13 mX8_portionsOf kv_X8_portionsOf km_RX8_139 rfl (T_X8_portionsOf e6) (fun _ => rfl) rfl (Nat.le_of_ble_eq_true rfl) (Nat.le_of_ble_eq_true rfl) ⟨(Nat.le_of_ble_eq_true rfl), (Nat.le_of_ble_eq_true rfl)⟩ (Nat.le_of_ble_eq_true rfl) ?_
  refine a_iadd dX8_allPortions_16 ?_
  exact a_iret dX8_allPortions_17 rfl (s_inj h) rfl

def X8_has (σ : sM) (a0 a1 : Int) : Option Int := if ¬ wi (q_and (q_shr a0 a1) 1) = 1 then some 0 else some 1
set_option maxRecDepth 100000 in
set_option maxHeartbeats 400000 in
theorem T_X8_has {G : sG} {q_0 : qT} {x_0 : List Nat} {σ : sM} {r_0 : Int} {a0 a1 : Int}  (h : X8_has σ a0 a1 = some r_0) : aM G yX8_has cX8_has 2 (some .boolean) 0 0 0 [vI a0, vI a1] (mkSh q_0 x_0, σ) (r_0, (mkSh q_0 x_0, σ)) := by
  unfold X8_has at h
  refine aM_of (by decide) (Nat.le_of_ble_eq_true rfl) ?_
  show aW G cX8_has RX8 "has" 2 (some .boolean) _ _ aX 0 0 _ [(0, vI a0), (1, vI a1)] 0 []
  refine a_iload_n 0 dX8_has_0 rfl ?_
  refine a_iload_n 1 dX8_has_1 rfl ?_
  refine a_ishr dX8_has_2 ?_
  refine a_iconst dX8_has_3 ?_
  refine a_iand dX8_has_4 ?_
  refine a_iconst dX8_has_5 ?_
  refine a_icmp_ne 13 dX8_has_6 (by decide) rfl (by decide) h (fun c1 h => ?_) (fun c1 h => ?_)
  · skip
    refine a_iconst dX8_has_13 ?_
    exact a_zret dX8_has_14 rfl (by decide) (s_inj h) rfl
  · skip
    refine a_iconst dX8_has_9 ?_
    refine a_goto 14 dX8_has_10 (by decide) ?_
    exact a_zret dX8_has_14 rfl (by decide) (s_inj h) rfl

def X8_commonPart (F : Nat) (σ : sM) (a0 a1 : Int) : Option Int := lp (fun K2 (q1 : Int × Int × Int) => if 200 ≤ wi q1.2.2 then some q1.1 else if wi (q_lcmp q1.2.1 0) = 0 then some q1.1 else if ¬ wl q1.2.1 = 0 then K2 (q1.2.1, q_lrem q1.1 q1.2.1, q1.2.2 + 1) else none) F (a0, a1, 0)
set_option maxRecDepth 100000 in
set_option maxHeartbeats 400000 in
theorem T_X8_commonPart {G : sG} {q_0 : qT} {x_0 : List Nat} {σ : sM} {r_0 : Int} {a0 a1 : Int} {F : Nat}  (h : X8_commonPart F σ a0 a1 = some r_0) : aM G yX8_commonPart cX8_commonPart 11 (some .long) 0 0 0 [vL a0, vL a1] (mkSh q_0 x_0, σ) (r_0, (mkSh q_0 x_0, σ)) := by
  unfold X8_commonPart at h
  refine aM_of (by decide) (Nat.le_of_ble_eq_true rfl) ?_
  show aW G cX8_commonPart RX8 "commonPart" 11 (some .long) _ _ aX 0 0 _ [(0, vL a0), (2, vL a1)] 0 []
  refine a_lload_n 0 dX8_commonPart_0 rfl ?_
  refine a_lstore (L' := [(4, vL a0), (0, vL a0), (2, vL a1)]) dX8_commonPart_1 (by decide) rfl ?_
  refine a_lload_n 2 dX8_commonPart_3 rfl ?_
  refine a_lstore (L' := [(6, vL a1), (4, vL a0), (0, vL a0), (2, vL a1)]) dX8_commonPart_4 (by decide) rfl ?_
  refine a_iconst dX8_commonPart_6 ?_
  refine a_istore (L' := [(8, vI 0), (6, vL a1), (4, vL a0), (0, vL a0), (2, vL a1)]) dX8_commonPart_7 (by decide) rfl ?_
  refine a_sub (L' := [(4, vL a0), (6, vL a1), (8, vI 0)]) [2, 1, 0] rfl (lp_s (x := (a0, a1, 0)) (fun q1 : Int × Int × Int => aW G cX8_commonPart RX8 "commonPart" 11 (some .long) (sR 0 0 0) (aQ G (some .long) 0 0 (r_0, (mkSh q_0 x_0, σ))) aX 0 0 (mkSh q_0 x_0, σ) [(4, vL q1.1), (6, vL q1.2.1), (8, vI q1.2.2)] 9 []) h (fun K2 hK2 q1 h => ?_))
  refine a_iload 2 dX8_commonPart_9 rfl ?_
  refine a_sipush dX8_commonPart_11 (by decide) ?_
  refine a_icmp_ge 45 dX8_commonPart_14 (by decide) rfl (by decide) h (fun c3 h => ?_) (fun c3 h => ?_)
  · skip
    refine a_lload 0 dX8_commonPart_45 rfl ?_
    exact a_lret dX8_commonPart_47 rfl (s_inj h) rfl
  · skip
    refine a_lload 1 dX8_commonPart_17 rfl ?_
    refine a_lconst (z := 0) dX8_commonPart_19 (by decide) ?_
    refine a_lcmp dX8_commonPart_20 ?_
    refine a_if_eq 45 dX8_commonPart_21 (by decide) rfl h (fun c4 h => ?_) (fun c4 h => ?_)
    · skip
      refine a_lload 0 dX8_commonPart_45 rfl ?_
      exact a_lret dX8_commonPart_47 rfl (s_inj h) rfl
    · skip
      refine a_lload 0 dX8_commonPart_24 rfl ?_
      refine a_lload 1 dX8_commonPart_26 rfl ?_
      refine a_gd h (fun c5 h => ?_)
      refine a_lrem dX8_commonPart_28 (nz_l c5) ?_
      refine a_lstore (L' := [(9, vL (q_lrem q1.1 q1.2.1)), (4, vL q1.1), (6, vL q1.2.1), (8, vI q1.2.2)]) dX8_commonPart_29 (by decide) rfl ?_
      refine a_lload 2 dX8_commonPart_31 rfl ?_
      refine a_lstore (L' := [(4, vL q1.2.1), (9, vL (q_lrem q1.1 q1.2.1)), (6, vL q1.2.1), (8, vI q1.2.2)]) dX8_commonPart_33 (by decide) rfl ?_
      refine a_lload 1 dX8_commonPart_35 rfl ?_
      refine a_lstore (L' := [(6, vL (q_lrem q1.1 q1.2.1)), (4, vL q1.2.1), (9, vL (q_lrem q1.1 q1.2.1)), (8, vI q1.2.2)]) dX8_commonPart_37 (by decide) rfl ?_
      refine a_iinc (L' := [(8, vI (q1.2.2 + 1)), (6, vL (q_lrem q1.1 q1.2.1)), (4, vL q1.2.1), (9, vL (q_lrem q1.1 q1.2.1))]) 3 dX8_commonPart_39 rfl (by decide) rfl ?_
      refine a_goto 9 dX8_commonPart_42 (by decide) ?_
      have hh := hK2 _ h
      exact a_sub [2, 1, 0] rfl hh

def X8_partOfLeast (F : Nat) (σ : sM) (a0 a1 a2 : Int) : Option Int := bp (X8_commonPart F σ a0 a1) (fun r1 => jn (fun q3 : Int => if ¬ wi (q_lcmp r1 0) = 0 then if ¬ wl r1 = 0 then some (q_ldiv q3 r1) else none else some q3) (fun K4 => if ¬ wi a2 = 0 then K4 a1 else K4 a0))
set_option maxRecDepth 100000 in
set_option maxHeartbeats 400000 in
theorem T_X8_partOfLeast {G : sG} {q_0 : qT} {x_0 : List Nat} {σ : sM} {r_0 : Int} {a0 a1 a2 : Int} {F : Nat}  (h : X8_partOfLeast F σ a0 a1 a2 = some r_0) : aM G yX8_partOfLeast cX8_partOfLeast 9 (some .long) 1 0 0 [vL a0, vL a1, vI a2] (mkSh q_0 x_0, σ) (r_0, (mkSh q_0 x_0, σ)) := by
  unfold X8_partOfLeast at h
  refine aM_of (by decide) (Nat.le_of_ble_eq_true rfl) ?_
  show aW G cX8_partOfLeast RX8 "partOfLeast" 9 (some .long) _ _ aX 0 0 _ [(0, vL a0), (2, vL a1), (4, vI a2)] 0 []
  refine a_lload_n 0 dX8_partOfLeast_0 rfl ?_
  refine a_lload_n 1 dX8_partOfLeast_1 rfl ?_
  refine bp_s h (fun r1 e2 h => ?_)
  refine a_callSL dX8_partOfLeast_2 mX8_commonPart kv_X8_commonPart km_RX8_327 rfl (T_X8_commonPart e2) (fun _ => rfl) rfl (Nat.le_of_ble_eq_true rfl) (Nat.le_of_ble_eq_true rfl) ⟨(Nat.le_of_ble_eq_true rfl), (Nat.le_of_ble_eq_true rfl)⟩ (Nat.le_of_ble_eq_true rfl) ?_
  refine a_lstore (L' := [(5, vL r1), (0, vL a0), (2, vL a1), (4, vI a2)]) dX8_partOfLeast_5 (by decide) rfl ?_
  refine a_iload 3 dX8_partOfLeast_7 rfl ?_
  refine jn_s (fun q3 : Int => aW G cX8_partOfLeast RX8 "partOfLeast" 9 (some .long) (sR 1 0 0) (aQ G (some .long) 0 0 (r_0, (mkSh q_0 x_0, σ))) aX 0 0 (mkSh q_0 x_0, σ) [(5, vL r1)] 17 [vL q3]) h (fun q3 h => ?_) (fun K4 hK4 h => ?_)
  · skip
    refine a_lstore (L' := [(7, vL q3), (5, vL r1)]) dX8_partOfLeast_17 (by decide) rfl ?_
    refine a_lload 1 dX8_partOfLeast_19 rfl ?_
    refine a_lconst (z := 0) dX8_partOfLeast_21 (by decide) ?_
    refine a_lcmp dX8_partOfLeast_22 ?_
    refine a_if_ne 31 dX8_partOfLeast_23 (by decide) rfl h (fun c5 h => ?_) (fun c5 h => ?_)
    · skip
      refine a_lload 0 dX8_partOfLeast_31 rfl ?_
      refine a_lload 1 dX8_partOfLeast_33 rfl ?_
      refine a_gd h (fun c6 h => ?_)
      refine a_ldiv dX8_partOfLeast_35 (nz_l c6) ?_
      exact a_lret dX8_partOfLeast_36 rfl (s_inj h) rfl
    · skip
      refine a_lload 0 dX8_partOfLeast_26 rfl ?_
      refine a_goto 36 dX8_partOfLeast_28 (by decide) ?_
      exact a_lret dX8_partOfLeast_36 rfl (s_inj h) rfl
  · skip
    refine a_if_ne 16 dX8_partOfLeast_9 (by decide) rfl h (fun c7 h => ?_) (fun c7 h => ?_)
    · skip
      refine a_lload_n 2 dX8_partOfLeast_16 rfl ?_
      have hh := hK4 _ h
      exact a_sub [0] rfl hh
    · skip
      refine a_lload_n 1 dX8_partOfLeast_12 rfl ?_
      refine a_goto 17 dX8_partOfLeast_13 (by decide) ?_
      have hh := hK4 _ h
      exact a_sub [0] rfl hh

def X9_in (σ : sM) (a0 a1 a2 : Int) : Option Int := if wi a0 < wi a1 then some 0 else if wi a2 < wi a0 then some 0 else some 1
set_option maxRecDepth 100000 in
set_option maxHeartbeats 400000 in
theorem T_X9_in {G : sG} {q_0 : qT} {x_0 : List Nat} {σ : sM} {r_0 : Int} {a0 a1 a2 : Int}  (h : X9_in σ a0 a1 a2 = some r_0) : aM G yX9_in cX9_in 3 (some .boolean) 0 0 0 [vI a0, vI a1, vI a2] (mkSh q_0 x_0, σ) (r_0, (mkSh q_0 x_0, σ)) := by
  unfold X9_in at h
  refine aM_of (by decide) (Nat.le_of_ble_eq_true rfl) ?_
  show aW G cX9_in RX9 "in" 3 (some .boolean) _ _ aX 0 0 _ [(0, vI a0), (1, vI a1), (2, vI a2)] 0 []
  refine a_iload_n 0 dX9_in_0 rfl ?_
  refine a_iload_n 1 dX9_in_1 rfl ?_
  refine a_icmp_lt 14 dX9_in_2 (by decide) rfl rfl h (fun c1 h => ?_) (fun c1 h => ?_)
  · skip
    refine a_iconst dX9_in_14 ?_
    exact a_zret dX9_in_15 rfl (by decide) (s_inj h) rfl
  · skip
    refine a_iload_n 0 dX9_in_5 rfl ?_
    refine a_iload_n 2 dX9_in_6 rfl ?_
    refine a_icmp_gt 14 dX9_in_7 (by decide) rfl rfl h (fun c2 h => ?_) (fun c2 h => ?_)
    · skip
      refine a_iconst dX9_in_14 ?_
      exact a_zret dX9_in_15 rfl (by decide) (s_inj h) rfl
    · skip
      refine a_iconst dX9_in_10 ?_
      refine a_goto 15 dX9_in_11 (by decide) ?_
      exact a_zret dX9_in_15 rfl (by decide) (s_inj h) rfl

def X9_type (F : Nat) (σ : sM) (a1 a2 : Int) : Option (Int × sM) := bp (X9_in σ a2 1 8) (fun r1 => if ¬ wi r1 = 0 then if wi ((σ 55 2) + a2) ≤ 400 then lp (fun K6 (q5 : sM × Int) => if wi q5.2 < 0 then some (q5.1 55 2, q5.1) else if 0 ≤ wi (q5.1 55 2) ∧ wi (q5.1 55 2) < 400 then nm (sU (sU q5.1 56 (wi (q5.1 55 2)).toNat (q_b (q_b (q_land (q_lshr a1 (8 * q5.2)) 255)))) 55 2 (((sU q5.1 56 (wi (q5.1 55 2)).toNat (q_b (q_b (q_land (q_lshr a1 (8 * q5.2)) 255)))) 55 2) + 1)) (fun σ9 => K6 (σ9, q5.2 + (-1))) else none) F (σ, a2 - 1) else some ((-3), σ) else some ((-1), σ))
set_option maxRecDepth 100000 in
set_option maxHeartbeats 400000 in
theorem T_X9_type {G : sG} {q_0 : qT} {x_0 : List Nat} {σ s_0 : sM} {r_0 : Int} {a1 a2 : Int} {F : Nat}  (h : X9_type F σ a1 a2 = some (r_0, s_0)) : aM G yX9_type cX9_type 5 (some .int) 1 0 0 [.ref (gP G 55), vL a1, vI a2] (mkSh q_0 x_0, σ) (r_0, (mkSh q_0 x_0, s_0)) := by
  unfold X9_type at h
  refine aM_of (by decide) (Nat.le_of_ble_eq_true rfl) ?_
  show aW G cX9_type RX9 "type" 5 (some .int) _ _ aX 0 0 _ [(0, .ref (gP G 55)), (1, vL a1), (3, vI a2)] 0 []
  refine a_iload_n 2 dX9_type_0 rfl ?_
  refine a_iconst dX9_type_1 ?_
  refine a_bipush dX9_type_2 (by decide) ?_
  refine bp_s h (fun r1 e2 h => ?_)
  refine a_callSI dX9_type_4 mX9_in kv_X9_in km_RX9_103 rfl (T_X9_in e2) (fun _ => rfl) rfl (Nat.le_of_ble_eq_true rfl) (Nat.le_of_ble_eq_true rfl) ⟨(Nat.le_of_ble_eq_true rfl), (Nat.le_of_ble_eq_true rfl)⟩ (Nat.le_of_ble_eq_true rfl) ?_
  refine a_if_ne 12 dX9_type_7 (by decide) rfl h (fun c3 h => ?_) (fun c3 h => ?_)
  · skip
    refine a_aload_n 0 dX9_type_12 rfl ?_
    refine a_getI (j := 2) dX9_type_13 KX9 rfl (by decide) rfl kf_RX9_107 ?_
    refine a_iload_n 2 dX9_type_16 rfl ?_
    refine a_iadd dX9_type_17 ?_
    refine a_sipush dX9_type_18 (by decide) ?_
    refine a_icmp_le 27 dX9_type_21 (by decide) rfl (by decide) h (fun c4 h => ?_) (fun c4 h => ?_)
    · skip
      refine a_iload_n 2 dX9_type_27 rfl ?_
      refine a_iconst dX9_type_28 ?_
      refine a_isub dX9_type_29 ?_
      refine a_istore (L' := [(4, vI (a2 - 1)), (0, .ref (gP G 55)), (1, vL a1), (3, vI a2)]) dX9_type_30 (by decide) rfl ?_
      refine a_sub (L' := [(0, .ref (gP G 55)), (1, vL a1), (4, vI (a2 - 1))]) [1, 2, 0] rfl (lp_s (x := (σ, a2 - 1)) (fun q5 : sM × Int => aW G cX9_type RX9 "type" 5 (some .int) (sR 1 0 0) (aQ G (some .int) 0 0 (r_0, (mkSh q_0 x_0, s_0))) aX 0 0 (mkSh q_0 x_0, q5.1) [(0, .ref (gP G 55)), (1, vL a1), (4, vI q5.2)] 32 []) h (fun K6 hK6 q5 h => ?_))
      refine a_iload 2 dX9_type_32 rfl ?_
      refine a_if_lt 75 dX9_type_34 (by decide) rfl h (fun c7 h => ?_) (fun c7 h => ?_)
      · skip
        refine a_aload_n 0 dX9_type_75 rfl ?_
        refine a_getI (j := 2) dX9_type_76 KX9 rfl (by decide) rfl kf_RX9_107 ?_
        exact a_iret dX9_type_79 rfl (p_1 h) (p_S (p_2 h))
      · skip
        refine a_aload_n 0 dX9_type_37 rfl ?_
        refine a_getR (j := 1) dX9_type_38 KX9 rfl (by decide) rfl kf_RX9_7 ?_
        refine a_aload_n 0 dX9_type_41 rfl ?_
        refine a_getI (j := 2) dX9_type_42 KX9 rfl (by decide) rfl kf_RX9_107 ?_
        refine a_lload_n 1 dX9_type_45 rfl ?_
        refine a_bipush dX9_type_46 (by decide) ?_
        refine a_iload 2 dX9_type_48 rfl ?_
        refine a_imul dX9_type_50 ?_
        refine a_lshr dX9_type_51 ?_
        refine a_ldc2 (z := 255) dX9_type_52 kc_RX9_111 (by decide) ?_
        refine a_land dX9_type_55 ?_
        refine a_l2i dX9_type_56 ?_
        refine a_i2b dX9_type_57 ?_
        refine a_gd h (fun c8 h => ?_)
        refine a_bast (x' := wi (q5.1 55 2)) dX9_type_58 rfl rfl c8 rfl ?_
        refine a_aload_n 0 dX9_type_59 rfl ?_
        refine a_dupR dX9_type_60 ?_
        refine a_getI (j := 2) dX9_type_61 KX9 rfl (by decide) rfl kf_RX9_107 ?_
        refine a_iconst dX9_type_64 ?_
        refine a_iadd dX9_type_65 ?_
        refine a_putI (j := 2) dX9_type_66 KX9 rfl (by decide) rfl rfl rfl kf_RX9_107 ?_
        refine a_nmS h (fun σ9 w10 h => ?_)
        refine a_iinc (L' := [(4, vI (q5.2 + (-1))), (0, .ref (gP G 55)), (1, vL a1)]) 2 dX9_type_69 rfl (by decide) rfl ?_
        refine a_goto 32 dX9_type_72 (by decide) ?_
        have hh := hK6 _ h
        exact a_sub [1, 2, 0] rfl hh
    · skip
      refine a_bipush dX9_type_24 (by decide) ?_
      exact a_iret dX9_type_26 rfl (p_1 h) (p_S (p_2 h))
  · skip
    refine a_iconst dX9_type_10 ?_
    exact a_iret dX9_type_11 rfl (p_1 h) (p_S (p_2 h))

def X9_clear (σ : sM) : Option (Int × sM) := some (σ 55 2, (sU σ 55 2 0))
set_option maxRecDepth 100000 in
set_option maxHeartbeats 400000 in
theorem T_X9_clear {G : sG} {q_0 : qT} {x_0 : List Nat} {σ s_0 : sM} {r_0 : Int}  (h : X9_clear σ = some (r_0, s_0)) : aM G yX9_clear cX9_clear 2 (some .int) 0 0 0 [.ref (gP G 55)] (mkSh q_0 x_0, σ) (r_0, (mkSh q_0 x_0, s_0)) := by
  unfold X9_clear at h
  refine aM_of (by decide) (Nat.le_of_ble_eq_true rfl) ?_
  show aW G cX9_clear RX9 "clear" 2 (some .int) _ _ aX 0 0 _ [(0, .ref (gP G 55))] 0 []
  refine a_aload_n 0 dX9_clear_0 rfl ?_
  refine a_getI (j := 2) dX9_clear_1 KX9 rfl (by decide) rfl kf_RX9_107 ?_
  refine a_istore_n (L' := [(1, vI (σ 55 2)), (0, .ref (gP G 55))]) dX9_clear_4 (by decide) rfl ?_
  refine a_aload_n 1 dX9_clear_5 rfl ?_
  refine a_iconst dX9_clear_6 ?_
  refine a_putI (j := 2) dX9_clear_7 KX9 rfl (by decide) rfl rfl rfl kf_RX9_107 ?_
  refine a_iload_n 0 dX9_clear_10 rfl ?_
  exact a_iret dX9_clear_11 rfl (p_1 h) (p_S (p_2 h))

def X9_here (σ : sM) : Option Int := if wi (σ 55 2) ≤ wi (σ 55 12) then some (-1) else if 0 ≤ wi (σ 55 12) ∧ wi (σ 55 12) < 400 then some (q_and (σ 56 (wi (σ 55 12)).toNat) 255) else none
set_option maxRecDepth 100000 in
set_option maxHeartbeats 400000 in
theorem T_X9_here {G : sG} {q_0 : qT} {x_0 : List Nat} {σ : sM} {r_0 : Int}  (h : X9_here σ = some r_0) : aM G yX9_here cX9_here 1 (some .int) 0 0 0 [.ref (gP G 55)] (mkSh q_0 x_0, σ) (r_0, (mkSh q_0 x_0, σ)) := by
  unfold X9_here at h
  refine aM_of (by decide) (Nat.le_of_ble_eq_true rfl) ?_
  show aW G cX9_here RX9 "here" 1 (some .int) _ _ aX 0 0 _ [(0, .ref (gP G 55))] 0 []
  refine a_aload_n 0 dX9_here_0 rfl ?_
  refine a_getI (j := 12) dX9_here_1 KX9 rfl (by decide) rfl kf_RX9_113 ?_
  refine a_aload_n 0 dX9_here_4 rfl ?_
  refine a_getI (j := 2) dX9_here_5 KX9 rfl (by decide) rfl kf_RX9_107 ?_
  refine a_icmp_ge 27 dX9_here_8 (by decide) rfl rfl h (fun c1 h => ?_) (fun c1 h => ?_)
  · skip
    refine a_iconst dX9_here_27 ?_
    exact a_iret dX9_here_28 rfl (s_inj h) rfl
  · skip
    refine a_aload_n 0 dX9_here_11 rfl ?_
    refine a_getR (j := 1) dX9_here_12 KX9 rfl (by decide) rfl kf_RX9_7 ?_
    refine a_aload_n 0 dX9_here_15 rfl ?_
    refine a_getI (j := 12) dX9_here_16 KX9 rfl (by decide) rfl kf_RX9_113 ?_
    refine a_gd h (fun c2 h => ?_)
    refine a_bald (x' := wi (σ 55 12)) dX9_here_19 rfl rfl c2 rfl ?_
    refine a_sipush dX9_here_20 (by decide) ?_
    refine a_iand dX9_here_23 ?_
    refine a_goto 28 dX9_here_24 (by decide) ?_
    exact a_iret dX9_here_28 rfl (s_inj h) rfl

def X9_mean (σ : sM) (a0 : Int) : Option Int := if wi a0 = 2774 then some 4 else if wi a0 = 307058 then some 7 else if wi a0 = 380741 then some 5 else if wi a0 = 385418 then some 2 else if wi a0 = 453937 then some 8 else if wi a0 = 8863997 then some 9 else if wi a0 = 12325519 then some 1 else if wi a0 = 12384399 then some 6 else if wi a0 = 12391871 then some 3 else some 12
set_option maxRecDepth 100000 in
set_option maxHeartbeats 400000 in
theorem T_X9_mean {G : sG} {q_0 : qT} {x_0 : List Nat} {σ : sM} {r_0 : Int} {a0 : Int}  (h : X9_mean σ a0 = some r_0) : aM G yX9_mean cX9_mean 1 (some .int) 0 0 0 [vI a0] (mkSh q_0 x_0, σ) (r_0, (mkSh q_0 x_0, σ)) := by
  unfold X9_mean at h
  refine aM_of (by decide) (Nat.le_of_ble_eq_true rfl) ?_
  show aW G cX9_mean RX9 "mean" 1 (some .int) _ _ aX 0 0 _ [(0, vI a0)] 0 []
  refine a_iload_n 0 dX9_mean_0 rfl ?_
  refine a_if h (fun c1 h => ?_) (fun c1 h => ?_)
  · skip
    refine a_lsw (off := 89) 90 dX9_mean_1 (by decide) c1 (by decide) (by decide) ?_
    refine a_iconst dX9_mean_90 ?_
    exact a_iret dX9_mean_91 rfl (s_inj h) rfl
  · skip
    refine a_if h (fun c2 h => ?_) (fun c2 h => ?_)
    · skip
      refine a_lsw (off := 96) 97 dX9_mean_1 (by decide) c2 (by decide) (by decide) ?_
      refine a_bipush dX9_mean_97 (by decide) ?_
      exact a_iret dX9_mean_99 rfl (s_inj h) rfl
    · skip
      refine a_if h (fun c3 h => ?_) (fun c3 h => ?_)
      · skip
        refine a_lsw (off := 91) 92 dX9_mean_1 (by decide) c3 (by decide) (by decide) ?_
        refine a_iconst dX9_mean_92 ?_
        exact a_iret dX9_mean_93 rfl (s_inj h) rfl
      · skip
        refine a_if h (fun c4 h => ?_) (fun c4 h => ?_)
        · skip
          refine a_lsw (off := 85) 86 dX9_mean_1 (by decide) c4 (by decide) (by decide) ?_
          refine a_iconst dX9_mean_86 ?_
          exact a_iret dX9_mean_87 rfl (s_inj h) rfl
        · skip
          refine a_if h (fun c5 h => ?_) (fun c5 h => ?_)
          · skip
            refine a_lsw (off := 99) 100 dX9_mean_1 (by decide) c5 (by decide) (by decide) ?_
            refine a_bipush dX9_mean_100 (by decide) ?_
            exact a_iret dX9_mean_102 rfl (s_inj h) rfl
          · skip
            refine a_if h (fun c6 h => ?_) (fun c6 h => ?_)
            · skip
              refine a_lsw (off := 102) 103 dX9_mean_1 (by decide) c6 (by decide) (by decide) ?_
              refine a_bipush dX9_mean_103 (by decide) ?_
              exact a_iret dX9_mean_105 rfl (s_inj h) rfl
            · skip
              refine a_if h (fun c7 h => ?_) (fun c7 h => ?_)
              · skip
                refine a_lsw (off := 83) 84 dX9_mean_1 (by decide) c7 (by decide) (by decide) ?_
                refine a_iconst dX9_mean_84 ?_
                exact a_iret dX9_mean_85 rfl (s_inj h) rfl
              · skip
                refine a_if h (fun c8 h => ?_) (fun c8 h => ?_)
                · skip
                  refine a_lsw (off := 93) 94 dX9_mean_1 (by decide) c8 (by decide) (by decide) ?_
                  refine a_bipush dX9_mean_94 (by decide) ?_
                  exact a_iret dX9_mean_96 rfl (s_inj h) rfl
                · skip
                  refine a_if h (fun c9 h => ?_) (fun c9 h => ?_)
                  · skip
                    refine a_lsw (off := 87) 88 dX9_mean_1 (by decide) c9 (by decide) (by decide) ?_
                    refine a_iconst dX9_mean_88 ?_
                    exact a_iret dX9_mean_89 rfl (s_inj h) rfl
                  · skip
                    refine a_lsw (off := 105) 106 dX9_mean_1 (by decide) rfl (by simp [Op.lookupswitch.offset, Ne.symm c1, Ne.symm c2, Ne.symm c3, Ne.symm c4, Ne.symm c5, Ne.symm c6, Ne.symm c7, Ne.symm c8, Ne.symm c9]) (by decide) ?_
                    refine a_bipush dX9_mean_106 (by decide) ?_
                    exact a_iret dX9_mean_108 rfl (s_inj h) rfl

def X9_read (F : Nat) (σ : sM) : Option (Int × sM) := lp (fun K2 (q1 : sM) => bp (X9_here q1) (fun r3 => if ¬ wi r3 = 32 then bp (X9_here (sU (sU q1 55 13 (q1 55 12)) 55 15 0)) (fun r6 => if 0 ≤ wi r6 then bp (X9_in (sU (sU q1 55 13 (q1 55 12)) 55 15 0) r6 97 122) (fun r9 => if wi r9 = 0 then bp (X9_in (sU (sU q1 55 13 (q1 55 12)) 55 15 0) r6 48 57) (fun r12 => if wi r12 = 0 then nm (sU (sU (sU q1 55 13 (q1 55 12)) 55 15 0) 55 12 (((sU (sU q1 55 13 (q1 55 12)) 55 15 0) 55 12) + 1)) (fun σ15 => jn (fun q17 : Int => some (0, (sU σ15 55 14 q17))) (fun K18 => if ¬ wi r6 = 59 then K18 12 else K18 11)) else lp (fun K21 (q20 : sM) => bp (X9_here q20) (fun r22 => bp (X9_in q20 r22 48 57) (fun r24 => if wi r24 = 0 then jn (fun q27 : Int => some (0, (sU q20 55 14 q27))) (fun K28 => jn (fun q29 : Unit => K28 12) (fun K30 => if 99 < wi (q20 55 15) then K30 () else jn (fun q32 : Unit => K28 10) (fun K33 => if ¬ wi r6 = 48 then K33 () else if wi ((q20 55 12) - (q20 55 13)) ≤ 1 then K33 () else K30 ()))) else jn (fun q36 : Int => K21 (sU (sU q20 55 15 q36) 55 12 (((sU q20 55 15 q36) 55 12) + 1))) (fun K37 => if wi (q20 55 15) ≤ 99 then bp (X9_here q20) (fun r39 => K37 (((10 * (q20 55 15)) + r39) - 48)) else K37 (q20 55 15))))) F (sU (sU q1 55 13 (q1 55 12)) 55 15 0)) else lp (fun K42 (q41 : sM × Int) => bp (X9_here q41.1) (fun r43 => bp (X9_in q41.1 r43 97 122) (fun r45 => if wi r45 = 0 then jn (fun q48 : Int => bp (X9_mean q41.1 q48) (fun r50 => some (0, (sU q41.1 55 14 r50)))) (fun K49 => if wi ((q41.1 55 12) - (q41.1 55 13)) ≤ 5 then K49 q41.2 else K49 0) else jn (fun q53 : Int => K42 ((sU q41.1 55 12 ((q41.1 55 12) + 1)), q53)) (fun K54 => if 5 ≤ wi ((q41.1 55 12) - (q41.1 55 13)) then K54 0 else bp (X9_here q41.1) (fun r56 => K54 (((27 * q41.2) + r56) - 96)))))) F ((sU (sU q1 55 13 (q1 55 12)) 55 15 0), 0)) else some (0, (sU (sU (sU q1 55 13 (q1 55 12)) 55 15 0) 55 14 0))) else K2 (sU q1 55 12 ((q1 55 12) + 1)))) F σ
set_option maxRecDepth 100000 in
set_option maxHeartbeats 400000 in
theorem T_X9_read {G : sG} {q_0 : qT} {x_0 : List Nat} {σ s_0 : sM} {r_0 : Int} {F : Nat}  (h : X9_read F σ = some (r_0, s_0)) : aM G yX9_read cX9_read 3 none 1 0 0 [.ref (gP G 55)] (mkSh q_0 x_0, σ) (r_0, (mkSh q_0 x_0, s_0)) := by
  unfold X9_read at h
  refine aM_of (by decide) (Nat.le_of_ble_eq_true rfl) ?_
  show aW G cX9_read RX9 "read" 3 none _ _ aX 0 0 _ [(0, .ref (gP G 55))] 0 []
  refine a_sub (L' := [(0, .ref (gP G 55))]) [0] rfl (lp_s (x := σ) (fun q1 : sM => aW G cX9_read RX9 "read" 3 none (sR 1 0 0) (aQ G none 0 0 (r_0, (mkSh q_0 x_0, s_0))) aX 0 0 (mkSh q_0 x_0, q1) [(0, .ref (gP G 55))] 0 []) h (fun K2 hK2 q1 h => ?_))
  refine a_aload_n 0 dX9_read_0 rfl ?_
  refine bp_s h (fun r3 e4 h => ?_)
  refine a_callVI dX9_read_1 mX9_here KX9 rfl kv_X9_here ks_X9_here rfl km_RX9_116 rfl (T_X9_here e4) (fun _ => rfl) rfl (Nat.le_of_ble_eq_true rfl) (Nat.le_of_ble_eq_true rfl) ⟨(Nat.le_of_ble_eq_true rfl), (Nat.le_of_ble_eq_true rfl)⟩ (Nat.le_of_ble_eq_true rfl) ?_
  refine a_bipush dX9_read_4 (by decide) ?_
  refine a_icmp_ne 22 dX9_read_6 (by decide) rfl (by decide) h (fun c5 h => ?_) (fun c5 h => ?_)
  · skip
    refine a_aload_n 0 dX9_read_22 rfl ?_
    refine a_aload_n 0 dX9_read_23 rfl ?_
    refine a_getI (j := 12) dX9_read_24 KX9 rfl (by decide) rfl kf_RX9_113 ?_
    refine a_putI (j := 13) dX9_read_27 KX9 rfl (by decide) rfl rfl rfl kf_RX9_120 ?_
    refine a_aload_n 0 dX9_read_30 rfl ?_
    refine a_iconst dX9_read_31 ?_
    refine a_putI (j := 15) dX9_read_32 KX9 rfl (by decide) rfl rfl rfl kf_RX9_123 ?_
    refine a_aload_n 0 dX9_read_35 rfl ?_
    refine bp_s h (fun r6 e7 h => ?_)
    refine a_callVI dX9_read_36 mX9_here KX9 rfl kv_X9_here ks_X9_here rfl km_RX9_116 rfl (T_X9_here e7) (fun _ => rfl) rfl (Nat.le_of_ble_eq_true rfl) (Nat.le_of_ble_eq_true rfl) ⟨(Nat.le_of_ble_eq_true rfl), (Nat.le_of_ble_eq_true rfl)⟩ (Nat.le_of_ble_eq_true rfl) ?_
    refine a_istore_n (L' := [(1, vI r6), (0, .ref (gP G 55))]) dX9_read_39 (by decide) rfl ?_
    refine a_iload_n 0 dX9_read_40 rfl ?_
    refine a_if_ge 52 dX9_read_41 (by decide) rfl h (fun c8 h => ?_) (fun c8 h => ?_)
    · skip
      refine a_iload_n 0 dX9_read_52 rfl ?_
      refine a_bipush dX9_read_53 (by decide) ?_
      refine a_bipush dX9_read_55 (by decide) ?_
      refine bp_s h (fun r9 e10 h => ?_)
      refine a_callSI dX9_read_57 mX9_in kv_X9_in km_RX9_103 rfl (T_X9_in e10) (fun _ => rfl) rfl (Nat.le_of_ble_eq_true rfl) (Nat.le_of_ble_eq_true rfl) ⟨(Nat.le_of_ble_eq_true rfl), (Nat.le_of_ble_eq_true rfl)⟩ (Nat.le_of_ble_eq_true rfl) ?_
      refine a_if_eq 150 dX9_read_60 (by decide) rfl h (fun c11 h => ?_) (fun c11 h => ?_)
      · skip
        refine a_iload_n 0 dX9_read_150 rfl ?_
        refine a_bipush dX9_read_151 (by decide) ?_
        refine a_bipush dX9_read_153 (by decide) ?_
        refine bp_s h (fun r12 e13 h => ?_)
        refine a_callSI dX9_read_155 mX9_in kv_X9_in km_RX9_103 rfl (T_X9_in e13) (fun _ => rfl) rfl (Nat.le_of_ble_eq_true rfl) (Nat.le_of_ble_eq_true rfl) ⟨(Nat.le_of_ble_eq_true rfl), (Nat.le_of_ble_eq_true rfl)⟩ (Nat.le_of_ble_eq_true rfl) ?_
        refine a_if_eq 265 dX9_read_158 (by decide) rfl h (fun c14 h => ?_) (fun c14 h => ?_)
        · skip
          refine a_aload_n 1 dX9_read_265 rfl ?_
          refine a_dupR dX9_read_266 ?_
          refine a_getI (j := 12) dX9_read_267 KX9 rfl (by decide) rfl kf_RX9_113 ?_
          refine a_iconst dX9_read_270 ?_
          refine a_iadd dX9_read_271 ?_
          refine a_putI (j := 12) dX9_read_272 KX9 rfl (by decide) rfl rfl rfl kf_RX9_113 ?_
          refine a_nmS h (fun σ15 w16 h => ?_)
          refine a_aload_n 1 dX9_read_275 rfl ?_
          refine a_iload_n 0 dX9_read_276 rfl ?_
          refine a_bipush dX9_read_277 (by decide) ?_
          refine jn_s (fun q17 : Int => aW G cX9_read RX9 "read" 3 none (sR 1 0 0) (aQ G none 0 0 (r_0, (mkSh q_0 x_0, s_0))) aX 0 0 (mkSh q_0 x_0, σ15) [] 289 [vI q17, .ref (gP G 55)]) h (fun q17 h => ?_) (fun K18 hK18 h => ?_)
          · skip
            refine a_putI (j := 14) dX9_read_289 KX9 rfl (by decide) rfl rfl rfl kf_RX9_126 ?_
            exact a_vret dX9_read_292 rfl (p_S (p_2 h))
          · skip
            refine a_icmp_ne 287 dX9_read_279 (by decide) rfl (by decide) h (fun c19 h => ?_) (fun c19 h => ?_)
            · skip
              refine a_bipush dX9_read_287 (by decide) ?_
              have hh := hK18 _ h
              exact a_sub [] rfl hh
            · skip
              refine a_bipush dX9_read_282 (by decide) ?_
              refine a_goto 289 dX9_read_284 (by decide) ?_
              have hh := hK18 _ h
              exact a_sub [] rfl hh
        · skip
          refine a_sub (L' := [(0, .ref (gP G 55)), (1, vI r6)]) [1, 0] rfl (lp_s (x := (sU (sU q1 55 13 (q1 55 12)) 55 15 0)) (fun q20 : sM => aW G cX9_read RX9 "read" 3 none (sR 1 0 0) (aQ G none 0 0 (r_0, (mkSh q_0 x_0, s_0))) aX 0 0 (mkSh q_0 x_0, q20) [(0, .ref (gP G 55)), (1, vI r6)] 161 []) h (fun K21 hK21 q20 h => ?_))
          refine a_aload_n 0 dX9_read_161 rfl ?_
          refine bp_s h (fun r22 e23 h => ?_)
          refine a_callVI dX9_read_162 mX9_here KX9 rfl kv_X9_here ks_X9_here rfl km_RX9_116 rfl (T_X9_here e23) (fun _ => rfl) rfl (Nat.le_of_ble_eq_true rfl) (Nat.le_of_ble_eq_true rfl) ⟨(Nat.le_of_ble_eq_true rfl), (Nat.le_of_ble_eq_true rfl)⟩ (Nat.le_of_ble_eq_true rfl) ?_
          refine a_bipush dX9_read_165 (by decide) ?_
          refine a_bipush dX9_read_167 (by decide) ?_
          refine bp_s h (fun r24 e25 h => ?_)
          refine a_callSI dX9_read_169 mX9_in kv_X9_in km_RX9_103 rfl (T_X9_in e25) (fun _ => rfl) rfl (Nat.le_of_ble_eq_true rfl) (Nat.le_of_ble_eq_true rfl) ⟨(Nat.le_of_ble_eq_true rfl), (Nat.le_of_ble_eq_true rfl)⟩ (Nat.le_of_ble_eq_true rfl) ?_
          refine a_if_eq 223 dX9_read_172 (by decide) rfl h (fun c26 h => ?_) (fun c26 h => ?_)
          · skip
            refine a_aload_n 0 dX9_read_223 rfl ?_
            refine a_aload_n 0 dX9_read_224 rfl ?_
            refine a_getI (j := 15) dX9_read_225 KX9 rfl (by decide) rfl kf_RX9_123 ?_
            refine a_bipush dX9_read_228 (by decide) ?_
            refine jn_s (fun q27 : Int => aW G cX9_read RX9 "read" 3 none (sR 1 0 0) (aQ G none 0 0 (r_0, (mkSh q_0 x_0, s_0))) aX 0 0 (mkSh q_0 x_0, q20) [] 259 [vI q27, .ref (gP G 55)]) h (fun q27 h => ?_) (fun K28 hK28 h => ?_)
            · skip
              refine a_putI (j := 14) dX9_read_259 KX9 rfl (by decide) rfl rfl rfl kf_RX9_126 ?_
              refine a_goto 292 dX9_read_262 (by decide) ?_
              exact a_vret dX9_read_292 rfl (p_S (p_2 h))
            · skip
              refine jn_s (fun q29 : Unit => aW G cX9_read RX9 "read" 3 none (sR 1 0 0) (aQ G none 0 0 (r_0, (mkSh q_0 x_0, s_0))) aX 0 0 (mkSh q_0 x_0, q20) [] 252 [.ref (gP G 55)]) h (fun q29 h => ?_) (fun K30 hK30 h => ?_)
              · skip
                refine a_bipush dX9_read_252 (by decide) ?_
                refine a_goto 259 dX9_read_254 (by decide) ?_
                have hh := hK28 _ h
                exact a_sub [] rfl hh
              · skip
                refine a_icmp_gt 252 dX9_read_230 (by decide) rfl (by decide) h (fun c31 h => ?_) (fun c31 h => ?_)
                · skip
                  have hh := hK30 _ h
                  exact a_sub [] rfl hh
                · skip
                  refine a_iload_n 1 dX9_read_233 rfl ?_
                  refine a_bipush dX9_read_234 (by decide) ?_
                  refine jn_s (fun q32 : Unit => aW G cX9_read RX9 "read" 3 none (sR 1 0 0) (aQ G none 0 0 (r_0, (mkSh q_0 x_0, s_0))) aX 0 0 (mkSh q_0 x_0, q20) [] 257 [.ref (gP G 55)]) h (fun q32 h => ?_) (fun K33 hK33 h => ?_)
                  · skip
                    refine a_bipush dX9_read_257 (by decide) ?_
                    have hh := hK28 _ h
                    exact a_sub [] rfl hh
                  · skip
                    refine a_icmp_ne 257 dX9_read_236 (by decide) rfl (by decide) h (fun c34 h => ?_) (fun c34 h => ?_)
                    · skip
                      have hh := hK33 _ h
                      exact a_sub [] rfl hh
                    · skip
                      refine a_aload_n 0 dX9_read_239 rfl ?_
                      refine a_getI (j := 12) dX9_read_240 KX9 rfl (by decide) rfl kf_RX9_113 ?_
                      refine a_aload_n 0 dX9_read_243 rfl ?_
                      refine a_getI (j := 13) dX9_read_244 KX9 rfl (by decide) rfl kf_RX9_120 ?_
                      refine a_isub dX9_read_247 ?_
                      refine a_iconst dX9_read_248 ?_
                      refine a_icmp_le 257 dX9_read_249 (by decide) rfl (by decide) h (fun c35 h => ?_) (fun c35 h => ?_)
                      · skip
                        have hh := hK33 _ h
                        exact a_sub [] rfl hh
                      · skip
                        have hh := hK30 _ h
                        exact a_sub [] rfl hh
          · skip
            refine a_aload_n 0 dX9_read_175 rfl ?_
            refine a_aload_n 0 dX9_read_176 rfl ?_
            refine a_getI (j := 15) dX9_read_177 KX9 rfl (by decide) rfl kf_RX9_123 ?_
            refine a_bipush dX9_read_180 (by decide) ?_
            refine jn_s (fun q36 : Int => aW G cX9_read RX9 "read" 3 none (sR 1 0 0) (aQ G none 0 0 (r_0, (mkSh q_0 x_0, s_0))) aX 0 0 (mkSh q_0 x_0, q20) [(0, .ref (gP G 55)), (1, vI r6)] 207 [vI q36, .ref (gP G 55)]) h (fun q36 h => ?_) (fun K37 hK37 h => ?_)
            · skip
              refine a_putI (j := 15) dX9_read_207 KX9 rfl (by decide) rfl rfl rfl kf_RX9_123 ?_
              refine a_aload_n 0 dX9_read_210 rfl ?_
              refine a_dupR dX9_read_211 ?_
              refine a_getI (j := 12) dX9_read_212 KX9 rfl (by decide) rfl kf_RX9_113 ?_
              refine a_iconst dX9_read_215 ?_
              refine a_iadd dX9_read_216 ?_
              refine a_putI (j := 12) dX9_read_217 KX9 rfl (by decide) rfl rfl rfl kf_RX9_113 ?_
              refine a_goto 161 dX9_read_220 (by decide) ?_
              have hh := hK21 _ h
              exact a_sub [0, 1] rfl hh
            · skip
              refine a_icmp_le 192 dX9_read_182 (by decide) rfl (by decide) h (fun c38 h => ?_) (fun c38 h => ?_)
              · skip
                refine a_bipush dX9_read_192 (by decide) ?_
                refine a_aload_n 0 dX9_read_194 rfl ?_
                refine a_getI (j := 15) dX9_read_195 KX9 rfl (by decide) rfl kf_RX9_123 ?_
                refine a_imul dX9_read_198 ?_
                refine a_aload_n 0 dX9_read_199 rfl ?_
                refine bp_s h (fun r39 e40 h => ?_)
                refine a_callVI dX9_read_200 mX9_here KX9 rfl kv_X9_here ks_X9_here rfl km_RX9_116 rfl (T_X9_here e40) (fun _ => rfl) rfl (Nat.le_of_ble_eq_true rfl) (Nat.le_of_ble_eq_true rfl) ⟨(Nat.le_of_ble_eq_true rfl), (Nat.le_of_ble_eq_true rfl)⟩ (Nat.le_of_ble_eq_true rfl) ?_
                refine a_iadd dX9_read_203 ?_
                refine a_bipush dX9_read_204 (by decide) ?_
                refine a_isub dX9_read_206 ?_
                have hh := hK37 _ h
                exact a_sub [0, 1] rfl hh
              · skip
                refine a_aload_n 0 dX9_read_185 rfl ?_
                refine a_getI (j := 15) dX9_read_186 KX9 rfl (by decide) rfl kf_RX9_123 ?_
                refine a_goto 207 dX9_read_189 (by decide) ?_
                have hh := hK37 _ h
                exact a_sub [0, 1] rfl hh
      · skip
        refine a_iconst dX9_read_63 ?_
        refine a_istore_n (L' := [(2, vI 0), (1, vI r6), (0, .ref (gP G 55))]) dX9_read_64 (by decide) rfl ?_
        refine a_sub (L' := [(0, .ref (gP G 55)), (2, vI 0)]) [2, 0] rfl (lp_s (x := ((sU (sU q1 55 13 (q1 55 12)) 55 15 0), 0)) (fun q41 : sM × Int => aW G cX9_read RX9 "read" 3 none (sR 1 0 0) (aQ G none 0 0 (r_0, (mkSh q_0 x_0, s_0))) aX 0 0 (mkSh q_0 x_0, q41.1) [(0, .ref (gP G 55)), (2, vI q41.2)] 65 []) h (fun K42 hK42 q41 h => ?_))
        refine a_aload_n 0 dX9_read_65 rfl ?_
        refine bp_s h (fun r43 e44 h => ?_)
        refine a_callVI dX9_read_66 mX9_here KX9 rfl kv_X9_here ks_X9_here rfl km_RX9_116 rfl (T_X9_here e44) (fun _ => rfl) rfl (Nat.le_of_ble_eq_true rfl) (Nat.le_of_ble_eq_true rfl) ⟨(Nat.le_of_ble_eq_true rfl), (Nat.le_of_ble_eq_true rfl)⟩ (Nat.le_of_ble_eq_true rfl) ?_
        refine a_bipush dX9_read_69 (by decide) ?_
        refine a_bipush dX9_read_71 (by decide) ?_
        refine bp_s h (fun r45 e46 h => ?_)
        refine a_callSI dX9_read_73 mX9_in kv_X9_in km_RX9_103 rfl (T_X9_in e46) (fun _ => rfl) rfl (Nat.le_of_ble_eq_true rfl) (Nat.le_of_ble_eq_true rfl) ⟨(Nat.le_of_ble_eq_true rfl), (Nat.le_of_ble_eq_true rfl)⟩ (Nat.le_of_ble_eq_true rfl) ?_
        refine a_if_eq 122 dX9_read_76 (by decide) rfl h (fun c47 h => ?_) (fun c47 h => ?_)
        · skip
          refine a_aload_n 0 dX9_read_122 rfl ?_
          refine a_aload_n 0 dX9_read_123 rfl ?_
          refine a_getI (j := 12) dX9_read_124 KX9 rfl (by decide) rfl kf_RX9_113 ?_
          refine a_aload_n 0 dX9_read_127 rfl ?_
          refine a_getI (j := 13) dX9_read_128 KX9 rfl (by decide) rfl kf_RX9_120 ?_
          refine a_isub dX9_read_131 ?_
          refine a_iconst dX9_read_132 ?_
          refine jn_s (fun q48 : Int => aW G cX9_read RX9 "read" 3 none (sR 1 0 0) (aQ G none 0 0 (r_0, (mkSh q_0 x_0, s_0))) aX 0 0 (mkSh q_0 x_0, q41.1) [] 141 [vI q48, .ref (gP G 55)]) h (fun q48 h => ?_) (fun K49 hK49 h => ?_)
          · skip
            refine bp_s h (fun r50 e51 h => ?_)
            refine a_callSI dX9_read_141 mX9_mean kv_X9_mean km_RX9_129 rfl (T_X9_mean e51) (fun _ => rfl) rfl (Nat.le_of_ble_eq_true rfl) (Nat.le_of_ble_eq_true rfl) ⟨(Nat.le_of_ble_eq_true rfl), (Nat.le_of_ble_eq_true rfl)⟩ (Nat.le_of_ble_eq_true rfl) ?_
            refine a_putI (j := 14) dX9_read_144 KX9 rfl (by decide) rfl rfl rfl kf_RX9_126 ?_
            refine a_goto 292 dX9_read_147 (by decide) ?_
            exact a_vret dX9_read_292 rfl (p_S (p_2 h))
          · skip
            refine a_icmp_le 140 dX9_read_133 (by decide) rfl (by decide) h (fun c52 h => ?_) (fun c52 h => ?_)
            · skip
              refine a_iload_n 1 dX9_read_140 rfl ?_
              have hh := hK49 _ h
              exact a_sub [] rfl hh
            · skip
              refine a_iconst dX9_read_136 ?_
              refine a_goto 141 dX9_read_137 (by decide) ?_
              have hh := hK49 _ h
              exact a_sub [] rfl hh
        · skip
          refine a_aload_n 0 dX9_read_79 rfl ?_
          refine a_getI (j := 12) dX9_read_80 KX9 rfl (by decide) rfl kf_RX9_113 ?_
          refine a_aload_n 0 dX9_read_83 rfl ?_
          refine a_getI (j := 13) dX9_read_84 KX9 rfl (by decide) rfl kf_RX9_120 ?_
          refine a_isub dX9_read_87 ?_
          refine a_iconst dX9_read_88 ?_
          refine jn_s (fun q53 : Int => aW G cX9_read RX9 "read" 3 none (sR 1 0 0) (aQ G none 0 0 (r_0, (mkSh q_0 x_0, s_0))) aX 0 0 (mkSh q_0 x_0, q41.1) [(0, .ref (gP G 55))] 108 [vI q53]) h (fun q53 h => ?_) (fun K54 hK54 h => ?_)
          · skip
            refine a_istore_n (L' := [(2, vI q53), (0, .ref (gP G 55))]) dX9_read_108 (by decide) rfl ?_
            refine a_aload_n 1 dX9_read_109 rfl ?_
            refine a_dupR dX9_read_110 ?_
            refine a_getI (j := 12) dX9_read_111 KX9 rfl (by decide) rfl kf_RX9_113 ?_
            refine a_iconst dX9_read_114 ?_
            refine a_iadd dX9_read_115 ?_
            refine a_putI (j := 12) dX9_read_116 KX9 rfl (by decide) rfl rfl rfl kf_RX9_113 ?_
            refine a_goto 65 dX9_read_119 (by decide) ?_
            have hh := hK42 _ h
            exact a_sub [1, 0] rfl hh
          · skip
            refine a_icmp_ge 107 dX9_read_89 (by decide) rfl (by decide) h (fun c55 h => ?_) (fun c55 h => ?_)
            · skip
              refine a_iconst dX9_read_107 ?_
              have hh := hK54 _ h
              exact a_sub [0] rfl hh
            · skip
              refine a_bipush dX9_read_92 (by decide) ?_
              refine a_iload_n 1 dX9_read_94 rfl ?_
              refine a_imul dX9_read_95 ?_
              refine a_aload_n 0 dX9_read_96 rfl ?_
              refine bp_s h (fun r56 e57 h => ?_)
              refine a_callVI dX9_read_97 mX9_here KX9 rfl kv_X9_here ks_X9_here rfl km_RX9_116 rfl (T_X9_here e57) (fun _ => rfl) rfl (Nat.le_of_ble_eq_true rfl) (Nat.le_of_ble_eq_true rfl) ⟨(Nat.le_of_ble_eq_true rfl), (Nat.le_of_ble_eq_true rfl)⟩ (Nat.le_of_ble_eq_true rfl) ?_
              refine a_iadd dX9_read_100 ?_
              refine a_bipush dX9_read_101 (by decide) ?_
              refine a_isub dX9_read_103 ?_
              refine a_goto 108 dX9_read_104 (by decide) ?_
              have hh := hK54 _ h
              exact a_sub [0] rfl hh
    · skip
      refine a_aload_n 1 dX9_read_44 rfl ?_
      refine a_iconst dX9_read_45 ?_
      refine a_putI (j := 14) dX9_read_46 KX9 rfl (by decide) rfl rfl rfl kf_RX9_126 ?_
      refine a_goto 292 dX9_read_49 (by decide) ?_
      exact a_vret dX9_read_292 rfl (p_S (p_2 h))
  · skip
    refine a_aload_n 0 dX9_read_9 rfl ?_
    refine a_dupR dX9_read_10 ?_
    refine a_getI (j := 12) dX9_read_11 KX9 rfl (by decide) rfl kf_RX9_113 ?_
    refine a_iconst dX9_read_14 ?_
    refine a_iadd dX9_read_15 ?_
    refine a_putI (j := 12) dX9_read_16 KX9 rfl (by decide) rfl rfl rfl kf_RX9_113 ?_
    refine a_goto 0 dX9_read_19 (by decide) ?_
    have hh := hK2 _ h
    exact a_sub [0] rfl hh

def X9_due (F : Nat) (σ : sM) (a1 : Int) : Option (Int × sM) := if ¬ wi (σ 55 16) = (-9) then some (σ 55 15, σ) else if wi a1 = 0 then some (σ 55 15, (sU σ 55 16 (σ 55 13))) else bn (X9_read F σ) (fun r3 σ5 => some (σ 55 15, σ5))
set_option maxRecDepth 100000 in
set_option maxHeartbeats 400000 in
theorem T_X9_due {G : sG} {q_0 : qT} {x_0 : List Nat} {σ s_0 : sM} {r_0 : Int} {a1 : Int} {F : Nat}  (h : X9_due F σ a1 = some (r_0, s_0)) : aM G yX9_due cX9_due 3 (some .int) 2 0 0 [.ref (gP G 55), vI a1] (mkSh q_0 x_0, σ) (r_0, (mkSh q_0 x_0, s_0)) := by
  unfold X9_due at h
  refine aM_of (by decide) (Nat.le_of_ble_eq_true rfl) ?_
  show aW G cX9_due RX9 "due" 3 (some .int) _ _ aX 0 0 _ [(0, .ref (gP G 55)), (1, vI a1)] 0 []
  refine a_aload_n 0 dX9_due_0 rfl ?_
  refine a_getI (j := 15) dX9_due_1 KX9 rfl (by decide) rfl kf_RX9_123 ?_
  refine a_istore_n (L' := [(2, vI (σ 55 15)), (0, .ref (gP G 55)), (1, vI a1)]) dX9_due_4 (by decide) rfl ?_
  refine a_aload_n 1 dX9_due_5 rfl ?_
  refine a_getI (j := 16) dX9_due_6 KX9 rfl (by decide) rfl kf_RX9_133 ?_
  refine a_bipush dX9_due_9 (by decide) ?_
  refine a_icmp_ne 33 dX9_due_11 (by decide) rfl (by decide) h (fun c1 h => ?_) (fun c1 h => ?_)
  · skip
    refine a_iload_n 0 dX9_due_33 rfl ?_
    exact a_iret dX9_due_34 rfl (p_1 h) (p_S (p_2 h))
  · skip
    refine a_iload_n 2 dX9_due_14 rfl ?_
    refine a_if_eq 25 dX9_due_15 (by decide) rfl h (fun c2 h => ?_) (fun c2 h => ?_)
    · skip
      refine a_aload_n 1 dX9_due_25 rfl ?_
      refine a_aload_n 1 dX9_due_26 rfl ?_
      refine a_getI (j := 13) dX9_due_27 KX9 rfl (by decide) rfl kf_RX9_120 ?_
      refine a_putI (j := 16) dX9_due_30 KX9 rfl (by decide) rfl rfl rfl kf_RX9_133 ?_
      refine a_iload_n 0 dX9_due_33 rfl ?_
      exact a_iret dX9_due_34 rfl (p_1 h) (p_S (p_2 h))
    · skip
      refine a_aload_n 1 dX9_due_18 rfl ?_
      refine bn_s h (fun r3 σ5 e4 h => ?_)
      refine a_callVV dX9_due_19 mX9_read KX9 rfl kv_X9_read ks_X9_read rfl km_RX9_136 rfl (T_X9_read e4) (fun _ => rfl) rfl (Nat.le_of_ble_eq_true rfl) (Nat.le_of_ble_eq_true rfl) ⟨(Nat.le_of_ble_eq_true rfl), (Nat.le_of_ble_eq_true rfl)⟩ (Nat.le_of_ble_eq_true rfl) ?_
      refine a_goto 33 dX9_due_22 (by decide) ?_
      refine a_iload_n 0 dX9_due_33 rfl ?_
      exact a_iret dX9_due_34 rfl (p_1 h) (p_S (p_2 h))

def X9_number (F : Nat) (σ : sM) (a1 a2 : Int) : Option (Int × sM) := jn (fun q1 : Int => bn (X9_due F σ q1) (fun r3 σ5 => some (r3, σ5))) (fun K2 => jn (fun q6 : Unit => K2 0) (fun K7 => if ¬ wi (σ 55 14) = 10 then K7 () else bp (X9_in σ (σ 55 15) a1 a2) (fun r9 => if wi r9 = 0 then K7 () else K2 1)))
set_option maxRecDepth 100000 in
set_option maxHeartbeats 400000 in
theorem T_X9_number {G : sG} {q_0 : qT} {x_0 : List Nat} {σ s_0 : sM} {r_0 : Int} {a1 a2 : Int} {F : Nat}  (h : X9_number F σ a1 a2 = some (r_0, s_0)) : aM G yX9_number cX9_number 3 (some .int) 3 0 0 [.ref (gP G 55), vI a1, vI a2] (mkSh q_0 x_0, σ) (r_0, (mkSh q_0 x_0, s_0)) := by
  unfold X9_number at h
  refine aM_of (by decide) (Nat.le_of_ble_eq_true rfl) ?_
  show aW G cX9_number RX9 "number" 3 (some .int) _ _ aX 0 0 _ [(0, .ref (gP G 55)), (1, vI a1), (2, vI a2)] 0 []
  refine a_aload_n 0 dX9_number_0 rfl ?_
  refine a_aload_n 0 dX9_number_1 rfl ?_
  refine a_getI (j := 14) dX9_number_2 KX9 rfl (by decide) rfl kf_RX9_126 ?_
  refine a_bipush dX9_number_5 (by decide) ?_
  refine jn_s (fun q1 : Int => aW G cX9_number RX9 "number" 3 (some .int) (sR 3 0 0) (aQ G (some .int) 0 0 (r_0, (mkSh q_0 x_0, s_0))) aX 0 0 (mkSh q_0 x_0, σ) [] 27 [vI q1, .ref (gP G 55)]) h (fun q1 h => ?_) (fun K2 hK2 h => ?_)
  · skip
    refine bn_s h (fun r3 σ5 e4 h => ?_)
    refine a_callVI dX9_number_27 mX9_due KX9 rfl kv_X9_due ks_X9_due rfl km_RX9_139 rfl (T_X9_due e4) (fun _ => rfl) rfl (Nat.le_of_ble_eq_true rfl) (Nat.le_of_ble_eq_true rfl) ⟨(Nat.le_of_ble_eq_true rfl), (Nat.le_of_ble_eq_true rfl)⟩ (Nat.le_of_ble_eq_true rfl) ?_
    exact a_iret dX9_number_30 rfl (p_1 h) (p_S (p_2 h))
  · skip
    refine jn_s (fun q6 : Unit => aW G cX9_number RX9 "number" 3 (some .int) (sR 3 0 0) (aQ G (some .int) 0 0 (r_0, (mkSh q_0 x_0, s_0))) aX 0 0 (mkSh q_0 x_0, σ) [] 26 [.ref (gP G 55)]) h (fun q6 h => ?_) (fun K7 hK7 h => ?_)
    · skip
      refine a_iconst dX9_number_26 ?_
      have hh := hK2 _ h
      exact a_sub [] rfl hh
    · skip
      refine a_icmp_ne 26 dX9_number_7 (by decide) rfl (by decide) h (fun c8 h => ?_) (fun c8 h => ?_)
      · skip
        have hh := hK7 _ h
        exact a_sub [] rfl hh
      · skip
        refine a_aload_n 0 dX9_number_10 rfl ?_
        refine a_getI (j := 15) dX9_number_11 KX9 rfl (by decide) rfl kf_RX9_123 ?_
        refine a_iload_n 1 dX9_number_14 rfl ?_
        refine a_iload_n 2 dX9_number_15 rfl ?_
        refine bp_s h (fun r9 e10 h => ?_)
        refine a_callSI dX9_number_16 mX9_in kv_X9_in km_RX9_103 rfl (T_X9_in e10) (fun _ => rfl) rfl (Nat.le_of_ble_eq_true rfl) (Nat.le_of_ble_eq_true rfl) ⟨(Nat.le_of_ble_eq_true rfl), (Nat.le_of_ble_eq_true rfl)⟩ (Nat.le_of_ble_eq_true rfl) ?_
        refine a_if_eq 26 dX9_number_19 (by decide) rfl h (fun c11 h => ?_) (fun c11 h => ?_)
        · skip
          have hh := hK7 _ h
          exact a_sub [] rfl hh
        · skip
          refine a_iconst dX9_number_22 ?_
          refine a_goto 27 dX9_number_23 (by decide) ?_
          have hh := hK2 _ h
          exact a_sub [] rfl hh

def X9_readSort (F : Nat) (σ : sM) : Option (Int × sM) := jn (fun q1 : Int => lp (fun K4 (q3 : sM × Int) => if 14 ≤ wi q3.2 then some (0, (sU q3.1 57 1 ((q3.1 57 1) + 1))) else jn (fun q6 : sM => jn (fun q8 : Int => bn (X9_number F q6 0 q8) (fun r10 σ12 => jn (fun q13 : Int => if 0 ≤ wi ((56 + (14 * q1)) + q3.2) ∧ wi ((56 + (14 * q1)) + q3.2) < 112 then K4 ((sU σ12 61 (wi ((56 + (14 * q1)) + q3.2)).toNat q13), q3.2 + 1) else none) (fun K14 => if ¬ wi (σ12 55 16) = (-9) then if 0 ≤ wi ((56 + (14 * q1)) + q3.2) ∧ wi ((56 + (14 * q1)) + q3.2) < 112 then K14 (σ12 61 (wi ((56 + (14 * q1)) + q3.2)).toNat) else none else K14 r10))) (fun K9 => if 4 ≤ wi q3.2 then K9 10 else K9 99)) (fun K7 => jn (fun q19 : Unit => jn (fun q21 : Int => jn (fun q23 : Int => bn (X9_due F q3.1 q23) (fun r25 σ27 => K7 σ27)) (fun K24 => if ¬ wi (q3.1 55 14) = wi q21 then K24 0 else K24 1)) (fun K22 => if ¬ wi q3.2 = 4 then if ¬ wi q3.2 = 7 then K22 5 else K22 4 else K22 3)) (fun K20 => if wi q3.2 = 4 then K20 () else if wi q3.2 = 7 then K20 () else if ¬ wi q3.2 = 10 then K7 q3.1 else K20 ()))) F (σ, 0)) (fun K2 => if 4 ≤ wi (σ 57 1) then K2 0 else K2 (σ 57 1))
set_option maxRecDepth 100000 in
set_option maxHeartbeats 400000 in
theorem T_X9_readSort {G : sG} {q_0 : qT} {x_0 : List Nat} {σ s_0 : sM} {r_0 : Int} {F : Nat}  (h : X9_readSort F σ = some (r_0, s_0)) : aM G yX9_readSort cX9_readSort 4 none 4 0 0 [.ref (gP G 55)] (mkSh q_0 x_0, σ) (r_0, (mkSh q_0 x_0, s_0)) := by
  unfold X9_readSort at h
  refine aM_of (by decide) (Nat.le_of_ble_eq_true rfl) ?_
  show aW G cX9_readSort RX9 "readSort" 4 none _ _ aX 0 0 _ [(0, .ref (gP G 55))] 0 []
  refine a_bipush dX9_readSort_0 (by decide) ?_
  refine a_bipush dX9_readSort_2 (by decide) ?_
  refine a_aload_n 0 dX9_readSort_4 rfl ?_
  refine a_getR (j := 3) dX9_readSort_5 KX9 rfl (by decide) rfl kf_RX9_13 ?_
  refine a_iconst dX9_readSort_8 ?_
  refine a_iald (x' := 1) dX9_readSort_9 rfl (by decide) (by decide) rfl ?_
  refine a_iconst dX9_readSort_10 ?_
  refine jn_s (fun q1 : Int => aW G cX9_readSort RX9 "readSort" 4 none (sR 4 0 0) (aQ G none 0 0 (r_0, (mkSh q_0 x_0, s_0))) aX 0 0 (mkSh q_0 x_0, σ) [(0, .ref (gP G 55))] 24 [vI q1, vI 14, vI 56]) h (fun q1 h => ?_) (fun K2 hK2 h => ?_)
  · skip
    refine a_imul dX9_readSort_24 ?_
    refine a_iadd dX9_readSort_25 ?_
    refine a_istore_n (L' := [(1, vI (56 + (14 * q1))), (0, .ref (gP G 55))]) dX9_readSort_26 (by decide) rfl ?_
    refine a_iconst dX9_readSort_27 ?_
    refine a_istore_n (L' := [(2, vI 0), (1, vI (56 + (14 * q1))), (0, .ref (gP G 55))]) dX9_readSort_28 (by decide) rfl ?_
    refine a_sub (L' := [(0, .ref (gP G 55)), (1, vI (56 + (14 * q1))), (2, vI 0)]) [2, 1, 0] rfl (lp_s (x := (σ, 0)) (fun q3 : sM × Int => aW G cX9_readSort RX9 "readSort" 4 none (sR 4 0 0) (aQ G none 0 0 (r_0, (mkSh q_0 x_0, s_0))) aX 0 0 (mkSh q_0 x_0, q3.1) [(0, .ref (gP G 55)), (1, vI (56 + (14 * q1))), (2, vI q3.2)] 29 []) h (fun K4 hK4 q3 h => ?_))
    refine a_iload_n 2 dX9_readSort_29 rfl ?_
    refine a_bipush dX9_readSort_30 (by decide) ?_
    refine a_icmp_ge 142 dX9_readSort_32 (by decide) rfl (by decide) h (fun c5 h => ?_) (fun c5 h => ?_)
    · skip
      refine a_aload_n 0 dX9_readSort_142 rfl ?_
      refine a_getR (j := 3) dX9_readSort_143 KX9 rfl (by decide) rfl kf_RX9_13 ?_
      refine a_iconst dX9_readSort_146 ?_
      refine a_dup2 dX9_readSort_147 ?_
      refine a_iald (x' := 1) dX9_readSort_148 rfl (by decide) (by decide) rfl ?_
      refine a_iconst dX9_readSort_149 ?_
      refine a_iadd dX9_readSort_150 ?_
      refine a_iast (x' := 1) dX9_readSort_151 rfl (by decide) (by decide) rfl ?_
      exact a_vret dX9_readSort_152 rfl (p_S (p_2 h))
    · skip
      refine a_iload_n 2 dX9_readSort_35 rfl ?_
      refine a_iconst dX9_readSort_36 ?_
      refine jn_s (fun q6 : sM => aW G cX9_readSort RX9 "readSort" 4 none (sR 4 0 0) (aQ G none 0 0 (r_0, (mkSh q_0 x_0, s_0))) aX 0 0 (mkSh q_0 x_0, q6) [(0, .ref (gP G 55)), (1, vI (56 + (14 * q1))), (2, vI q3.2)] 89 []) h (fun q6 h => ?_) (fun K7 hK7 h => ?_)
      · skip
        refine a_aload_n 0 dX9_readSort_89 rfl ?_
        refine a_iconst dX9_readSort_90 ?_
        refine a_iload_n 2 dX9_readSort_91 rfl ?_
        refine a_iconst dX9_readSort_92 ?_
        refine jn_s (fun q8 : Int => aW G cX9_readSort RX9 "readSort" 4 none (sR 4 0 0) (aQ G none 0 0 (r_0, (mkSh q_0 x_0, s_0))) aX 0 0 (mkSh q_0 x_0, q6) [(0, .ref (gP G 55)), (1, vI (56 + (14 * q1))), (2, vI q3.2)] 103 [vI q8, vI 0, .ref (gP G 55)]) h (fun q8 h => ?_) (fun K9 hK9 h => ?_)
        · skip
          refine bn_s h (fun r10 σ12 e11 h => ?_)
          refine a_callVI dX9_readSort_103 mX9_number KX9 rfl kv_X9_number ks_X9_number rfl km_RX9_143 rfl (T_X9_number e11) (fun _ => rfl) rfl (Nat.le_of_ble_eq_true rfl) (Nat.le_of_ble_eq_true rfl) ⟨(Nat.le_of_ble_eq_true rfl), (Nat.le_of_ble_eq_true rfl)⟩ (Nat.le_of_ble_eq_true rfl) ?_
          refine a_istore_n (L' := [(3, vI r10), (0, .ref (gP G 55)), (1, vI (56 + (14 * q1))), (2, vI q3.2)]) dX9_readSort_106 (by decide) rfl ?_
          refine a_aload_n 1 dX9_readSort_107 rfl ?_
          refine a_getR (j := 7) dX9_readSort_108 KX9 rfl (by decide) rfl kf_RX9_26 ?_
          refine a_iload_n 2 dX9_readSort_111 rfl ?_
          refine a_iload_n 3 dX9_readSort_112 rfl ?_
          refine a_iadd dX9_readSort_113 ?_
          refine a_aload_n 1 dX9_readSort_114 rfl ?_
          refine a_getI (j := 16) dX9_readSort_115 KX9 rfl (by decide) rfl kf_RX9_133 ?_
          refine a_bipush dX9_readSort_118 (by decide) ?_
          refine jn_s (fun q13 : Int => aW G cX9_readSort RX9 "readSort" 4 none (sR 4 0 0) (aQ G none 0 0 (r_0, (mkSh q_0 x_0, s_0))) aX 0 0 (mkSh q_0 x_0, σ12) [(0, .ref (gP G 55)), (1, vI (56 + (14 * q1))), (2, vI q3.2)] 135 [vI q13, vI ((56 + (14 * q1)) + q3.2), .ref (gP G 61)]) h (fun q13 h => ?_) (fun K14 hK14 h => ?_)
          · skip
            refine a_gd h (fun c15 h => ?_)
            refine a_iast (x' := wi ((56 + (14 * q1)) + q3.2)) dX9_readSort_135 rfl rfl c15 rfl ?_
            refine a_iinc (L' := [(2, vI (q3.2 + 1)), (0, .ref (gP G 55)), (1, vI (56 + (14 * q1)))]) 2 dX9_readSort_136 rfl (by decide) rfl ?_
            refine a_goto 29 dX9_readSort_139 (by decide) ?_
            have hh := hK4 _ h
            exact a_sub [1, 2, 0] rfl hh
          · skip
            refine a_icmp_ne 127 dX9_readSort_120 (by decide) rfl (by decide) h (fun c16 h => ?_) (fun c16 h => ?_)
            · skip
              refine a_aload_n 1 dX9_readSort_127 rfl ?_
              refine a_getR (j := 7) dX9_readSort_128 KX9 rfl (by decide) rfl kf_RX9_26 ?_
              refine a_iload_n 2 dX9_readSort_131 rfl ?_
              refine a_iload_n 3 dX9_readSort_132 rfl ?_
              refine a_iadd dX9_readSort_133 ?_
              refine a_gd h (fun c17 h => ?_)
              refine a_iald (x' := wi ((56 + (14 * q1)) + q3.2)) dX9_readSort_134 rfl rfl c17 rfl ?_
              have hh := hK14 _ h
              exact a_sub [1, 2, 3] rfl hh
            · skip
              refine a_iload_n 0 dX9_readSort_123 rfl ?_
              refine a_goto 135 dX9_readSort_124 (by decide) ?_
              have hh := hK14 _ h
              exact a_sub [1, 2, 3] rfl hh
        · skip
          refine a_icmp_ge 101 dX9_readSort_93 (by decide) rfl (by decide) h (fun c18 h => ?_) (fun c18 h => ?_)
          · skip
            refine a_bipush dX9_readSort_101 (by decide) ?_
            have hh := hK9 _ h
            exact a_sub [0, 1, 2] rfl hh
          · skip
            refine a_bipush dX9_readSort_96 (by decide) ?_
            refine a_goto 103 dX9_readSort_98 (by decide) ?_
            have hh := hK9 _ h
            exact a_sub [0, 1, 2] rfl hh
      · skip
        refine jn_s (fun q19 : Unit => aW G cX9_readSort RX9 "readSort" 4 none (sR 4 0 0) (aQ G none 0 0 (r_0, (mkSh q_0 x_0, s_0))) aX 0 0 (mkSh q_0 x_0, q3.1) [(0, .ref (gP G 55)), (1, vI (56 + (14 * q1))), (2, vI q3.2)] 52 []) h (fun q19 h => ?_) (fun K20 hK20 h => ?_)
        · skip
          refine a_aload_n 0 dX9_readSort_52 rfl ?_
          refine a_aload_n 0 dX9_readSort_53 rfl ?_
          refine a_getI (j := 14) dX9_readSort_54 KX9 rfl (by decide) rfl kf_RX9_126 ?_
          refine a_iload_n 2 dX9_readSort_57 rfl ?_
          refine a_iconst dX9_readSort_58 ?_
          refine jn_s (fun q21 : Int => aW G cX9_readSort RX9 "readSort" 4 none (sR 4 0 0) (aQ G none 0 0 (r_0, (mkSh q_0 x_0, s_0))) aX 0 0 (mkSh q_0 x_0, q3.1) [(0, .ref (gP G 55)), (1, vI (56 + (14 * q1))), (2, vI q3.2)] 77 [vI q21, vI (q3.1 55 14), .ref (gP G 55)]) h (fun q21 h => ?_) (fun K22 hK22 h => ?_)
          · skip
            refine jn_s (fun q23 : Int => aW G cX9_readSort RX9 "readSort" 4 none (sR 4 0 0) (aQ G none 0 0 (r_0, (mkSh q_0 x_0, s_0))) aX 0 0 (mkSh q_0 x_0, q3.1) [(0, .ref (gP G 55)), (1, vI (56 + (14 * q1))), (2, vI q3.2)] 85 [vI q23, .ref (gP G 55)]) h (fun q23 h => ?_) (fun K24 hK24 h => ?_)
            · skip
              refine bn_s h (fun r25 σ27 e26 h => ?_)
              refine a_callVI dX9_readSort_85 mX9_due KX9 rfl kv_X9_due ks_X9_due rfl km_RX9_139 rfl (T_X9_due e26) (fun _ => rfl) rfl (Nat.le_of_ble_eq_true rfl) (Nat.le_of_ble_eq_true rfl) ⟨(Nat.le_of_ble_eq_true rfl), (Nat.le_of_ble_eq_true rfl)⟩ (Nat.le_of_ble_eq_true rfl) ?_
              refine a_popI dX9_readSort_88 ?_
              have hh := hK7 _ h
              exact a_sub [0, 1, 2] rfl hh
            · skip
              refine a_icmp_ne 84 dX9_readSort_77 (by decide) rfl rfl h (fun c28 h => ?_) (fun c28 h => ?_)
              · skip
                refine a_iconst dX9_readSort_84 ?_
                have hh := hK24 _ h
                exact a_sub [0, 1, 2] rfl hh
              · skip
                refine a_iconst dX9_readSort_80 ?_
                refine a_goto 85 dX9_readSort_81 (by decide) ?_
                have hh := hK24 _ h
                exact a_sub [0, 1, 2] rfl hh
          · skip
            refine a_icmp_ne 66 dX9_readSort_59 (by decide) rfl (by decide) h (fun c29 h => ?_) (fun c29 h => ?_)
            · skip
              refine a_iload_n 2 dX9_readSort_66 rfl ?_
              refine a_bipush dX9_readSort_67 (by decide) ?_
              refine a_icmp_ne 76 dX9_readSort_69 (by decide) rfl (by decide) h (fun c30 h => ?_) (fun c30 h => ?_)
              · skip
                refine a_iconst dX9_readSort_76 ?_
                have hh := hK22 _ h
                exact a_sub [0, 1, 2] rfl hh
              · skip
                refine a_iconst dX9_readSort_72 ?_
                refine a_goto 77 dX9_readSort_73 (by decide) ?_
                have hh := hK22 _ h
                exact a_sub [0, 1, 2] rfl hh
            · skip
              refine a_iconst dX9_readSort_62 ?_
              refine a_goto 77 dX9_readSort_63 (by decide) ?_
              have hh := hK22 _ h
              exact a_sub [0, 1, 2] rfl hh
        · skip
          refine a_icmp_eq 52 dX9_readSort_37 (by decide) rfl (by decide) h (fun c31 h => ?_) (fun c31 h => ?_)
          · skip
            have hh := hK20 _ h
            exact a_sub [0, 1, 2] rfl hh
          · skip
            refine a_iload_n 2 dX9_readSort_40 rfl ?_
            refine a_bipush dX9_readSort_41 (by decide) ?_
            refine a_icmp_eq 52 dX9_readSort_43 (by decide) rfl (by decide) h (fun c32 h => ?_) (fun c32 h => ?_)
            · skip
              have hh := hK20 _ h
              exact a_sub [0, 1, 2] rfl hh
            · skip
              refine a_iload_n 2 dX9_readSort_46 rfl ?_
              refine a_bipush dX9_readSort_47 (by decide) ?_
              refine a_icmp_ne 89 dX9_readSort_49 (by decide) rfl (by decide) h (fun c33 h => ?_) (fun c33 h => ?_)
              · skip
                have hh := hK7 _ h
                exact a_sub [0, 1, 2] rfl hh
              · skip
                have hh := hK20 _ h
                exact a_sub [0, 1, 2] rfl hh
  · skip
    refine a_icmp_ge 23 dX9_readSort_11 (by decide) rfl (by decide) h (fun c34 h => ?_) (fun c34 h => ?_)
    · skip
      refine a_iconst dX9_readSort_23 ?_
      have hh := hK2 _ h
      exact a_sub [0] rfl hh
    · skip
      refine a_aload_n 0 dX9_readSort_14 rfl ?_
      refine a_getR (j := 3) dX9_readSort_15 KX9 rfl (by decide) rfl kf_RX9_13 ?_
      refine a_iconst dX9_readSort_18 ?_
      refine a_iald (x' := 1) dX9_readSort_19 rfl (by decide) (by decide) rfl ?_
      refine a_goto 24 dX9_readSort_20 (by decide) ?_
      have hh := hK2 _ h
      exact a_sub [0] rfl hh

def X9_item (F : Nat) (σ : sM) (a1 a2 : Int) : Option (Int × sM) := jn (fun q1 : Int => bn (X9_due F σ q1) (fun r3 σ5 => if wi (σ5 55 16) = (-9) then jn (fun q7 : sM => jn (fun q9 : Int => bn (X9_due F q7 q9) (fun r11 σ13 => some (0, σ13))) (fun K10 => if ¬ wi (q7 55 14) = 11 then K10 0 else K10 1)) (fun K8 => if ¬ wi a1 = 1 then if ¬ wi a1 = 2 then if ¬ wi a1 = 6 then if ¬ wi a1 = 7 then bn (X9_number F σ5 0 7) (fun r19 σ21 => jn (fun q22 : Int => bn (X9_number F σ21 0 q22) (fun r24 σ26 => jn (fun q27 : Unit => if ¬ wi (σ26 55 16) = (-9) then K8 σ26 else if 0 ≤ wi (8 + r19) ∧ wi (8 + r19) < 16 then K8 (sU σ26 65 (wi (8 + r19)).toNat r24) else none) (fun K28 => if ¬ wi (σ26 55 16) = (-9) then K28 () else if ¬ wi a1 = 8 then K28 () else if 0 ≤ wi (8 + r19) ∧ wi (8 + r19) < 16 then K8 (sU σ26 64 (wi (8 + r19)).toNat r24) else none))) (fun K23 => if ¬ wi a1 = 8 then K23 99 else K23 5)) else bn (X9_number F σ5 1 3) (fun r35 σ37 => K8 (sU σ37 60 1 r35)) else bn (X9_number F σ5 0 ((σ5 57 1) - 1)) (fun r38 σ40 => if 0 ≤ wi (3 + (σ5 58 1)) ∧ wi (3 + (σ5 58 1)) < 6 then bn (X9_number F (sU σ40 62 (wi (3 + (σ5 58 1))).toNat r38) 1 3) (fun r42 σ44 => if 0 ≤ wi (3 + ((sU σ40 62 (wi (3 + (σ5 58 1))).toNat r38) 58 1)) ∧ wi (3 + ((sU σ40 62 (wi (3 + (σ5 58 1))).toNat r38) 58 1)) < 6 then nm (sU (sU σ44 63 (wi (3 + ((sU σ40 62 (wi (3 + (σ5 58 1))).toNat r38) 58 1))).toNat r42) 58 1 (((sU σ44 63 (wi (3 + ((sU σ40 62 (wi (3 + (σ5 58 1))).toNat r38) 58 1))).toNat r42) 58 1) + 1)) (fun σ46 => K8 σ46) else none) else none) else bn (X9_readSort F σ5) (fun r48 σ50 => K8 σ50) else bn (X9_number F σ5 1 8) (fun r51 σ53 => K8 (sU σ53 59 1 r51))) else some (0, σ5))) (fun K2 => if ¬ wi a1 = 1 then if ¬ wi a1 = 2 then if ¬ wi a1 = 6 then jn (fun q57 : Unit => K2 1) (fun K58 => if wi a1 = 7 then K58 () else if wi a1 = 8 then K58 () else if ¬ wi a1 = 9 then K2 0 else K58 ()) else if 3 ≤ wi (σ 58 1) then K2 0 else K2 1 else if 4 ≤ wi (σ 57 1) then K2 0 else K2 1 else if ¬ wi a2 = 0 then K2 0 else K2 1)
set_option maxRecDepth 100000 in
set_option maxHeartbeats 400000 in
theorem T_X9_item {G : sG} {q_0 : qT} {x_0 : List Nat} {σ s_0 : sM} {r_0 : Int} {a1 a2 : Int} {F : Nat}  (h : X9_item F σ a1 a2 = some (r_0, s_0)) : aM G yX9_item cX9_item 5 none 5 0 0 [.ref (gP G 55), vI a1, vI a2] (mkSh q_0 x_0, σ) (r_0, (mkSh q_0 x_0, s_0)) := by
  unfold X9_item at h
  refine aM_of (by decide) (Nat.le_of_ble_eq_true rfl) ?_
  show aW G cX9_item RX9 "item" 5 none _ _ aX 0 0 _ [(0, .ref (gP G 55)), (1, vI a1), (2, vI a2)] 0 []
  refine a_aload_n 0 dX9_item_0 rfl ?_
  refine a_iload_n 1 dX9_item_1 rfl ?_
  refine a_iconst dX9_item_2 ?_
  refine jn_s (fun q1 : Int => aW G cX9_item RX9 "item" 5 none (sR 5 0 0) (aQ G none 0 0 (r_0, (mkSh q_0 x_0, s_0))) aX 0 0 (mkSh q_0 x_0, σ) [(0, .ref (gP G 55)), (1, vI a1)] 88 [vI q1, .ref (gP G 55)]) h (fun q1 h => ?_) (fun K2 hK2 h => ?_)
  · skip
    refine bn_s h (fun r3 σ5 e4 h => ?_)
    refine a_callVI dX9_item_88 mX9_due KX9 rfl kv_X9_due ks_X9_due rfl km_RX9_139 rfl (T_X9_due e4) (fun _ => rfl) rfl (Nat.le_of_ble_eq_true rfl) (Nat.le_of_ble_eq_true rfl) ⟨(Nat.le_of_ble_eq_true rfl), (Nat.le_of_ble_eq_true rfl)⟩ (Nat.le_of_ble_eq_true rfl) ?_
    refine a_popI dX9_item_91 ?_
    refine a_aload_n 0 dX9_item_92 rfl ?_
    refine a_getI (j := 16) dX9_item_93 KX9 rfl (by decide) rfl kf_RX9_133 ?_
    refine a_bipush dX9_item_96 (by decide) ?_
    refine a_icmp_eq 102 dX9_item_98 (by decide) rfl (by decide) h (fun c6 h => ?_) (fun c6 h => ?_)
    · skip
      refine a_iload_n 1 dX9_item_102 rfl ?_
      refine a_iconst dX9_item_103 ?_
      refine jn_s (fun q7 : sM => aW G cX9_item RX9 "item" 5 none (sR 5 0 0) (aQ G none 0 0 (r_0, (mkSh q_0 x_0, s_0))) aX 0 0 (mkSh q_0 x_0, q7) [(0, .ref (gP G 55))] 296 []) h (fun q7 h => ?_) (fun K8 hK8 h => ?_)
      · skip
        refine a_aload_n 0 dX9_item_296 rfl ?_
        refine a_aload_n 0 dX9_item_297 rfl ?_
        refine a_getI (j := 14) dX9_item_298 KX9 rfl (by decide) rfl kf_RX9_126 ?_
        refine a_bipush dX9_item_301 (by decide) ?_
        refine jn_s (fun q9 : Int => aW G cX9_item RX9 "item" 5 none (sR 5 0 0) (aQ G none 0 0 (r_0, (mkSh q_0 x_0, s_0))) aX 0 0 (mkSh q_0 x_0, q7) [] 311 [vI q9, .ref (gP G 55)]) h (fun q9 h => ?_) (fun K10 hK10 h => ?_)
        · skip
          refine bn_s h (fun r11 σ13 e12 h => ?_)
          refine a_callVI dX9_item_311 mX9_due KX9 rfl kv_X9_due ks_X9_due rfl km_RX9_139 rfl (T_X9_due e12) (fun _ => rfl) rfl (Nat.le_of_ble_eq_true rfl) (Nat.le_of_ble_eq_true rfl) ⟨(Nat.le_of_ble_eq_true rfl), (Nat.le_of_ble_eq_true rfl)⟩ (Nat.le_of_ble_eq_true rfl) ?_
          refine a_popI dX9_item_314 ?_
          exact a_vret dX9_item_315 rfl (p_S (p_2 h))
        · skip
          refine a_icmp_ne 310 dX9_item_303 (by decide) rfl (by decide) h (fun c14 h => ?_) (fun c14 h => ?_)
          · skip
            refine a_iconst dX9_item_310 ?_
            have hh := hK10 _ h
            exact a_sub [] rfl hh
          · skip
            refine a_iconst dX9_item_306 ?_
            refine a_goto 311 dX9_item_307 (by decide) ?_
            have hh := hK10 _ h
            exact a_sub [] rfl hh
      · skip
        refine a_icmp_ne 123 dX9_item_104 (by decide) rfl (by decide) h (fun c15 h => ?_) (fun c15 h => ?_)
        · skip
          refine a_iload_n 1 dX9_item_123 rfl ?_
          refine a_iconst dX9_item_124 ?_
          refine a_icmp_ne 135 dX9_item_125 (by decide) rfl (by decide) h (fun c16 h => ?_) (fun c16 h => ?_)
          · skip
            refine a_iload_n 1 dX9_item_135 rfl ?_
            refine a_bipush dX9_item_136 (by decide) ?_
            refine a_icmp_ne 199 dX9_item_138 (by decide) rfl (by decide) h (fun c17 h => ?_) (fun c17 h => ?_)
            · skip
              refine a_iload_n 1 dX9_item_199 rfl ?_
              refine a_bipush dX9_item_200 (by decide) ?_
              refine a_icmp_ne 220 dX9_item_202 (by decide) rfl (by decide) h (fun c18 h => ?_) (fun c18 h => ?_)
              · skip
                refine a_aload_n 0 dX9_item_220 rfl ?_
                refine a_iconst dX9_item_221 ?_
                refine a_bipush dX9_item_222 (by decide) ?_
                refine bn_s h (fun r19 σ21 e20 h => ?_)
                refine a_callVI dX9_item_224 mX9_number KX9 rfl kv_X9_number ks_X9_number rfl km_RX9_143 rfl (T_X9_number e20) (fun _ => rfl) rfl (Nat.le_of_ble_eq_true rfl) (Nat.le_of_ble_eq_true rfl) ⟨(Nat.le_of_ble_eq_true rfl), (Nat.le_of_ble_eq_true rfl)⟩ (Nat.le_of_ble_eq_true rfl) ?_
                refine a_istore_n (L' := [(3, vI r19), (0, .ref (gP G 55)), (1, vI a1)]) dX9_item_227 (by decide) rfl ?_
                refine a_aload_n 1 dX9_item_228 rfl ?_
                refine a_iconst dX9_item_229 ?_
                refine a_iload_n 2 dX9_item_230 rfl ?_
                refine a_bipush dX9_item_231 (by decide) ?_
                refine jn_s (fun q22 : Int => aW G cX9_item RX9 "item" 5 none (sR 5 0 0) (aQ G none 0 0 (r_0, (mkSh q_0 x_0, s_0))) aX 0 0 (mkSh q_0 x_0, σ21) [(0, .ref (gP G 55)), (1, vI a1), (3, vI r19)] 242 [vI q22, vI 0, .ref (gP G 55)]) h (fun q22 h => ?_) (fun K23 hK23 h => ?_)
                · skip
                  refine bn_s h (fun r24 σ26 e25 h => ?_)
                  refine a_callVI dX9_item_242 mX9_number KX9 rfl kv_X9_number ks_X9_number rfl km_RX9_143 rfl (T_X9_number e25) (fun _ => rfl) rfl (Nat.le_of_ble_eq_true rfl) (Nat.le_of_ble_eq_true rfl) ⟨(Nat.le_of_ble_eq_true rfl), (Nat.le_of_ble_eq_true rfl)⟩ (Nat.le_of_ble_eq_true rfl) ?_
                  refine a_istore (L' := [(4, vI r24), (0, .ref (gP G 55)), (1, vI a1), (3, vI r19)]) dX9_item_245 (by decide) rfl ?_
                  refine a_aload_n 1 dX9_item_247 rfl ?_
                  refine a_getI (j := 16) dX9_item_248 KX9 rfl (by decide) rfl kf_RX9_133 ?_
                  refine a_bipush dX9_item_251 (by decide) ?_
                  refine jn_s (fun q27 : Unit => aW G cX9_item RX9 "item" 5 none (sR 5 0 0) (aQ G none 0 0 (r_0, (mkSh q_0 x_0, s_0))) aX 0 0 (mkSh q_0 x_0, σ26) [(0, .ref (gP G 55)), (3, vI r19), (4, vI r24)] 276 []) h (fun q27 h => ?_) (fun K28 hK28 h => ?_)
                  · skip
                    refine a_aload_n 0 dX9_item_276 rfl ?_
                    refine a_getI (j := 16) dX9_item_277 KX9 rfl (by decide) rfl kf_RX9_133 ?_
                    refine a_bipush dX9_item_280 (by decide) ?_
                    refine a_icmp_ne 296 dX9_item_282 (by decide) rfl (by decide) h (fun c29 h => ?_) (fun c29 h => ?_)
                    · skip
                      have hh := hK8 _ h
                      exact a_sub [0] rfl hh
                    · skip
                      refine a_aload_n 0 dX9_item_285 rfl ?_
                      refine a_getR (j := 11) dX9_item_286 KX9 rfl (by decide) rfl kf_RX9_38 ?_
                      refine a_bipush dX9_item_289 (by decide) ?_
                      refine a_iload_n 1 dX9_item_291 rfl ?_
                      refine a_iadd dX9_item_292 ?_
                      refine a_iload 2 dX9_item_293 rfl ?_
                      refine a_gd h (fun c30 h => ?_)
                      refine a_iast (x' := wi (8 + r19)) dX9_item_295 rfl rfl c30 rfl ?_
                      have hh := hK8 _ h
                      exact a_sub [0] rfl hh
                  · skip
                    refine a_icmp_ne 276 dX9_item_253 (by decide) rfl (by decide) h (fun c31 h => ?_) (fun c31 h => ?_)
                    · skip
                      have hh := hK28 _ h
                      exact a_sub [1, 3, 0] rfl hh
                    · skip
                      refine a_iload_n 2 dX9_item_256 rfl ?_
                      refine a_bipush dX9_item_257 (by decide) ?_
                      refine a_icmp_ne 276 dX9_item_259 (by decide) rfl (by decide) h (fun c32 h => ?_) (fun c32 h => ?_)
                      · skip
                        have hh := hK28 _ h
                        exact a_sub [1, 3, 0] rfl hh
                      · skip
                        refine a_aload_n 1 dX9_item_262 rfl ?_
                        refine a_getR (j := 10) dX9_item_263 KX9 rfl (by decide) rfl kf_RX9_35 ?_
                        refine a_bipush dX9_item_266 (by decide) ?_
                        refine a_iload_n 3 dX9_item_268 rfl ?_
                        refine a_iadd dX9_item_269 ?_
                        refine a_iload 0 dX9_item_270 rfl ?_
                        refine a_gd h (fun c33 h => ?_)
                        refine a_iast (x' := wi (8 + r19)) dX9_item_272 rfl rfl c33 rfl ?_
                        refine a_goto 296 dX9_item_273 (by decide) ?_
                        have hh := hK8 _ h
                        exact a_sub [1] rfl hh
                · skip
                  refine a_icmp_ne 240 dX9_item_233 (by decide) rfl (by decide) h (fun c34 h => ?_) (fun c34 h => ?_)
                  · skip
                    refine a_bipush dX9_item_240 (by decide) ?_
                    have hh := hK23 _ h
                    exact a_sub [1, 2, 0] rfl hh
                  · skip
                    refine a_iconst dX9_item_236 ?_
                    refine a_goto 242 dX9_item_237 (by decide) ?_
                    have hh := hK23 _ h
                    exact a_sub [1, 2, 0] rfl hh
              · skip
                refine a_aload_n 0 dX9_item_205 rfl ?_
                refine a_getR (j := 6) dX9_item_206 KX9 rfl (by decide) rfl kf_RX9_23 ?_
                refine a_iconst dX9_item_209 ?_
                refine a_aload_n 0 dX9_item_210 rfl ?_
                refine a_iconst dX9_item_211 ?_
                refine a_iconst dX9_item_212 ?_
                refine bn_s h (fun r35 σ37 e36 h => ?_)
                refine a_callVI dX9_item_213 mX9_number KX9 rfl kv_X9_number ks_X9_number rfl km_RX9_143 rfl (T_X9_number e36) (fun _ => rfl) rfl (Nat.le_of_ble_eq_true rfl) (Nat.le_of_ble_eq_true rfl) ⟨(Nat.le_of_ble_eq_true rfl), (Nat.le_of_ble_eq_true rfl)⟩ (Nat.le_of_ble_eq_true rfl) ?_
                refine a_iast (x' := 1) dX9_item_216 rfl (by decide) (by decide) rfl ?_
                refine a_goto 296 dX9_item_217 (by decide) ?_
                have hh := hK8 _ h
                exact a_sub [0] rfl hh
            · skip
              refine a_aload_n 0 dX9_item_141 rfl ?_
              refine a_getR (j := 8) dX9_item_142 KX9 rfl (by decide) rfl kf_RX9_29 ?_
              refine a_iconst dX9_item_145 ?_
              refine a_aload_n 0 dX9_item_146 rfl ?_
              refine a_getR (j := 4) dX9_item_147 KX9 rfl (by decide) rfl kf_RX9_17 ?_
              refine a_iconst dX9_item_150 ?_
              refine a_iald (x' := 1) dX9_item_151 rfl (by decide) (by decide) rfl ?_
              refine a_iadd dX9_item_152 ?_
              refine a_aload_n 0 dX9_item_153 rfl ?_
              refine a_iconst dX9_item_154 ?_
              refine a_aload_n 0 dX9_item_155 rfl ?_
              refine a_getR (j := 3) dX9_item_156 KX9 rfl (by decide) rfl kf_RX9_13 ?_
              refine a_iconst dX9_item_159 ?_
              refine a_iald (x' := 1) dX9_item_160 rfl (by decide) (by decide) rfl ?_
              refine a_iconst dX9_item_161 ?_
              refine a_isub dX9_item_162 ?_
              refine bn_s h (fun r38 σ40 e39 h => ?_)
              refine a_callVI dX9_item_163 mX9_number KX9 rfl kv_X9_number ks_X9_number rfl km_RX9_143 rfl (T_X9_number e39) (fun _ => rfl) rfl (Nat.le_of_ble_eq_true rfl) (Nat.le_of_ble_eq_true rfl) ⟨(Nat.le_of_ble_eq_true rfl), (Nat.le_of_ble_eq_true rfl)⟩ (Nat.le_of_ble_eq_true rfl) ?_
              refine a_gd h (fun c41 h => ?_)
              refine a_iast (x' := wi (3 + (σ5 58 1))) dX9_item_166 rfl rfl c41 rfl ?_
              refine a_aload_n 0 dX9_item_167 rfl ?_
              refine a_getR (j := 9) dX9_item_168 KX9 rfl (by decide) rfl kf_RX9_32 ?_
              refine a_iconst dX9_item_171 ?_
              refine a_aload_n 0 dX9_item_172 rfl ?_
              refine a_getR (j := 4) dX9_item_173 KX9 rfl (by decide) rfl kf_RX9_17 ?_
              refine a_iconst dX9_item_176 ?_
              refine a_iald (x' := 1) dX9_item_177 rfl (by decide) (by decide) rfl ?_
              refine a_iadd dX9_item_178 ?_
              refine a_aload_n 0 dX9_item_179 rfl ?_
              refine a_iconst dX9_item_180 ?_
              refine a_iconst dX9_item_181 ?_
              refine bn_s h (fun r42 σ44 e43 h => ?_)
              refine a_callVI dX9_item_182 mX9_number KX9 rfl kv_X9_number ks_X9_number rfl km_RX9_143 rfl (T_X9_number e43) (fun _ => rfl) rfl (Nat.le_of_ble_eq_true rfl) (Nat.le_of_ble_eq_true rfl) ⟨(Nat.le_of_ble_eq_true rfl), (Nat.le_of_ble_eq_true rfl)⟩ (Nat.le_of_ble_eq_true rfl) ?_
              refine a_gd h (fun c45 h => ?_)
              refine a_iast (x' := wi (3 + ((sU σ40 62 (wi (3 + (σ5 58 1))).toNat r38) 58 1))) dX9_item_185 rfl rfl c45 rfl ?_
              refine a_aload_n 0 dX9_item_186 rfl ?_
              refine a_getR (j := 4) dX9_item_187 KX9 rfl (by decide) rfl kf_RX9_17 ?_
              refine a_iconst dX9_item_190 ?_
              refine a_dup2 dX9_item_191 ?_
              refine a_iald (x' := 1) dX9_item_192 rfl (by decide) (by decide) rfl ?_
              refine a_iconst dX9_item_193 ?_
              refine a_iadd dX9_item_194 ?_
              refine a_iast (x' := 1) dX9_item_195 rfl (by decide) (by decide) rfl ?_
              refine a_nmS h (fun σ46 w47 h => ?_)
              refine a_goto 296 dX9_item_196 (by decide) ?_
              have hh := hK8 _ h
              exact a_sub [0] rfl hh
          · skip
            refine a_aload_n 0 dX9_item_128 rfl ?_
            refine bn_s h (fun r48 σ50 e49 h => ?_)
            refine a_callVV dX9_item_129 mX9_readSort KX9 rfl kv_X9_readSort ks_X9_readSort rfl km_RX9_147 rfl (T_X9_readSort e49) (fun _ => rfl) rfl (Nat.le_of_ble_eq_true rfl) (Nat.le_of_ble_eq_true rfl) ⟨(Nat.le_of_ble_eq_true rfl), (Nat.le_of_ble_eq_true rfl)⟩ (Nat.le_of_ble_eq_true rfl) ?_
            refine a_goto 296 dX9_item_132 (by decide) ?_
            have hh := hK8 _ h
            exact a_sub [0] rfl hh
        · skip
          refine a_aload_n 0 dX9_item_107 rfl ?_
          refine a_getR (j := 5) dX9_item_108 KX9 rfl (by decide) rfl kf_RX9_20 ?_
          refine a_iconst dX9_item_111 ?_
          refine a_aload_n 0 dX9_item_112 rfl ?_
          refine a_iconst dX9_item_113 ?_
          refine a_bipush dX9_item_114 (by decide) ?_
          refine bn_s h (fun r51 σ53 e52 h => ?_)
          refine a_callVI dX9_item_116 mX9_number KX9 rfl kv_X9_number ks_X9_number rfl km_RX9_143 rfl (T_X9_number e52) (fun _ => rfl) rfl (Nat.le_of_ble_eq_true rfl) (Nat.le_of_ble_eq_true rfl) ⟨(Nat.le_of_ble_eq_true rfl), (Nat.le_of_ble_eq_true rfl)⟩ (Nat.le_of_ble_eq_true rfl) ?_
          refine a_iast (x' := 1) dX9_item_119 rfl (by decide) (by decide) rfl ?_
          refine a_goto 296 dX9_item_120 (by decide) ?_
          have hh := hK8 _ h
          exact a_sub [0] rfl hh
    · skip
      exact a_vret dX9_item_101 rfl (p_S (p_2 h))
  · skip
    refine a_icmp_ne 18 dX9_item_3 (by decide) rfl (by decide) h (fun c54 h => ?_) (fun c54 h => ?_)
    · skip
      refine a_iload_n 1 dX9_item_18 rfl ?_
      refine a_iconst dX9_item_19 ?_
      refine a_icmp_ne 41 dX9_item_20 (by decide) rfl (by decide) h (fun c55 h => ?_) (fun c55 h => ?_)
      · skip
        refine a_iload_n 1 dX9_item_41 rfl ?_
        refine a_bipush dX9_item_42 (by decide) ?_
        refine a_icmp_ne 65 dX9_item_44 (by decide) rfl (by decide) h (fun c56 h => ?_) (fun c56 h => ?_)
        · skip
          refine a_iload_n 1 dX9_item_65 rfl ?_
          refine a_bipush dX9_item_66 (by decide) ?_
          refine jn_s (fun q57 : Unit => aW G cX9_item RX9 "item" 5 none (sR 5 0 0) (aQ G none 0 0 (r_0, (mkSh q_0 x_0, s_0))) aX 0 0 (mkSh q_0 x_0, σ) [(0, .ref (gP G 55)), (1, vI a1)] 83 [.ref (gP G 55)]) h (fun q57 h => ?_) (fun K58 hK58 h => ?_)
          · skip
            refine a_iconst dX9_item_83 ?_
            refine a_goto 88 dX9_item_84 (by decide) ?_
            have hh := hK2 _ h
            exact a_sub [0, 1] rfl hh
          · skip
            refine a_icmp_eq 83 dX9_item_68 (by decide) rfl (by decide) h (fun c59 h => ?_) (fun c59 h => ?_)
            · skip
              have hh := hK58 _ h
              exact a_sub [0, 1] rfl hh
            · skip
              refine a_iload_n 1 dX9_item_71 rfl ?_
              refine a_bipush dX9_item_72 (by decide) ?_
              refine a_icmp_eq 83 dX9_item_74 (by decide) rfl (by decide) h (fun c60 h => ?_) (fun c60 h => ?_)
              · skip
                have hh := hK58 _ h
                exact a_sub [0, 1] rfl hh
              · skip
                refine a_iload_n 1 dX9_item_77 rfl ?_
                refine a_bipush dX9_item_78 (by decide) ?_
                refine a_icmp_ne 87 dX9_item_80 (by decide) rfl (by decide) h (fun c61 h => ?_) (fun c61 h => ?_)
                · skip
                  refine a_iconst dX9_item_87 ?_
                  have hh := hK2 _ h
                  exact a_sub [0, 1] rfl hh
                · skip
                  have hh := hK58 _ h
                  exact a_sub [0, 1] rfl hh
        · skip
          refine a_aload_n 0 dX9_item_47 rfl ?_
          refine a_getR (j := 4) dX9_item_48 KX9 rfl (by decide) rfl kf_RX9_17 ?_
          refine a_iconst dX9_item_51 ?_
          refine a_iald (x' := 1) dX9_item_52 rfl (by decide) (by decide) rfl ?_
          refine a_iconst dX9_item_53 ?_
          refine a_icmp_ge 61 dX9_item_54 (by decide) rfl (by decide) h (fun c62 h => ?_) (fun c62 h => ?_)
          · skip
            refine a_iconst dX9_item_61 ?_
            refine a_goto 88 dX9_item_62 (by decide) ?_
            have hh := hK2 _ h
            exact a_sub [0, 1] rfl hh
          · skip
            refine a_iconst dX9_item_57 ?_
            refine a_goto 88 dX9_item_58 (by decide) ?_
            have hh := hK2 _ h
            exact a_sub [0, 1] rfl hh
      · skip
        refine a_aload_n 0 dX9_item_23 rfl ?_
        refine a_getR (j := 3) dX9_item_24 KX9 rfl (by decide) rfl kf_RX9_13 ?_
        refine a_iconst dX9_item_27 ?_
        refine a_iald (x' := 1) dX9_item_28 rfl (by decide) (by decide) rfl ?_
        refine a_iconst dX9_item_29 ?_
        refine a_icmp_ge 37 dX9_item_30 (by decide) rfl (by decide) h (fun c63 h => ?_) (fun c63 h => ?_)
        · skip
          refine a_iconst dX9_item_37 ?_
          refine a_goto 88 dX9_item_38 (by decide) ?_
          have hh := hK2 _ h
          exact a_sub [0, 1] rfl hh
        · skip
          refine a_iconst dX9_item_33 ?_
          refine a_goto 88 dX9_item_34 (by decide) ?_
          have hh := hK2 _ h
          exact a_sub [0, 1] rfl hh
    · skip
      refine a_iload_n 2 dX9_item_6 rfl ?_
      refine a_if_ne 14 dX9_item_7 (by decide) rfl h (fun c64 h => ?_) (fun c64 h => ?_)
      · skip
        refine a_iconst dX9_item_14 ?_
        refine a_goto 88 dX9_item_15 (by decide) ?_
        have hh := hK2 _ h
        exact a_sub [0, 1] rfl hh
      · skip
        refine a_iconst dX9_item_10 ?_
        refine a_goto 88 dX9_item_11 (by decide) ?_
        have hh := hK2 _ h
        exact a_sub [0, 1] rfl hh

