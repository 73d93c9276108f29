def X0_forgetAll (σ : sM) : Option (Int × sM) := some (0, (sU σ 37 11 0))
set_option maxRecDepth 100000 in
set_option maxHeartbeats 400000 in
theorem T_X0_forgetAll {G : sG} {q_0 : qT} {x_0 : List Nat} {σ s_0 : sM} {r_0 : Int}  (h : X0_forgetAll σ = some (r_0, s_0)) : aM G yX0_forgetAll cX0_forgetAll 1 none 0 0 0 [.ref (gP G 37)] (mkSh q_0 x_0, σ) (r_0, (mkSh q_0 x_0, s_0)) := by
  unfold X0_forgetAll at h
  refine aM_of (by decide) (Nat.le_of_ble_eq_true rfl) ?_
  show aW G cX0_forgetAll RX0 "forgetAll" 1 none _ _ aX 0 0 _ [(0, .ref (gP G 37))] 0 []
  refine a_aload_n 0 dX0_forgetAll_0 rfl ?_
  refine a_iconst dX0_forgetAll_1 ?_
  refine a_putZ (j := 11) dX0_forgetAll_2 KX0 rfl (by decide) rfl rfl rfl kf_RX0_47 (by decide) ?_
  exact a_vret dX0_forgetAll_5 rfl (p_S (p_2 h))

def X0_codeAt (σ : sM) (a1 : Int) : Option Int := if wi a1 < 0 then some 6 else if 8 ≤ wi a1 then some 6 else if 0 ≤ wi a1 ∧ wi a1 < 8 then some (σ 46 (wi a1).toNat) else none
set_option maxRecDepth 100000 in
set_option maxHeartbeats 400000 in
theorem T_X0_codeAt {G : sG} {q_0 : qT} {x_0 : List Nat} {σ : sM} {r_0 : Int} {a1 : Int}  (h : X0_codeAt σ a1 = some r_0) : aM G yX0_codeAt cX0_codeAt 2 (some .int) 0 0 0 [.ref (gP G 37), vI a1] (mkSh q_0 x_0, σ) (r_0, (mkSh q_0 x_0, σ)) := by
  unfold X0_codeAt at h
  refine aM_of (by decide) (Nat.le_of_ble_eq_true rfl) ?_
  show aW G cX0_codeAt RX0 "codeAt" 2 (some .int) _ _ aX 0 0 _ [(0, .ref (gP G 37)), (1, vI a1)] 0 []
  refine a_iload_n 1 dX0_codeAt_0 rfl ?_
  refine a_if_lt 19 dX0_codeAt_1 (by decide) rfl h (fun c1 h => ?_) (fun c1 h => ?_)
  · skip
    refine a_bipush dX0_codeAt_19 (by decide) ?_
    exact a_iret dX0_codeAt_21 rfl (s_inj h) rfl
  · skip
    refine a_iload_n 1 dX0_codeAt_4 rfl ?_
    refine a_bipush dX0_codeAt_5 (by decide) ?_
    refine a_icmp_ge 19 dX0_codeAt_7 (by decide) rfl (by decide) h (fun c2 h => ?_) (fun c2 h => ?_)
    · skip
      refine a_bipush dX0_codeAt_19 (by decide) ?_
      exact a_iret dX0_codeAt_21 rfl (s_inj h) rfl
    · skip
      refine a_aload_n 0 dX0_codeAt_10 rfl ?_
      refine a_getR (j := 7) dX0_codeAt_11 KX0 rfl (by decide) rfl kf_RX0_34 ?_
      refine a_iload_n 1 dX0_codeAt_14 rfl ?_
      refine a_gd h (fun c3 h => ?_)
      refine a_iald (x' := wi a1) dX0_codeAt_15 rfl rfl c3 rfl ?_
      refine a_goto 21 dX0_codeAt_16 (by decide) ?_
      exact a_iret dX0_codeAt_21 rfl (s_inj h) rfl

def X0_meanPlace (σ : sM) (a0 a1 a2 : Int) : Option Int := some ((((a0 * 8) + a1) * 8) + a2)
set_option maxRecDepth 100000 in
set_option maxHeartbeats 400000 in
theorem T_X0_meanPlace {G : sG} {q_0 : qT} {x_0 : List Nat} {σ : sM} {r_0 : Int} {a0 a1 a2 : Int}  (h : X0_meanPlace σ a0 a1 a2 = some r_0) : aM G yX0_meanPlace cX0_meanPlace 3 (some .int) 0 0 0 [vI a0, vI a1, vI a2] (mkSh q_0 x_0, σ) (r_0, (mkSh q_0 x_0, σ)) := by
  unfold X0_meanPlace at h
  refine aM_of (by decide) (Nat.le_of_ble_eq_true rfl) ?_
  show aW G cX0_meanPlace RX0 "meanPlace" 3 (some .int) _ _ aX 0 0 _ [(0, vI a0), (1, vI a1), (2, vI a2)] 0 []
  refine a_iload_n 0 dX0_meanPlace_0 rfl ?_
  refine a_bipush dX0_meanPlace_1 (by decide) ?_
  refine a_imul dX0_meanPlace_3 ?_
  refine a_iload_n 1 dX0_meanPlace_4 rfl ?_
  refine a_iadd dX0_meanPlace_5 ?_
  refine a_bipush dX0_meanPlace_6 (by decide) ?_
  refine a_imul dX0_meanPlace_8 ?_
  refine a_iload_n 2 dX0_meanPlace_9 rfl ?_
  refine a_iadd dX0_meanPlace_10 ?_
  exact a_iret dX0_meanPlace_11 rfl (s_inj h) rfl

def X0_meanAt (σ : sM) (a1 a2 a3 : Int) : Option Int := bp (X0_meanPlace σ a1 a2 a3) (fun r1 => if wi r1 < 0 then some 0 else if 192 ≤ wi r1 then some 0 else if 0 ≤ wi r1 ∧ wi r1 < 192 then some (σ 42 (wi r1).toNat) else none)
set_option maxRecDepth 100000 in
set_option maxHeartbeats 400000 in
theorem T_X0_meanAt {G : sG} {q_0 : qT} {x_0 : List Nat} {σ : sM} {r_0 : Int} {a1 a2 a3 : Int}  (h : X0_meanAt σ a1 a2 a3 = some r_0) : aM G yX0_meanAt cX0_meanAt 5 (some .int) 1 0 0 [.ref (gP G 37), vI a1, vI a2, vI a3] (mkSh q_0 x_0, σ) (r_0, (mkSh q_0 x_0, σ)) := by
  unfold X0_meanAt at h
  refine aM_of (by decide) (Nat.le_of_ble_eq_true rfl) ?_
  show aW G cX0_meanAt RX0 "meanAt" 5 (some .int) _ _ aX 0 0 _ [(0, .ref (gP G 37)), (1, vI a1), (2, vI a2), (3, vI a3)] 0 []
  refine a_iload_n 1 dX0_meanAt_0 rfl ?_
  refine a_iload_n 2 dX0_meanAt_1 rfl ?_
  refine a_iload_n 3 dX0_meanAt_2 rfl ?_
  refine bp_s h (fun r1 e2 h => ?_)
  refine a_callSI dX0_meanAt_3 mX0_meanPlace kv_X0_meanPlace km_RX0_112 rfl (T_X0_meanPlace e2) (fun _ => rfl) rfl (Nat.le_of_ble_eq_true rfl) (Nat.le_of_ble_eq_true rfl) ⟨(Nat.le_of_ble_eq_true rfl), (Nat.le_of_ble_eq_true rfl)⟩ (Nat.le_of_ble_eq_true rfl) ?_
  refine a_istore (L' := [(4, vI r1), (0, .ref (gP G 37)), (1, vI a1), (2, vI a2), (3, vI a3)]) dX0_meanAt_6 (by decide) rfl ?_
  refine a_iload 0 dX0_meanAt_8 rfl ?_
  refine a_if_lt 33 dX0_meanAt_10 (by decide) rfl h (fun c3 h => ?_) (fun c3 h => ?_)
  · skip
    refine a_iconst dX0_meanAt_33 ?_
    exact a_iret dX0_meanAt_34 rfl (s_inj h) rfl
  · skip
    refine a_iload 0 dX0_meanAt_13 rfl ?_
    refine a_aload_n 1 dX0_meanAt_15 rfl ?_
    refine a_getR (j := 3) dX0_meanAt_16 KX0 rfl (by decide) rfl kf_RX0_21 ?_
    refine a_alen dX0_meanAt_19 rfl ?_
    refine a_icmp_ge 33 dX0_meanAt_20 (by decide) rfl (by decide) h (fun c4 h => ?_) (fun c4 h => ?_)
    · skip
      refine a_iconst dX0_meanAt_33 ?_
      exact a_iret dX0_meanAt_34 rfl (s_inj h) rfl
    · skip
      refine a_aload_n 1 dX0_meanAt_23 rfl ?_
      refine a_getR (j := 3) dX0_meanAt_24 KX0 rfl (by decide) rfl kf_RX0_21 ?_
      refine a_iload 0 dX0_meanAt_27 rfl ?_
      refine a_gd h (fun c5 h => ?_)
      refine a_iald (x' := wi r1) dX0_meanAt_29 rfl rfl c5 rfl ?_
      refine a_goto 34 dX0_meanAt_30 (by decide) ?_
      exact a_iret dX0_meanAt_34 rfl (s_inj h) rfl

def X0_tellRow (σ : sM) (a1 a2 : Int) : Option (Int × sM) := if wi (a1 - (σ 37 10)) < 0 then some (0, σ) else if 8 ≤ wi (a1 - (σ 37 10)) then some (0, σ) else if 0 ≤ wi (a1 - (σ 37 10)) ∧ wi (a1 - (σ 37 10)) < 8 then some (0, (sU σ 45 (wi (a1 - (σ 37 10))).toNat a2)) else none
set_option maxRecDepth 100000 in
set_option maxHeartbeats 400000 in
theorem T_X0_tellRow {G : sG} {q_0 : qT} {x_0 : List Nat} {σ s_0 : sM} {r_0 : Int} {a1 a2 : Int}  (h : X0_tellRow σ a1 a2 = some (r_0, s_0)) : aM G yX0_tellRow cX0_tellRow 4 none 0 0 0 [.ref (gP G 37), vI a1, vI a2] (mkSh q_0 x_0, σ) (r_0, (mkSh q_0 x_0, s_0)) := by
  unfold X0_tellRow at h
  refine aM_of (by decide) (Nat.le_of_ble_eq_true rfl) ?_
  show aW G cX0_tellRow RX0 "tellRow" 4 none _ _ aX 0 0 _ [(0, .ref (gP G 37)), (1, vI a1), (2, vI a2)] 0 []
  refine a_iload_n 1 dX0_tellRow_0 rfl ?_
  refine a_aload_n 0 dX0_tellRow_1 rfl ?_
  refine a_getI (j := 10) dX0_tellRow_2 KX0 rfl (by decide) rfl kf_RX0_44 ?_
  refine a_isub dX0_tellRow_5 ?_
  refine a_istore_n (L' := [(3, vI (a1 - (σ 37 10))), (0, .ref (gP G 37)), (1, vI a1), (2, vI a2)]) dX0_tellRow_6 (by decide) rfl ?_
  refine a_iload_n 0 dX0_tellRow_7 rfl ?_
  refine a_if_lt 24 dX0_tellRow_8 (by decide) rfl h (fun c1 h => ?_) (fun c1 h => ?_)
  · skip
    exact a_vret dX0_tellRow_24 rfl (p_S (p_2 h))
  · skip
    refine a_iload_n 0 dX0_tellRow_11 rfl ?_
    refine a_bipush dX0_tellRow_12 (by decide) ?_
    refine a_icmp_ge 24 dX0_tellRow_14 (by decide) rfl (by decide) h (fun c2 h => ?_) (fun c2 h => ?_)
    · skip
      exact a_vret dX0_tellRow_24 rfl (p_S (p_2 h))
    · skip
      refine a_aload_n 1 dX0_tellRow_17 rfl ?_
      refine a_getR (j := 6) dX0_tellRow_18 KX0 rfl (by decide) rfl kf_RX0_31 ?_
      refine a_iload_n 0 dX0_tellRow_21 rfl ?_
      refine a_iload_n 3 dX0_tellRow_22 rfl ?_
      refine a_gd h (fun c3 h => ?_)
      refine a_iast (x' := wi (a1 - (σ 37 10))) dX0_tellRow_23 rfl rfl c3 rfl ?_
      exact a_vret dX0_tellRow_24 rfl (p_S (p_2 h))

def X0_takeIfBetter (σ : sM) (a1 : Int) : Option (Int × sM) := if wi a1 ≤ wi (σ 37 8) then some (0, σ) else nm (sUc (sU σ 37 8 a1) 46 (fun j => if j < 8 then (sU σ 37 8 a1) 45 j else (sU σ 37 8 a1) 46 j)) (fun σ2 => some (0, σ2))
set_option maxRecDepth 100000 in
set_option maxHeartbeats 400000 in
theorem T_X0_takeIfBetter {G : sG} {q_0 : qT} {x_0 : List Nat} {σ s_0 : sM} {r_0 : Int} {a1 : Int}  (h : X0_takeIfBetter σ a1 = some (r_0, s_0)) : aM G yX0_takeIfBetter cX0_takeIfBetter 2 none 1 0 0 [.ref (gP G 37), vI a1] (mkSh q_0 x_0, σ) (r_0, (mkSh q_0 x_0, s_0)) := by
  unfold X0_takeIfBetter at h
  refine aM_of (by decide) (Nat.le_of_ble_eq_true rfl) ?_
  show aW G cX0_takeIfBetter RX0 "takeIfBetter" 2 none _ _ aX 0 0 _ [(0, .ref (gP G 37)), (1, vI a1)] 0 []
  refine a_iload_n 1 dX0_takeIfBetter_0 rfl ?_
  refine a_aload_n 0 dX0_takeIfBetter_1 rfl ?_
  refine a_getI (j := 8) dX0_takeIfBetter_2 KX0 rfl (by decide) rfl kf_RX0_37 ?_
  refine a_icmp_le 28 dX0_takeIfBetter_5 (by decide) rfl rfl h (fun c1 h => ?_) (fun c1 h => ?_)
  · skip
    exact a_vret dX0_takeIfBetter_28 rfl (p_S (p_2 h))
  · skip
    refine a_aload_n 0 dX0_takeIfBetter_8 rfl ?_
    refine a_iload_n 1 dX0_takeIfBetter_9 rfl ?_
    refine a_putI (j := 8) dX0_takeIfBetter_10 KX0 rfl (by decide) rfl rfl rfl kf_RX0_37 ?_
    refine a_aload_n 0 dX0_takeIfBetter_13 rfl ?_
    refine a_getR (j := 6) dX0_takeIfBetter_14 KX0 rfl (by decide) rfl kf_RX0_31 ?_
    refine a_iconst dX0_takeIfBetter_17 ?_
    refine a_aload_n 0 dX0_takeIfBetter_18 rfl ?_
    refine a_getR (j := 7) dX0_takeIfBetter_19 KX0 rfl (by decide) rfl kf_RX0_34 ?_
    refine a_iconst dX0_takeIfBetter_22 ?_
    refine a_bipush dX0_takeIfBetter_23 (by decide) ?_
    refine a_cpyI (N := 8) dX0_takeIfBetter_25 km_RX0_175 kx_arraycopy kx_arraycopyS ki_RJ10 rfl rfl (by decide) (Nat.le_of_ble_eq_true rfl) (Nat.le_of_ble_eq_true rfl) ⟨Nat.le_of_ble_eq_true rfl, Nat.le_trans nfw_ok (Nat.le_of_ble_eq_true rfl)⟩ (Nat.le_of_ble_eq_true rfl) ?_
    refine a_nmS h (fun σ2 w3 h => ?_)
    exact a_vret dX0_takeIfBetter_28 rfl (p_S (p_2 h))

def X1_becomeLike (F : Nat) (σ : sM) : Option (Int × sM) := lp (fun K2 (q1 : sM × Int) => if 4 ≤ wi q1.2 then nm (sUc (sUc q1.1 8 (fun j => if j < 3 then q1.1 18 j else q1.1 8 j)) 9 (fun j => if j < 3 then (sUc q1.1 8 (fun j => if j < 3 then q1.1 18 j else q1.1 8 j)) 19 j else (sUc q1.1 8 (fun j => if j < 3 then q1.1 18 j else q1.1 8 j)) 9 j)) (fun σ4 => nm (sUc (sUc σ4 10 (fun j => if j < 8 then σ4 20 j else σ4 10 j)) 11 (fun j => if j < 8 then (sUc σ4 10 (fun j => if j < 8 then σ4 20 j else σ4 10 j)) 21 j else (sUc σ4 10 (fun j => if j < 8 then σ4 20 j else σ4 10 j)) 11 j)) (fun σ6 => nm (sU (sU (sU σ6 2 5 (σ6 12 5)) 2 6 ((sU σ6 2 5 (σ6 12 5)) 12 6)) 2 7 ((sU (sU σ6 2 5 (σ6 12 5)) 2 6 ((sU σ6 2 5 (σ6 12 5)) 12 6)) 12 7)) (fun σ8 => some (0, (sU σ8 2 8 (σ8 12 8)))))) else if 0 ≤ wi q1.2 ∧ wi q1.2 < 4 then if 0 ≤ wi q1.2 ∧ wi q1.2 < 4 then nm (sUc q1.1 (4 + (wi q1.2).toNat) (fun j => if j < 14 then q1.1 (14 + (wi q1.2).toNat) j else q1.1 (4 + (wi q1.2).toNat) j)) (fun σ12 => K2 (σ12, q1.2 + 1)) else none else none) F (σ, 0)
set_option maxRecDepth 100000 in
set_option maxHeartbeats 400000 in
theorem T_X1_becomeLike {G : sG} {q_0 : qT} {x_0 : List Nat} {σ s_0 : sM} {r_0 : Int} {F : Nat}  (h : X1_becomeLike F σ = some (r_0, s_0)) : aM G yX1_becomeLike cX1_becomeLike 3 none 1 0 0 [.ref (gP G 2), .ref (gP G 12)] (mkSh q_0 x_0, σ) (r_0, (mkSh q_0 x_0, s_0)) := by
  unfold X1_becomeLike at h
  refine aM_of (by decide) (Nat.le_of_ble_eq_true rfl) ?_
  show aW G cX1_becomeLike RX1 "becomeLike" 3 none _ _ aX 0 0 _ [(0, .ref (gP G 2)), (1, .ref (gP G 12))] 0 []
  refine a_iconst dX1_becomeLike_0 ?_
  refine a_istore_n (L' := [(2, vI 0), (0, .ref (gP G 2)), (1, .ref (gP G 12))]) dX1_becomeLike_1 (by decide) rfl ?_
  refine a_sub (L' := [(0, .ref (gP G 2)), (1, .ref (gP G 12)), (2, vI 0)]) [1, 2, 0] rfl (lp_s (x := (σ, 0)) (fun q1 : sM × Int => aW G cX1_becomeLike RX1 "becomeLike" 3 none (sR 1 0 0) (aQ G none 0 0 (r_0, (mkSh q_0 x_0, s_0))) aX 0 0 (mkSh q_0 x_0, q1.1) [(0, .ref (gP G 2)), (1, .ref (gP G 12)), (2, vI q1.2)] 2 []) h (fun K2 hK2 q1 h => ?_))
  refine a_iload_n 2 dX1_becomeLike_2 rfl ?_
  refine a_iconst dX1_becomeLike_3 ?_
  refine a_icmp_ge 32 dX1_becomeLike_4 (by decide) rfl (by decide) h (fun c3 h => ?_) (fun c3 h => ?_)
  · skip
    refine a_aload_n 1 dX1_becomeLike_32 rfl ?_
    refine a_getR (j := 1) dX1_becomeLike_33 KX1 rfl (by decide) rfl kf_RX1_16 ?_
    refine a_iconst dX1_becomeLike_36 ?_
    refine a_aload_n 0 dX1_becomeLike_37 rfl ?_
    refine a_getR (j := 1) dX1_becomeLike_38 KX1 rfl (by decide) rfl kf_RX1_16 ?_
    refine a_iconst dX1_becomeLike_41 ?_
    refine a_iconst dX1_becomeLike_42 ?_
    refine a_cpyI (N := 3) dX1_becomeLike_43 km_RX1_48 kx_arraycopy kx_arraycopyS ki_RJ10 rfl rfl (by decide) (Nat.le_of_ble_eq_true rfl) (Nat.le_of_ble_eq_true rfl) ⟨Nat.le_of_ble_eq_true rfl, Nat.le_trans nfw_ok (Nat.le_of_ble_eq_true rfl)⟩ (Nat.le_of_ble_eq_true rfl) ?_
    refine a_aload_n 1 dX1_becomeLike_46 rfl ?_
    refine a_getR (j := 2) dX1_becomeLike_47 KX1 rfl (by decide) rfl kf_RX1_20 ?_
    refine a_iconst dX1_becomeLike_50 ?_
    refine a_aload_n 0 dX1_becomeLike_51 rfl ?_
    refine a_getR (j := 2) dX1_becomeLike_52 KX1 rfl (by decide) rfl kf_RX1_20 ?_
    refine a_iconst dX1_becomeLike_55 ?_
    refine a_iconst dX1_becomeLike_56 ?_
    refine a_cpyI (N := 3) dX1_becomeLike_57 km_RX1_48 kx_arraycopy kx_arraycopyS ki_RJ10 rfl rfl (by decide) (Nat.le_of_ble_eq_true rfl) (Nat.le_of_ble_eq_true rfl) ⟨Nat.le_of_ble_eq_true rfl, Nat.le_trans nfw_ok (Nat.le_of_ble_eq_true rfl)⟩ (Nat.le_of_ble_eq_true rfl) ?_
    refine a_nmS h (fun σ4 w5 h => ?_)
    refine a_aload_n 1 dX1_becomeLike_60 rfl ?_
    refine a_getR (j := 3) dX1_becomeLike_61 KX1 rfl (by decide) rfl kf_RX1_23 ?_
    refine a_iconst dX1_becomeLike_64 ?_
    refine a_aload_n 0 dX1_becomeLike_65 rfl ?_
    refine a_getR (j := 3) dX1_becomeLike_66 KX1 rfl (by decide) rfl kf_RX1_23 ?_
    refine a_iconst dX1_becomeLike_69 ?_
    refine a_bipush dX1_becomeLike_70 (by decide) ?_
    refine a_cpyI (N := 8) dX1_becomeLike_72 km_RX1_48 kx_arraycopy kx_arraycopyS ki_RJ10 rfl rfl (by decide) (Nat.le_of_ble_eq_true rfl) (Nat.le_of_ble_eq_true rfl) ⟨Nat.le_of_ble_eq_true rfl, Nat.le_trans nfw_ok (Nat.le_of_ble_eq_true rfl)⟩ (Nat.le_of_ble_eq_true rfl) ?_
    refine a_aload_n 1 dX1_becomeLike_75 rfl ?_
    refine a_getR (j := 4) dX1_becomeLike_76 KX1 rfl (by decide) rfl kf_RX1_26 ?_
    refine a_iconst dX1_becomeLike_79 ?_
    refine a_aload_n 0 dX1_becomeLike_80 rfl ?_
    refine a_getR (j := 4) dX1_becomeLike_81 KX1 rfl (by decide) rfl kf_RX1_26 ?_
    refine a_iconst dX1_becomeLike_84 ?_
    refine a_bipush dX1_becomeLike_85 (by decide) ?_
    refine a_cpyI (N := 8) dX1_becomeLike_87 km_RX1_48 kx_arraycopy kx_arraycopyS ki_RJ10 rfl rfl (by decide) (Nat.le_of_ble_eq_true rfl) (Nat.le_of_ble_eq_true rfl) ⟨Nat.le_of_ble_eq_true rfl, Nat.le_trans nfw_ok (Nat.le_of_ble_eq_true rfl)⟩ (Nat.le_of_ble_eq_true rfl) ?_
    refine a_nmS h (fun σ6 w7 h => ?_)
    refine a_aload_n 0 dX1_becomeLike_90 rfl ?_
    refine a_aload_n 1 dX1_becomeLike_91 rfl ?_
    refine a_getI (j := 5) dX1_becomeLike_92 KX1 rfl (by decide) rfl kf_RX1_29 ?_
    refine a_putI (j := 5) dX1_becomeLike_95 KX1 rfl (by decide) rfl rfl rfl kf_RX1_29 ?_
    refine a_aload_n 0 dX1_becomeLike_98 rfl ?_
    refine a_aload_n 1 dX1_becomeLike_99 rfl ?_
    refine a_getI (j := 6) dX1_becomeLike_100 KX1 rfl (by decide) rfl kf_RX1_33 ?_
    refine a_putI (j := 6) dX1_becomeLike_103 KX1 rfl (by decide) rfl rfl rfl kf_RX1_33 ?_
    refine a_aload_n 0 dX1_becomeLike_106 rfl ?_
    refine a_aload_n 1 dX1_becomeLike_107 rfl ?_
    refine a_getI (j := 7) dX1_becomeLike_108 KX1 rfl (by decide) rfl kf_RX1_36 ?_
    refine a_putI (j := 7) dX1_becomeLike_111 KX1 rfl (by decide) rfl rfl rfl kf_RX1_36 ?_
    refine a_nmS h (fun σ8 w9 h => ?_)
    refine a_aload_n 0 dX1_becomeLike_114 rfl ?_
    refine a_aload_n 1 dX1_becomeLike_115 rfl ?_
    refine a_getI (j := 8) dX1_becomeLike_116 KX1 rfl (by decide) rfl kf_RX1_39 ?_
    refine a_putI (j := 8) dX1_becomeLike_119 KX1 rfl (by decide) rfl rfl rfl kf_RX1_39 ?_
    exact a_vret dX1_becomeLike_122 rfl (p_S (p_2 h))
  · skip
    refine a_aload_n 1 dX1_becomeLike_7 rfl ?_
    refine a_getR (j := 0) dX1_becomeLike_8 KX1 rfl (by decide) rfl kf_RX1_11 ?_
    refine a_iload_n 2 dX1_becomeLike_11 rfl ?_
    refine a_gd h (fun c10 h => ?_)
    refine a_aald dX1_becomeLike_12 rfl rfl c10 rfl ?_
    refine a_iconst dX1_becomeLike_13 ?_
    refine a_aload_n 0 dX1_becomeLike_14 rfl ?_
    refine a_getR (j := 0) dX1_becomeLike_15 KX1 rfl (by decide) rfl kf_RX1_11 ?_
    refine a_iload_n 2 dX1_becomeLike_18 rfl ?_
    refine a_gd h (fun c11 h => ?_)
    refine a_aald dX1_becomeLike_19 rfl rfl c11 rfl ?_
    refine a_iconst dX1_becomeLike_20 ?_
    refine a_bipush dX1_becomeLike_21 (by decide) ?_
    refine a_cpyI (N := 14) dX1_becomeLike_23 km_RX1_48 kx_arraycopy kx_arraycopyS ki_RJ10 (sh_row14 c10) (sh_row4 c11) (by decide) (Nat.le_of_ble_eq_true rfl) (Nat.le_of_ble_eq_true rfl) ⟨Nat.le_of_ble_eq_true rfl, Nat.le_trans nfw_ok (Nat.le_of_ble_eq_true rfl)⟩ (Nat.le_of_ble_eq_true rfl) ?_
    refine a_nmS h (fun σ12 w13 h => ?_)
    refine a_iinc (L' := [(2, vI (q1.2 + 1)), (0, .ref (gP G 2)), (1, .ref (gP G 12))]) 2 dX1_becomeLike_26 rfl (by decide) rfl ?_
    refine a_goto 2 dX1_becomeLike_29 (by decide) ?_
    have hh := hK2 _ h
    exact a_sub [1, 2, 0] rfl hh

def X1_isSort (σ : sM) (a1 : Int) : Option Int := if wi a1 < 0 then some 0 else if wi (σ 2 5) ≤ wi a1 then some 0 else some 1
set_option maxRecDepth 100000 in
set_option maxHeartbeats 400000 in
theorem T_X1_isSort {G : sG} {q_0 : qT} {x_0 : List Nat} {σ : sM} {r_0 : Int} {a1 : Int}  (h : X1_isSort σ a1 = some r_0) : aM G yX1_isSort cX1_isSort 2 (some .boolean) 0 0 0 [.ref (gP G 2), vI a1] (mkSh q_0 x_0, σ) (r_0, (mkSh q_0 x_0, σ)) := by
  unfold X1_isSort at h
  refine aM_of (by decide) (Nat.le_of_ble_eq_true rfl) ?_
  show aW G cX1_isSort RX1 "isSort" 2 (some .boolean) _ _ aX 0 0 _ [(0, .ref (gP G 2)), (1, vI a1)] 0 []
  refine a_iload_n 1 dX1_isSort_0 rfl ?_
  refine a_if_lt 16 dX1_isSort_1 (by decide) rfl h (fun c1 h => ?_) (fun c1 h => ?_)
  · skip
    refine a_iconst dX1_isSort_16 ?_
    exact a_zret dX1_isSort_17 rfl (by decide) (s_inj h) rfl
  · skip
    refine a_iload_n 1 dX1_isSort_4 rfl ?_
    refine a_aload_n 0 dX1_isSort_5 rfl ?_
    refine a_getI (j := 5) dX1_isSort_6 KX1 rfl (by decide) rfl kf_RX1_29 ?_
    refine a_icmp_ge 16 dX1_isSort_9 (by decide) rfl rfl h (fun c2 h => ?_) (fun c2 h => ?_)
    · skip
      refine a_iconst dX1_isSort_16 ?_
      exact a_zret dX1_isSort_17 rfl (by decide) (s_inj h) rfl
    · skip
      refine a_iconst dX1_isSort_12 ?_
      refine a_goto 17 dX1_isSort_13 (by decide) ?_
      exact a_zret dX1_isSort_17 rfl (by decide) (s_inj h) rfl

def X1_isWheel (σ : sM) (a1 : Int) : Option Int := if wi a1 < 0 then some 0 else if wi (σ 2 6) ≤ wi a1 then some 0 else some 1
set_option maxRecDepth 100000 in
set_option maxHeartbeats 400000 in
theorem T_X1_isWheel {G : sG} {q_0 : qT} {x_0 : List Nat} {σ : sM} {r_0 : Int} {a1 : Int}  (h : X1_isWheel σ a1 = some r_0) : aM G yX1_isWheel cX1_isWheel 2 (some .boolean) 0 0 0 [.ref (gP G 2), vI a1] (mkSh q_0 x_0, σ) (r_0, (mkSh q_0 x_0, σ)) := by
  unfold X1_isWheel at h
  refine aM_of (by decide) (Nat.le_of_ble_eq_true rfl) ?_
  show aW G cX1_isWheel RX1 "isWheel" 2 (some .boolean) _ _ aX 0 0 _ [(0, .ref (gP G 2)), (1, vI a1)] 0 []
  refine a_iload_n 1 dX1_isWheel_0 rfl ?_
  refine a_if_lt 16 dX1_isWheel_1 (by decide) rfl h (fun c1 h => ?_) (fun c1 h => ?_)
  · skip
    refine a_iconst dX1_isWheel_16 ?_
    exact a_zret dX1_isWheel_17 rfl (by decide) (s_inj h) rfl
  · skip
    refine a_iload_n 1 dX1_isWheel_4 rfl ?_
    refine a_aload_n 0 dX1_isWheel_5 rfl ?_
    refine a_getI (j := 6) dX1_isWheel_6 KX1 rfl (by decide) rfl kf_RX1_33 ?_
    refine a_icmp_ge 16 dX1_isWheel_9 (by decide) rfl rfl h (fun c2 h => ?_) (fun c2 h => ?_)
    · skip
      refine a_iconst dX1_isWheel_16 ?_
      exact a_zret dX1_isWheel_17 rfl (by decide) (s_inj h) rfl
    · skip
      refine a_iconst dX1_isWheel_12 ?_
      refine a_goto 17 dX1_isWheel_13 (by decide) ?_
      exact a_zret dX1_isWheel_17 rfl (by decide) (s_inj h) rfl

def X1_trait (σ : sM) (a1 a2 : Int) : Option Int := if wi a1 < 0 then some 0 else if 4 ≤ wi a1 then some 0 else if wi a2 < 0 then some 0 else if wi a2 < 14 then if 0 ≤ wi a1 ∧ wi a1 < 4 then if 0 ≤ wi a2 ∧ wi a2 < 14 then some (σ (4 + (wi a1).toNat) (wi a2).toNat) else none else none else some 0
set_option maxRecDepth 100000 in
set_option maxHeartbeats 400000 in
theorem T_X1_trait {G : sG} {q_0 : qT} {x_0 : List Nat} {σ : sM} {r_0 : Int} {a1 a2 : Int}  (h : X1_trait σ a1 a2 = some r_0) : aM G yX1_trait cX1_trait 3 (some .int) 0 0 0 [.ref (gP G 2), vI a1, vI a2] (mkSh q_0 x_0, σ) (r_0, (mkSh q_0 x_0, σ)) := by
  unfold X1_trait at h
  refine aM_of (by decide) (Nat.le_of_ble_eq_true rfl) ?_
  show aW G cX1_trait RX1 "trait" 3 (some .int) _ _ aX 0 0 _ [(0, .ref (gP G 2)), (1, vI a1), (2, vI a2)] 0 []
  refine a_iload_n 1 dX1_trait_0 rfl ?_
  refine a_if_lt 19 dX1_trait_1 (by decide) rfl h (fun c1 h => ?_) (fun c1 h => ?_)
  · skip
    refine a_iconst dX1_trait_19 ?_
    exact a_iret dX1_trait_20 rfl (s_inj h) rfl
  · skip
    refine a_iload_n 1 dX1_trait_4 rfl ?_
    refine a_iconst dX1_trait_5 ?_
    refine a_icmp_ge 19 dX1_trait_6 (by decide) rfl (by decide) h (fun c2 h => ?_) (fun c2 h => ?_)
    · skip
      refine a_iconst dX1_trait_19 ?_
      exact a_iret dX1_trait_20 rfl (s_inj h) rfl
    · skip
      refine a_iload_n 2 dX1_trait_9 rfl ?_
      refine a_if_lt 19 dX1_trait_10 (by decide) rfl h (fun c3 h => ?_) (fun c3 h => ?_)
      · skip
        refine a_iconst dX1_trait_19 ?_
        exact a_iret dX1_trait_20 rfl (s_inj h) rfl
      · skip
        refine a_iload_n 2 dX1_trait_13 rfl ?_
        refine a_bipush dX1_trait_14 (by decide) ?_
        refine a_icmp_lt 21 dX1_trait_16 (by decide) rfl (by decide) h (fun c4 h => ?_) (fun c4 h => ?_)
        · skip
          refine a_aload_n 0 dX1_trait_21 rfl ?_
          refine a_getR (j := 0) dX1_trait_22 KX1 rfl (by decide) rfl kf_RX1_11 ?_
          refine a_iload_n 1 dX1_trait_25 rfl ?_
          refine a_gd h (fun c5 h => ?_)
          refine a_aald dX1_trait_26 rfl rfl c5 rfl ?_
          refine a_iload_n 2 dX1_trait_27 rfl ?_
          refine a_gd h (fun c6 h => ?_)
          refine a_iald (x' := wi a2) dX1_trait_28 (sh_row4 c5) rfl c6 rfl ?_
          exact a_iret dX1_trait_29 rfl (s_inj h) rfl
        · skip
          refine a_iconst dX1_trait_19 ?_
          exact a_iret dX1_trait_20 rfl (s_inj h) rfl

def X1_sortOf (σ : sM) (a1 : Int) : Option Int := if wi a1 < 0 then some 0 else if 3 ≤ wi a1 then some 0 else if 0 ≤ wi a1 ∧ wi a1 < 3 then some (σ 8 (wi a1).toNat) else none
set_option maxRecDepth 100000 in
set_option maxHeartbeats 400000 in
theorem T_X1_sortOf {G : sG} {q_0 : qT} {x_0 : List Nat} {σ : sM} {r_0 : Int} {a1 : Int}  (h : X1_sortOf σ a1 = some r_0) : aM G yX1_sortOf cX1_sortOf 2 (some .int) 0 0 0 [.ref (gP G 2), vI a1] (mkSh q_0 x_0, σ) (r_0, (mkSh q_0 x_0, σ)) := by
  unfold X1_sortOf at h
  refine aM_of (by decide) (Nat.le_of_ble_eq_true rfl) ?_
  show aW G cX1_sortOf RX1 "sortOf" 2 (some .int) _ _ aX 0 0 _ [(0, .ref (gP G 2)), (1, vI a1)] 0 []
  refine a_iload_n 1 dX1_sortOf_0 rfl ?_
  refine a_if_lt 18 dX1_sortOf_1 (by decide) rfl h (fun c1 h => ?_) (fun c1 h => ?_)
  · skip
    refine a_iconst dX1_sortOf_18 ?_
    exact a_iret dX1_sortOf_19 rfl (s_inj h) rfl
  · skip
    refine a_iload_n 1 dX1_sortOf_4 rfl ?_
    refine a_iconst dX1_sortOf_5 ?_
    refine a_icmp_ge 18 dX1_sortOf_6 (by decide) rfl (by decide) h (fun c2 h => ?_) (fun c2 h => ?_)
    · skip
      refine a_iconst dX1_sortOf_18 ?_
      exact a_iret dX1_sortOf_19 rfl (s_inj h) rfl
    · skip
      refine a_aload_n 0 dX1_sortOf_9 rfl ?_
      refine a_getR (j := 1) dX1_sortOf_10 KX1 rfl (by decide) rfl kf_RX1_16 ?_
      refine a_iload_n 1 dX1_sortOf_13 rfl ?_
      refine a_gd h (fun c3 h => ?_)
      refine a_iald (x' := wi a1) dX1_sortOf_14 rfl rfl c3 rfl ?_
      refine a_goto 19 dX1_sortOf_15 (by decide) ?_
      exact a_iret dX1_sortOf_19 rfl (s_inj h) rfl

def X1_portionsAtFirst (σ : sM) (a1 : Int) : Option Int := if wi a1 < 0 then some 0 else if 3 ≤ wi a1 then some 0 else if 0 ≤ wi a1 ∧ wi a1 < 3 then some (σ 9 (wi a1).toNat) else none
set_option maxRecDepth 100000 in
set_option maxHeartbeats 400000 in
theorem T_X1_portionsAtFirst {G : sG} {q_0 : qT} {x_0 : List Nat} {σ : sM} {r_0 : Int} {a1 : Int}  (h : X1_portionsAtFirst σ a1 = some r_0) : aM G yX1_portionsAtFirst cX1_portionsAtFirst 2 (some .int) 0 0 0 [.ref (gP G 2), vI a1] (mkSh q_0 x_0, σ) (r_0, (mkSh q_0 x_0, σ)) := by
  unfold X1_portionsAtFirst at h
  refine aM_of (by decide) (Nat.le_of_ble_eq_true rfl) ?_
  show aW G cX1_portionsAtFirst RX1 "portionsAtFirst" 2 (some .int) _ _ aX 0 0 _ [(0, .ref (gP G 2)), (1, vI a1)] 0 []
  refine a_iload_n 1 dX1_portionsAtFirst_0 rfl ?_
  refine a_if_lt 18 dX1_portionsAtFirst_1 (by decide) rfl h (fun c1 h => ?_) (fun c1 h => ?_)
  · skip
    refine a_iconst dX1_portionsAtFirst_18 ?_
    exact a_iret dX1_portionsAtFirst_19 rfl (s_inj h) rfl
  · skip
    refine a_iload_n 1 dX1_portionsAtFirst_4 rfl ?_
    refine a_iconst dX1_portionsAtFirst_5 ?_
    refine a_icmp_ge 18 dX1_portionsAtFirst_6 (by decide) rfl (by decide) h (fun c2 h => ?_) (fun c2 h => ?_)
    · skip
      refine a_iconst dX1_portionsAtFirst_18 ?_
      exact a_iret dX1_portionsAtFirst_19 rfl (s_inj h) rfl
    · skip
      refine a_aload_n 0 dX1_portionsAtFirst_9 rfl ?_
      refine a_getR (j := 2) dX1_portionsAtFirst_10 KX1 rfl (by decide) rfl kf_RX1_20 ?_
      refine a_iload_n 1 dX1_portionsAtFirst_13 rfl ?_
      refine a_gd h (fun c3 h => ?_)
      refine a_iald (x' := wi a1) dX1_portionsAtFirst_14 rfl rfl c3 rfl ?_
      refine a_goto 19 dX1_portionsAtFirst_15 (by decide) ?_
      exact a_iret dX1_portionsAtFirst_19 rfl (s_inj h) rfl

def X1_warmthOf (σ : sM) (a1 : Int) : Option Int := if wi a1 < 0 then some 0 else if 8 ≤ wi a1 then some 0 else if 0 ≤ wi a1 ∧ wi a1 < 8 then some (σ 10 (wi a1).toNat) else none
set_option maxRecDepth 100000 in
set_option maxHeartbeats 400000 in
theorem T_X1_warmthOf {G : sG} {q_0 : qT} {x_0 : List Nat} {σ : sM} {r_0 : Int} {a1 : Int}  (h : X1_warmthOf σ a1 = some r_0) : aM G yX1_warmthOf cX1_warmthOf 2 (some .int) 0 0 0 [.ref (gP G 2), vI a1] (mkSh q_0 x_0, σ) (r_0, (mkSh q_0 x_0, σ)) := by
  unfold X1_warmthOf at h
  refine aM_of (by decide) (Nat.le_of_ble_eq_true rfl) ?_
  show aW G cX1_warmthOf RX1 "warmthOf" 2 (some .int) _ _ aX 0 0 _ [(0, .ref (gP G 2)), (1, vI a1)] 0 []
  refine a_iload_n 1 dX1_warmthOf_0 rfl ?_
  refine a_if_lt 19 dX1_warmthOf_1 (by decide) rfl h (fun c1 h => ?_) (fun c1 h => ?_)
  · skip
    refine a_iconst dX1_warmthOf_19 ?_
    exact a_iret dX1_warmthOf_20 rfl (s_inj h) rfl
  · skip
    refine a_iload_n 1 dX1_warmthOf_4 rfl ?_
    refine a_bipush dX1_warmthOf_5 (by decide) ?_
    refine a_icmp_ge 19 dX1_warmthOf_7 (by decide) rfl (by decide) h (fun c2 h => ?_) (fun c2 h => ?_)
    · skip
      refine a_iconst dX1_warmthOf_19 ?_
      exact a_iret dX1_warmthOf_20 rfl (s_inj h) rfl
    · skip
      refine a_aload_n 0 dX1_warmthOf_10 rfl ?_
      refine a_getR (j := 3) dX1_warmthOf_11 KX1 rfl (by decide) rfl kf_RX1_23 ?_
      refine a_iload_n 1 dX1_warmthOf_14 rfl ?_
      refine a_gd h (fun c3 h => ?_)
      refine a_iald (x' := wi a1) dX1_warmthOf_15 rfl rfl c3 rfl ?_
      refine a_goto 20 dX1_warmthOf_16 (by decide) ?_
      exact a_iret dX1_warmthOf_20 rfl (s_inj h) rfl

def X1_priceOf (σ : sM) (a1 : Int) : Option Int := if wi a1 < 0 then some 0 else if 8 ≤ wi a1 then some 0 else if 0 ≤ wi a1 ∧ wi a1 < 8 then some (σ 11 (wi a1).toNat) else none
set_option maxRecDepth 100000 in
set_option maxHeartbeats 400000 in
theorem T_X1_priceOf {G : sG} {q_0 : qT} {x_0 : List Nat} {σ : sM} {r_0 : Int} {a1 : Int}  (h : X1_priceOf σ a1 = some r_0) : aM G yX1_priceOf cX1_priceOf 2 (some .int) 0 0 0 [.ref (gP G 2), vI a1] (mkSh q_0 x_0, σ) (r_0, (mkSh q_0 x_0, σ)) := by
  unfold X1_priceOf at h
  refine aM_of (by decide) (Nat.le_of_ble_eq_true rfl) ?_
  show aW G cX1_priceOf RX1 "priceOf" 2 (some .int) _ _ aX 0 0 _ [(0, .ref (gP G 2)), (1, vI a1)] 0 []
  refine a_iload_n 1 dX1_priceOf_0 rfl ?_
  refine a_if_lt 19 dX1_priceOf_1 (by decide) rfl h (fun c1 h => ?_) (fun c1 h => ?_)
  · skip
    refine a_iconst dX1_priceOf_19 ?_
    exact a_iret dX1_priceOf_20 rfl (s_inj h) rfl
  · skip
    refine a_iload_n 1 dX1_priceOf_4 rfl ?_
    refine a_bipush dX1_priceOf_5 (by decide) ?_
    refine a_icmp_ge 19 dX1_priceOf_7 (by decide) rfl (by decide) h (fun c2 h => ?_) (fun c2 h => ?_)
    · skip
      refine a_iconst dX1_priceOf_19 ?_
      exact a_iret dX1_priceOf_20 rfl (s_inj h) rfl
    · skip
      refine a_aload_n 0 dX1_priceOf_10 rfl ?_
      refine a_getR (j := 4) dX1_priceOf_11 KX1 rfl (by decide) rfl kf_RX1_26 ?_
      refine a_iload_n 1 dX1_priceOf_14 rfl ?_
      refine a_gd h (fun c3 h => ?_)
      refine a_iald (x' := wi a1) dX1_priceOf_15 rfl rfl c3 rfl ?_
      refine a_goto 20 dX1_priceOf_16 (by decide) ?_
      exact a_iret dX1_priceOf_20 rfl (s_inj h) rfl

def X1_tenths (σ : sM) (a1 a2 a3 a4 : Int) : Option Int := if wi a2 < 0 then some 0 else if wi a2 < 3 then jn (fun q3 : Int => bp (X1_trait σ a1 (q3 + a2)) (fun r5 => if ¬ wi r5 = 0 then bp (X1_warmthOf σ a4) (fun r8 => some (if wi (r5 + r8) < wi 10 then r5 + r8 else 10)) else some 0)) (fun K4 => if wi a3 = 0 then K4 4 else K4 7) else some 0
set_option maxRecDepth 100000 in
set_option maxHeartbeats 400000 in
theorem T_X1_tenths {G : sG} {q_0 : qT} {x_0 : List Nat} {σ : sM} {r_0 : Int} {a1 a2 a3 a4 : Int}  (h : X1_tenths σ a1 a2 a3 a4 = some r_0) : aM G yX1_tenths cX1_tenths 6 (some .int) 1 0 0 [.ref (gP G 2), vI a1, vI a2, vI a3, vI a4] (mkSh q_0 x_0, σ) (r_0, (mkSh q_0 x_0, σ)) := by
  unfold X1_tenths at h
  refine aM_of (by decide) (Nat.le_of_ble_eq_true rfl) ?_
  show aW G cX1_tenths RX1 "tenths" 6 (some .int) _ _ aX 0 0 _ [(0, .ref (gP G 2)), (1, vI a1), (2, vI a2), (3, vI a3), (4, vI a4)] 0 []
  refine a_iload_n 2 dX1_tenths_0 rfl ?_
  refine a_if_lt 9 dX1_tenths_1 (by decide) rfl h (fun c1 h => ?_) (fun c1 h => ?_)
  · skip
    refine a_iconst dX1_tenths_9 ?_
    exact a_iret dX1_tenths_10 rfl (s_inj h) rfl
  · skip
    refine a_iload_n 2 dX1_tenths_4 rfl ?_
    refine a_iconst dX1_tenths_5 ?_
    refine a_icmp_lt 11 dX1_tenths_6 (by decide) rfl (by decide) h (fun c2 h => ?_) (fun c2 h => ?_)
    · skip
      refine a_aload_n 0 dX1_tenths_11 rfl ?_
      refine a_iload_n 1 dX1_tenths_12 rfl ?_
      refine a_iload_n 3 dX1_tenths_13 rfl ?_
      refine jn_s (fun q3 : Int => aW G cX1_tenths RX1 "tenths" 6 (some .int) (sR 1 0 0) (aQ G (some .int) 0 0 (r_0, (mkSh q_0 x_0, σ))) aX 0 0 (mkSh q_0 x_0, σ) [(0, .ref (gP G 2)), (2, vI a2), (4, vI a4)] 23 [vI q3, vI a1, .ref (gP G 2)]) h (fun q3 h => ?_) (fun K4 hK4 h => ?_)
      · skip
        refine a_iload_n 1 dX1_tenths_23 rfl ?_
        refine a_iadd dX1_tenths_24 ?_
        refine bp_s h (fun r5 e6 h => ?_)
        refine a_callVI dX1_tenths_25 mX1_trait KX1 rfl kv_X1_trait ks_X1_trait rfl km_RX1_76 rfl (T_X1_trait e6) (fun _ => rfl) rfl (Nat.le_of_ble_eq_true rfl) (Nat.le_of_ble_eq_true rfl) ⟨(Nat.le_of_ble_eq_true rfl), (Nat.le_of_ble_eq_true rfl)⟩ (Nat.le_of_ble_eq_true rfl) ?_
        refine a_istore (L' := [(5, vI r5), (0, .ref (gP G 2)), (2, vI a2), (4, vI a4)]) dX1_tenths_28 (by decide) rfl ?_
        refine a_iload 0 dX1_tenths_30 rfl ?_
        refine a_if_ne 39 dX1_tenths_32 (by decide) rfl h (fun c7 h => ?_) (fun c7 h => ?_)
        · skip
          refine a_bipush dX1_tenths_39 (by decide) ?_
          refine a_iload 0 dX1_tenths_41 rfl ?_
          refine a_aload_n 1 dX1_tenths_43 rfl ?_
          refine a_iload 3 dX1_tenths_44 rfl ?_
          refine bp_s h (fun r8 e9 h => ?_)
          refine a_callVI dX1_tenths_46 mX1_warmthOf KX1 rfl kv_X1_warmthOf ks_X1_warmthOf rfl km_RX1_109 rfl (T_X1_warmthOf e9) (fun _ => rfl) rfl (Nat.le_of_ble_eq_true rfl) (Nat.le_of_ble_eq_true rfl) ⟨(Nat.le_of_ble_eq_true rfl), (Nat.le_of_ble_eq_true rfl)⟩ (Nat.le_of_ble_eq_true rfl) ?_
          refine a_iadd dX1_tenths_49 ?_
          refine a_mmin dX1_tenths_50 km_RX1_112 kv_J9_min_7cf53 ki_RJ9 kx_min ⟨Nat.le_of_ble_eq_true rfl, Nat.le_of_ble_eq_true rfl⟩ ⟨Nat.zero_le _, Nat.zero_le _⟩ (Nat.le_of_ble_eq_true rfl) ?_
          exact a_iret dX1_tenths_53 rfl (s_inj h) rfl
        · skip
          refine a_iconst dX1_tenths_35 ?_
          refine a_goto 53 dX1_tenths_36 (by decide) ?_
          exact a_iret dX1_tenths_53 rfl (s_inj h) rfl
      · skip
        refine a_if_eq 22 dX1_tenths_14 (by decide) rfl h (fun c10 h => ?_) (fun c10 h => ?_)
        · skip
          refine a_iconst dX1_tenths_22 ?_
          have hh := hK4 _ h
          exact a_sub [0, 2, 4] rfl hh
        · skip
          refine a_bipush dX1_tenths_17 (by decide) ?_
          refine a_goto 23 dX1_tenths_19 (by decide) ?_
          have hh := hK4 _ h
          exact a_sub [0, 2, 4] rfl hh
    · skip
      refine a_iconst dX1_tenths_9 ?_
      exact a_iret dX1_tenths_10 rfl (s_inj h) rfl

def X3_shareOf (o0 o0P o0V o0W o0n : Nat) (σ : sM) (a1 a2 : Int) : Option Int := if wi ((a2 * 16) + (q_and (q_shr a1 (4 * a2)) 15)) < 0 then some 0 else if 48 ≤ wi ((a2 * 16) + (q_and (q_shr a1 (4 * a2)) 15)) then some 0 else if 0 ≤ wi ((a2 * 16) + (q_and (q_shr a1 (4 * a2)) 15)) ∧ wi ((a2 * 16) + (q_and (q_shr a1 (4 * a2)) 15)) < 48 then some (σ (shC o0) (wi ((a2 * 16) + (q_and (q_shr a1 (4 * a2)) 15))).toNat) else none
set_option maxRecDepth 100000 in
set_option maxHeartbeats 400000 in
theorem T_X3_shareOf {G : sG} {q_0 : qT} {x_0 : List Nat} {σ : sM} {r_0 : Int} {a1 a2 : Int} {o0 o0P o0V o0W o0n : Nat} (h_o0 : (mkSh q_0 x_0)[o0]? = some (.inl (3, [.ref 2, .int 0, .int 0, .ref (shC o0), .int 0, .long 0, .ref o0P, .ref o0V, .ref o0W]))) (g_o0S : (mkSh q_0 x_0)[shC o0]? = some (.inr (.int, 48, gN))) (g_o0P : (mkSh q_0 x_0)[o0P]? = some (.inr (.long, o0n, gN))) (g_o0V : (mkSh q_0 x_0)[o0V]? = some (.inr (.long, o0n, gN))) (g_o0W : (mkSh q_0 x_0)[o0W]? = some (.inr (.long, o0n, gN))) (h : X3_shareOf o0 o0P o0V o0W o0n σ a1 a2 = some r_0) : aM G yX3_shareOf cX3_shareOf 4 (some .int) 0 0 0 [.ref (gP G o0), vI a1, vI a2] (mkSh q_0 x_0, σ) (r_0, (mkSh q_0 x_0, σ)) := by
  unfold X3_shareOf at h
  refine aM_of (by decide) (Nat.le_of_ble_eq_true rfl) ?_
  show aW G cX3_shareOf RX3 "shareOf" 4 (some .int) _ _ aX 0 0 _ [(0, .ref (gP G o0)), (1, vI a1), (2, vI a2)] 0 []
  refine a_iload_n 2 dX3_shareOf_0 rfl ?_
  refine a_bipush dX3_shareOf_1 (by decide) ?_
  refine a_imul dX3_shareOf_3 ?_
  refine a_iload_n 1 dX3_shareOf_4 rfl ?_
  refine a_iconst dX3_shareOf_5 ?_
  refine a_iload_n 2 dX3_shareOf_6 rfl ?_
  refine a_imul dX3_shareOf_7 ?_
  refine a_ishr dX3_shareOf_8 ?_
  refine a_bipush dX3_shareOf_9 (by decide) ?_
  refine a_iand dX3_shareOf_11 ?_
  refine a_iadd dX3_shareOf_12 ?_
  refine a_istore_n (L' := [(3, vI ((a2 * 16) + (q_and (q_shr a1 (4 * a2)) 15))), (0, .ref (gP G o0)), (1, vI a1), (2, vI a2)]) dX3_shareOf_13 (by decide) rfl ?_
  refine a_iload_n 0 dX3_shareOf_14 rfl ?_
  refine a_if_lt 36 dX3_shareOf_15 (by decide) rfl h (fun c1 h => ?_) (fun c1 h => ?_)
  · skip
    refine a_iconst dX3_shareOf_36 ?_
    exact a_iret dX3_shareOf_37 rfl (s_inj h) rfl
  · skip
    refine a_iload_n 0 dX3_shareOf_18 rfl ?_
    refine a_aload_n 1 dX3_shareOf_19 rfl ?_
    refine a_getR (j := 3) dX3_shareOf_20 KX3 h_o0 (by decide) rfl kf_RX3_18 ?_
    refine a_alen dX3_shareOf_23 g_o0S ?_
    refine a_icmp_ge 36 dX3_shareOf_24 (by decide) rfl (by decide) h (fun c2 h => ?_) (fun c2 h => ?_)
    · skip
      refine a_iconst dX3_shareOf_36 ?_
      exact a_iret dX3_shareOf_37 rfl (s_inj h) rfl
    · skip
      refine a_aload_n 1 dX3_shareOf_27 rfl ?_
      refine a_getR (j := 3) dX3_shareOf_28 KX3 h_o0 (by decide) rfl kf_RX3_18 ?_
      refine a_iload_n 0 dX3_shareOf_31 rfl ?_
      refine a_gd h (fun c3 h => ?_)
      refine a_iald (x' := wi ((a2 * 16) + (q_and (q_shr a1 (4 * a2)) 15))) dX3_shareOf_32 g_o0S rfl c3 rfl ?_
      refine a_goto 37 dX3_shareOf_33 (by decide) ?_
      exact a_iret dX3_shareOf_37 rfl (s_inj h) rfl

def X3_lookBy29 (q_0 : qT) (x_0 : List Nat) (σ : sM) (a1 a2 : Int) : Option (Int × qT × List Nat × sM) := jn (fun q1 : (qT × List Nat × sM) => if okA q1.1.1 q1.2.1 = true then if wi (8 * ((sU (sU q1.2.2 29 1 a1) 29 2 a2) 29 4)) ≤ wi ((lnA q1.1.1 q1.2.1 : Nat) : Int) then some (0, (q1.1, q1.2.1, (sU (sU q1.2.2 29 1 a1) 29 2 a2))) else if 0 ≤ wi (8 * ((sU (sU q1.2.2 29 1 a1) 29 2 a2) 29 4)) ∧ wi (8 * ((sU (sU q1.2.2 29 1 a1) 29 2 a2) 29 4)) ≤ 32768 then if 0 ≤ wi (8 * ((sU (sU q1.2.2 29 1 a1) 29 2 a2) 29 4)) ∧ wi (8 * ((sU (sU q1.2.2 29 1 a1) 29 2 a2) 29 4)) ≤ 32768 then nm (sUc (sUc (sU (sU q1.2.2 29 1 a1) 29 2 a2) (88 + q1.2.1.length) (fun _ => 0)) (88 + (q1.2.1 ++ [(wi (8 * ((sU (sU q1.2.2 29 1 a1) 29 2 a2) 29 4))).toNat]).length) (fun _ => 0)) (fun σ7 => if 0 ≤ wi (8 * ((sU (sU q1.2.2 29 1 a1) 29 2 a2) 29 4)) ∧ wi (8 * ((sU (sU q1.2.2 29 1 a1) 29 2 a2) 29 4)) ≤ 32768 then nm (sUc σ7 (88 + ((q1.2.1 ++ [(wi (8 * ((sU (sU q1.2.2 29 1 a1) 29 2 a2) 29 4))).toNat]) ++ [(wi (8 * ((sU (sU q1.2.2 29 1 a1) 29 2 a2) 29 4))).toNat]).length) (fun _ => 0)) (fun σ10 => some (0, ((88 + q1.2.1.length, 88 + (q1.2.1 ++ [(wi (8 * ((sU (sU q1.2.2 29 1 a1) 29 2 a2) 29 4))).toNat]).length, 88 + ((q1.2.1 ++ [(wi (8 * ((sU (sU q1.2.2 29 1 a1) 29 2 a2) 29 4))).toNat]) ++ [(wi (8 * ((sU (sU q1.2.2 29 1 a1) 29 2 a2) 29 4))).toNat]).length, q1.1.2.2.2.1, q1.1.2.2.2.2.1, q1.1.2.2.2.2.2), (((q1.2.1 ++ [(wi (8 * ((sU (sU q1.2.2 29 1 a1) 29 2 a2) 29 4))).toNat]) ++ [(wi (8 * ((sU (sU q1.2.2 29 1 a1) 29 2 a2) 29 4))).toNat]) ++ [(wi (8 * ((sU (sU q1.2.2 29 1 a1) 29 2 a2) 29 4))).toNat]), σ10))) else none) else none else none else none) (fun K2 => jn (fun q12 : Unit => K2 (q_0, x_0, (sU σ 29 5 ((σ 29 5) + 1)))) (fun K13 => if ¬ wi a1 = wi (σ 29 1) then K13 () else if wi a2 = wi (σ 29 2) then K2 (q_0, x_0, σ) else K13 ()))
set_option maxRecDepth 100000 in
set_option maxHeartbeats 400000 in
theorem T_X3_lookBy29 {G : sG} {q_0 : qT} {x_0 : List Nat} {σ : sM} {t_0 : qT × List Nat × sM} {r_0 : Int} {a1 a2 : Int} (h : X3_lookBy29 q_0 x_0 σ a1 a2 = some (r_0, t_0)) : aM G yX3_lookBy cX3_lookBy 4 none 0 3 98304 [.ref (gP G 29), vI a1, vI a2] (mkSh q_0 x_0, σ) (r_0, (mkSh t_0.1 t_0.2.1, t_0.2.2)) := by
  unfold X3_lookBy29 at h
  refine aM_of (by decide) (Nat.le_of_ble_eq_true rfl) ?_
  show aW G cX3_lookBy RX3 "lookBy" 4 none _ _ aX 0 0 _ [(0, .ref (gP G 29)), (1, vI a1), (2, vI a2)] 0 []
  refine a_iload_n 1 dX3_lookBy_0 rfl ?_
  refine a_aload_n 0 dX3_lookBy_1 rfl ?_
  refine a_getI (j := 1) dX3_lookBy_2 KX3 rfl (by decide) rfl kf_RX3_9 ?_
  refine jn_s (fun q1 : (qT × List Nat × sM) => aW G cX3_lookBy RX3 "lookBy" 4 none (sR 0 3 98304) (aQ G none 3 98304 (r_0, (mkSh t_0.1 t_0.2.1, t_0.2.2))) aX 0 0 (mkSh q1.1 q1.2.1, q1.2.2) [(0, .ref (gP G 29)), (1, vI a1), (2, vI a2)] 26 []) h (fun q1 h => ?_) (fun K2 hK2 h => ?_)
  · skip
    refine a_aload_n 0 dX3_lookBy_26 rfl ?_
    refine a_iload_n 1 dX3_lookBy_27 rfl ?_
    refine a_putI (j := 1) dX3_lookBy_28 KX3 rfl (by decide) rfl rfl rfl kf_RX3_9 ?_
    refine a_aload_n 0 dX3_lookBy_31 rfl ?_
    refine a_iload_n 2 dX3_lookBy_32 rfl ?_
    refine a_putI (j := 2) dX3_lookBy_33 KX3 rfl (by decide) rfl rfl rfl kf_RX3_15 ?_
    refine a_bipush dX3_lookBy_36 (by decide) ?_
    refine a_aload_n 0 dX3_lookBy_38 rfl ?_
    refine a_getI (j := 4) dX3_lookBy_39 KX3 rfl (by decide) rfl kf_RX3_22 ?_
    refine a_imul dX3_lookBy_42 ?_
    refine a_istore_n (L' := [(3, vI (8 * ((sU (sU q1.2.2 29 1 a1) 29 2 a2) 29 4))), (0, .ref (gP G 29)), (1, vI a1), (2, vI a2)]) dX3_lookBy_43 (by decide) rfl ?_
    refine a_iload_n 0 dX3_lookBy_44 rfl ?_
    refine a_aload_n 1 dX3_lookBy_45 rfl ?_
    refine a_getR (j := 6) dX3_lookBy_46 KX3 rfl (by decide) rfl kf_RX3_29 ?_
    refine a_gd h (fun c3 h => ?_)
    refine a_alenL dX3_lookBy_49 (sh_A c3) ?_
    refine a_icmp_le 74 dX3_lookBy_50 (by decide) rfl rfl h (fun c4 h => ?_) (fun c4 h => ?_)
    · skip
      refine a_widen (k' := 3) (n' := 98304) (by omega) (by omega) ?_
      exact a_vret dX3_lookBy_74 rfl (p_T (p_2 h))
    · skip
      refine a_aload_n 1 dX3_lookBy_53 rfl ?_
      refine a_iload_n 0 dX3_lookBy_54 rfl ?_
      refine a_gd h (fun c5 h => ?_)
      refine a_newX (N := (wi (8 * ((sU (sU q1.2.2 29 1 a1) 29 2 a2) 29 4))).toNat) dX3_lookBy_55 ka_long (by omega) (by omega) (show 0 + 1 ≤ 3 by omega) (show 0 + (wi (8 * ((sU (sU q1.2.2 29 1 a1) 29 2 a2) 29 4))).toNat ≤ 98304 by omega) ?_
      refine a_putQ29_6 dX3_lookBy_57 kf_RX3_29 ?_
      refine a_aload_n 1 dX3_lookBy_60 rfl ?_
      refine a_iload_n 0 dX3_lookBy_61 rfl ?_
      refine a_gd h (fun c6 h => ?_)
      refine a_newX (N := (wi (8 * ((sU (sU q1.2.2 29 1 a1) 29 2 a2) 29 4))).toNat) dX3_lookBy_62 ka_long (by omega) (by omega) (show 0 + 1 + 1 ≤ 3 by omega) (show 0 + (wi (8 * ((sU (sU q1.2.2 29 1 a1) 29 2 a2) 29 4))).toNat + (wi (8 * ((sU (sU q1.2.2 29 1 a1) 29 2 a2) 29 4))).toNat ≤ 98304 by omega) ?_
      refine a_nmS h (fun σ7 w8 h => ?_)
      refine a_putQ29_7 dX3_lookBy_64 kf_RX3_33 ?_
      refine a_aload_n 1 dX3_lookBy_67 rfl ?_
      refine a_iload_n 0 dX3_lookBy_68 rfl ?_
      refine a_gd h (fun c9 h => ?_)
      refine a_newX (N := (wi (8 * ((sU (sU q1.2.2 29 1 a1) 29 2 a2) 29 4))).toNat) dX3_lookBy_69 ka_long (by omega) (by omega) (show 0 + 1 + 1 + 1 ≤ 3 by omega) (show 0 + (wi (8 * ((sU (sU q1.2.2 29 1 a1) 29 2 a2) 29 4))).toNat + (wi (8 * ((sU (sU q1.2.2 29 1 a1) 29 2 a2) 29 4))).toNat + (wi (8 * ((sU (sU q1.2.2 29 1 a1) 29 2 a2) 29 4))).toNat ≤ 98304 by omega) ?_
      refine a_nmS h (fun σ10 w11 h => ?_)
      refine a_putQ29_8 dX3_lookBy_71 kf_RX3_36 ?_
      refine a_widen (k' := 3) (n' := 98304) (by omega) (by omega) ?_
      exact a_vret dX3_lookBy_74 rfl (p_T (p_2 h))
  · skip
    refine jn_s (fun q12 : Unit => aW G cX3_lookBy RX3 "lookBy" 4 none (sR 0 3 98304) (aQ G none 3 98304 (r_0, (mkSh t_0.1 t_0.2.1, t_0.2.2))) aX 0 0 (mkSh q_0 x_0, σ) [(0, .ref (gP G 29)), (1, vI a1), (2, vI a2)] 16 []) h (fun q12 h => ?_) (fun K13 hK13 h => ?_)
    · skip
      refine a_aload_n 0 dX3_lookBy_16 rfl ?_
      refine a_dupR dX3_lookBy_17 ?_
      refine a_getL (j := 5) dX3_lookBy_18 KX3 rfl (by decide) rfl kf_RX3_25 ?_
      refine a_lconst (z := 1) dX3_lookBy_21 (by decide) ?_
      refine a_ladd dX3_lookBy_22 ?_
      refine a_putL (j := 5) dX3_lookBy_23 KX3 rfl (by decide) rfl rfl rfl kf_RX3_25 ?_
      have hh := hK2 _ h
      exact a_sub [0, 1, 2] rfl hh
    · skip
      refine a_icmp_ne 16 dX3_lookBy_5 (by decide) rfl rfl h (fun c14 h => ?_) (fun c14 h => ?_)
      · skip
        have hh := hK13 _ h
        exact a_sub [0, 1, 2] rfl hh
      · skip
        refine a_iload_n 2 dX3_lookBy_8 rfl ?_
        refine a_aload_n 0 dX3_lookBy_9 rfl ?_
        refine a_getI (j := 2) dX3_lookBy_10 KX3 rfl (by decide) rfl kf_RX3_15 ?_
        refine a_icmp_eq 26 dX3_lookBy_13 (by decide) rfl rfl h (fun c15 h => ?_) (fun c15 h => ?_)
        · skip
          have hh := hK2 _ h
          exact a_sub [0, 1, 2] rfl hh
        · skip
          have hh := hK13 _ h
          exact a_sub [0, 1, 2] rfl hh

def X3_lookBy33 (q_0 : qT) (x_0 : List Nat) (σ : sM) (a1 a2 : Int) : Option (Int × qT × List Nat × sM) := jn (fun q1 : (qT × List Nat × sM) => if okA q1.1.2.2.2.1 q1.2.1 = true then if wi (8 * ((sU (sU q1.2.2 33 1 a1) 33 2 a2) 33 4)) ≤ wi ((lnA q1.1.2.2.2.1 q1.2.1 : Nat) : Int) then some (0, (q1.1, q1.2.1, (sU (sU q1.2.2 33 1 a1) 33 2 a2))) else if 0 ≤ wi (8 * ((sU (sU q1.2.2 33 1 a1) 33 2 a2) 33 4)) ∧ wi (8 * ((sU (sU q1.2.2 33 1 a1) 33 2 a2) 33 4)) ≤ 32768 then if 0 ≤ wi (8 * ((sU (sU q1.2.2 33 1 a1) 33 2 a2) 33 4)) ∧ wi (8 * ((sU (sU q1.2.2 33 1 a1) 33 2 a2) 33 4)) ≤ 32768 then nm (sUc (sUc (sU (sU q1.2.2 33 1 a1) 33 2 a2) (88 + q1.2.1.length) (fun _ => 0)) (88 + (q1.2.1 ++ [(wi (8 * ((sU (sU q1.2.2 33 1 a1) 33 2 a2) 33 4))).toNat]).length) (fun _ => 0)) (fun σ7 => if 0 ≤ wi (8 * ((sU (sU q1.2.2 33 1 a1) 33 2 a2) 33 4)) ∧ wi (8 * ((sU (sU q1.2.2 33 1 a1) 33 2 a2) 33 4)) ≤ 32768 then nm (sUc σ7 (88 + ((q1.2.1 ++ [(wi (8 * ((sU (sU q1.2.2 33 1 a1) 33 2 a2) 33 4))).toNat]) ++ [(wi (8 * ((sU (sU q1.2.2 33 1 a1) 33 2 a2) 33 4))).toNat]).length) (fun _ => 0)) (fun σ10 => some (0, ((q1.1.1, q1.1.2.1, q1.1.2.2.1, 88 + q1.2.1.length, 88 + (q1.2.1 ++ [(wi (8 * ((sU (sU q1.2.2 33 1 a1) 33 2 a2) 33 4))).toNat]).length, 88 + ((q1.2.1 ++ [(wi (8 * ((sU (sU q1.2.2 33 1 a1) 33 2 a2) 33 4))).toNat]) ++ [(wi (8 * ((sU (sU q1.2.2 33 1 a1) 33 2 a2) 33 4))).toNat]).length), (((q1.2.1 ++ [(wi (8 * ((sU (sU q1.2.2 33 1 a1) 33 2 a2) 33 4))).toNat]) ++ [(wi (8 * ((sU (sU q1.2.2 33 1 a1) 33 2 a2) 33 4))).toNat]) ++ [(wi (8 * ((sU (sU q1.2.2 33 1 a1) 33 2 a2) 33 4))).toNat]), σ10))) else none) else none else none else none) (fun K2 => jn (fun q12 : Unit => K2 (q_0, x_0, (sU σ 33 5 ((σ 33 5) + 1)))) (fun K13 => if ¬ wi a1 = wi (σ 33 1) then K13 () else if wi a2 = wi (σ 33 2) then K2 (q_0, x_0, σ) else K13 ()))
set_option maxRecDepth 100000 in
set_option maxHeartbeats 400000 in
theorem T_X3_lookBy33 {G : sG} {q_0 : qT} {x_0 : List Nat} {σ : sM} {t_0 : qT × List Nat × sM} {r_0 : Int} {a1 a2 : Int} (h : X3_lookBy33 q_0 x_0 σ a1 a2 = some (r_0, t_0)) : aM G yX3_lookBy cX3_lookBy 4 none 0 3 98304 [.ref (gP G 33), vI a1, vI a2] (mkSh q_0 x_0, σ) (r_0, (mkSh t_0.1 t_0.2.1, t_0.2.2)) := by
  unfold X3_lookBy33 at h
  refine aM_of (by decide) (Nat.le_of_ble_eq_true rfl) ?_
  show aW G cX3_lookBy RX3 "lookBy" 4 none _ _ aX 0 0 _ [(0, .ref (gP G 33)), (1, vI a1), (2, vI a2)] 0 []
  refine a_iload_n 1 dX3_lookBy_0 rfl ?_
  refine a_aload_n 0 dX3_lookBy_1 rfl ?_
  refine a_getI (j := 1) dX3_lookBy_2 KX3 rfl (by decide) rfl kf_RX3_9 ?_
  refine jn_s (fun q1 : (qT × List Nat × sM) => aW G cX3_lookBy RX3 "lookBy" 4 none (sR 0 3 98304) (aQ G none 3 98304 (r_0, (mkSh t_0.1 t_0.2.1, t_0.2.2))) aX 0 0 (mkSh q1.1 q1.2.1, q1.2.2) [(0, .ref (gP G 33)), (1, vI a1), (2, vI a2)] 26 []) h (fun q1 h => ?_) (fun K2 hK2 h => ?_)
  · skip
    refine a_aload_n 0 dX3_lookBy_26 rfl ?_
    refine a_iload_n 1 dX3_lookBy_27 rfl ?_
    refine a_putI (j := 1) dX3_lookBy_28 KX3 rfl (by decide) rfl rfl rfl kf_RX3_9 ?_
    refine a_aload_n 0 dX3_lookBy_31 rfl ?_
    refine a_iload_n 2 dX3_lookBy_32 rfl ?_
    refine a_putI (j := 2) dX3_lookBy_33 KX3 rfl (by decide) rfl rfl rfl kf_RX3_15 ?_
    refine a_bipush dX3_lookBy_36 (by decide) ?_
    refine a_aload_n 0 dX3_lookBy_38 rfl ?_
    refine a_getI (j := 4) dX3_lookBy_39 KX3 rfl (by decide) rfl kf_RX3_22 ?_
    refine a_imul dX3_lookBy_42 ?_
    refine a_istore_n (L' := [(3, vI (8 * ((sU (sU q1.2.2 33 1 a1) 33 2 a2) 33 4))), (0, .ref (gP G 33)), (1, vI a1), (2, vI a2)]) dX3_lookBy_43 (by decide) rfl ?_
    refine a_iload_n 0 dX3_lookBy_44 rfl ?_
    refine a_aload_n 1 dX3_lookBy_45 rfl ?_
    refine a_getR (j := 6) dX3_lookBy_46 KX3 rfl (by decide) rfl kf_RX3_29 ?_
    refine a_gd h (fun c3 h => ?_)
    refine a_alenL dX3_lookBy_49 (sh_A c3) ?_
    refine a_icmp_le 74 dX3_lookBy_50 (by decide) rfl rfl h (fun c4 h => ?_) (fun c4 h => ?_)
    · skip
      refine a_widen (k' := 3) (n' := 98304) (by omega) (by omega) ?_
      exact a_vret dX3_lookBy_74 rfl (p_T (p_2 h))
    · skip
      refine a_aload_n 1 dX3_lookBy_53 rfl ?_
      refine a_iload_n 0 dX3_lookBy_54 rfl ?_
      refine a_gd h (fun c5 h => ?_)
      refine a_newX (N := (wi (8 * ((sU (sU q1.2.2 33 1 a1) 33 2 a2) 33 4))).toNat) dX3_lookBy_55 ka_long (by omega) (by omega) (show 0 + 1 ≤ 3 by omega) (show 0 + (wi (8 * ((sU (sU q1.2.2 33 1 a1) 33 2 a2) 33 4))).toNat ≤ 98304 by omega) ?_
      refine a_putQ33_6 dX3_lookBy_57 kf_RX3_29 ?_
      refine a_aload_n 1 dX3_lookBy_60 rfl ?_
      refine a_iload_n 0 dX3_lookBy_61 rfl ?_
      refine a_gd h (fun c6 h => ?_)
      refine a_newX (N := (wi (8 * ((sU (sU q1.2.2 33 1 a1) 33 2 a2) 33 4))).toNat) dX3_lookBy_62 ka_long (by omega) (by omega) (show 0 + 1 + 1 ≤ 3 by omega) (show 0 + (wi (8 * ((sU (sU q1.2.2 33 1 a1) 33 2 a2) 33 4))).toNat + (wi (8 * ((sU (sU q1.2.2 33 1 a1) 33 2 a2) 33 4))).toNat ≤ 98304 by omega) ?_
      refine a_nmS h (fun σ7 w8 h => ?_)
      refine a_putQ33_7 dX3_lookBy_64 kf_RX3_33 ?_
      refine a_aload_n 1 dX3_lookBy_67 rfl ?_
      refine a_iload_n 0 dX3_lookBy_68 rfl ?_
      refine a_gd h (fun c9 h => ?_)
      refine a_newX (N := (wi (8 * ((sU (sU q1.2.2 33 1 a1) 33 2 a2) 33 4))).toNat) dX3_lookBy_69 ka_long (by omega) (by omega) (show 0 + 1 + 1 + 1 ≤ 3 by omega) (show 0 + (wi (8 * ((sU (sU q1.2.2 33 1 a1) 33 2 a2) 33 4))).toNat + (wi (8 * ((sU (sU q1.2.2 33 1 a1) 33 2 a2) 33 4))).toNat + (wi (8 * ((sU (sU q1.2.2 33 1 a1) 33 2 a2) 33 4))).toNat ≤ 98304 by omega) ?_
      refine a_nmS h (fun σ10 w11 h => ?_)
      refine a_putQ33_8 dX3_lookBy_71 kf_RX3_36 ?_
      refine a_widen (k' := 3) (n' := 98304) (by omega) (by omega) ?_
      exact a_vret dX3_lookBy_74 rfl (p_T (p_2 h))
  · skip
    refine jn_s (fun q12 : Unit => aW G cX3_lookBy RX3 "lookBy" 4 none (sR 0 3 98304) (aQ G none 3 98304 (r_0, (mkSh t_0.1 t_0.2.1, t_0.2.2))) aX 0 0 (mkSh q_0 x_0, σ) [(0, .ref (gP G 33)), (1, vI a1), (2, vI a2)] 16 []) h (fun q12 h => ?_) (fun K13 hK13 h => ?_)
    · skip
      refine a_aload_n 0 dX3_lookBy_16 rfl ?_
      refine a_dupR dX3_lookBy_17 ?_
      refine a_getL (j := 5) dX3_lookBy_18 KX3 rfl (by decide) rfl kf_RX3_25 ?_
      refine a_lconst (z := 1) dX3_lookBy_21 (by decide) ?_
      refine a_ladd dX3_lookBy_22 ?_
      refine a_putL (j := 5) dX3_lookBy_23 KX3 rfl (by decide) rfl rfl rfl kf_RX3_25 ?_
      have hh := hK2 _ h
      exact a_sub [0, 1, 2] rfl hh
    · skip
      refine a_icmp_ne 16 dX3_lookBy_5 (by decide) rfl rfl h (fun c14 h => ?_) (fun c14 h => ?_)
      · skip
        have hh := hK13 _ h
        exact a_sub [0, 1, 2] rfl hh
      · skip
        refine a_iload_n 2 dX3_lookBy_8 rfl ?_
        refine a_aload_n 0 dX3_lookBy_9 rfl ?_
        refine a_getI (j := 2) dX3_lookBy_10 KX3 rfl (by decide) rfl kf_RX3_15 ?_
        refine a_icmp_eq 26 dX3_lookBy_13 (by decide) rfl rfl h (fun c15 h => ?_) (fun c15 h => ?_)
        · skip
          have hh := hK2 _ h
          exact a_sub [0, 1, 2] rfl hh
        · skip
          have hh := hK13 _ h
          exact a_sub [0, 1, 2] rfl hh

def X3_stamped (o0 o0P o0V o0W o0n : Nat) (σ : sM) (a1 : Int) : Option Int := some (q_lor (q_lshl (σ o0 5) 32) (wi a1))
set_option maxRecDepth 100000 in
set_option maxHeartbeats 400000 in
theorem T_X3_stamped {G : sG} {q_0 : qT} {x_0 : List Nat} {σ : sM} {r_0 : Int} {a1 : Int} {o0 o0P o0V o0W o0n : Nat} (h_o0 : (mkSh q_0 x_0)[o0]? = some (.inl (3, [.ref 2, .int 0, .int 0, .ref (shC o0), .int 0, .long 0, .ref o0P, .ref o0V, .ref o0W]))) (g_o0S : (mkSh q_0 x_0)[shC o0]? = some (.inr (.int, 48, gN))) (g_o0P : (mkSh q_0 x_0)[o0P]? = some (.inr (.long, o0n, gN))) (g_o0V : (mkSh q_0 x_0)[o0V]? = some (.inr (.long, o0n, gN))) (g_o0W : (mkSh q_0 x_0)[o0W]? = some (.inr (.long, o0n, gN))) (h : X3_stamped o0 o0P o0V o0W o0n σ a1 = some r_0) : aM G yX3_stamped cX3_stamped 2 (some .long) 0 0 0 [.ref (gP G o0), vI a1] (mkSh q_0 x_0, σ) (r_0, (mkSh q_0 x_0, σ)) := by
  unfold X3_stamped at h
  refine aM_of (by decide) (Nat.le_of_ble_eq_true rfl) ?_
  show aW G cX3_stamped RX3 "stamped" 2 (some .long) _ _ aX 0 0 _ [(0, .ref (gP G o0)), (1, vI a1)] 0 []
  refine a_aload_n 0 dX3_stamped_0 rfl ?_
  refine a_getL (j := 5) dX3_stamped_1 KX3 h_o0 (by decide) rfl kf_RX3_25 ?_
  refine a_bipush dX3_stamped_4 (by decide) ?_
  refine a_lshl dX3_stamped_6 ?_
  refine a_iload_n 1 dX3_stamped_7 rfl ?_
  refine a_i2l dX3_stamped_8 ?_
  refine a_lor dX3_stamped_9 ?_
  exact a_lret dX3_stamped_10 rfl (s_inj h) rfl

def X3_isVoid (o0 o0P o0V o0W o0n : Nat) (σ : sM) (a1 : Int) : Option Int := if wi (q_lcmp (q_lshr a1 32) (σ o0 5)) = 0 then some 0 else some 1
set_option maxRecDepth 100000 in
set_option maxHeartbeats 400000 in
theorem T_X3_isVoid {G : sG} {q_0 : qT} {x_0 : List Nat} {σ : sM} {r_0 : Int} {a1 : Int} {o0 o0P o0V o0W o0n : Nat} (h_o0 : (mkSh q_0 x_0)[o0]? = some (.inl (3, [.ref 2, .int 0, .int 0, .ref (shC o0), .int 0, .long 0, .ref o0P, .ref o0V, .ref o0W]))) (g_o0S : (mkSh q_0 x_0)[shC o0]? = some (.inr (.int, 48, gN))) (g_o0P : (mkSh q_0 x_0)[o0P]? = some (.inr (.long, o0n, gN))) (g_o0V : (mkSh q_0 x_0)[o0V]? = some (.inr (.long, o0n, gN))) (g_o0W : (mkSh q_0 x_0)[o0W]? = some (.inr (.long, o0n, gN))) (h : X3_isVoid o0 o0P o0V o0W o0n σ a1 = some r_0) : aM G yX3_isVoid cX3_isVoid 3 (some .boolean) 0 0 0 [.ref (gP G o0), vL a1] (mkSh q_0 x_0, σ) (r_0, (mkSh q_0 x_0, σ)) := by
  unfold X3_isVoid at h
  refine aM_of (by decide) (Nat.le_of_ble_eq_true rfl) ?_
  show aW G cX3_isVoid RX3 "isVoid" 3 (some .boolean) _ _ aX 0 0 _ [(0, .ref (gP G o0)), (1, vL a1)] 0 []
  refine a_lload_n 1 dX3_isVoid_0 rfl ?_
  refine a_bipush dX3_isVoid_1 (by decide) ?_
  refine a_lshr dX3_isVoid_3 ?_
  refine a_aload_n 0 dX3_isVoid_4 rfl ?_
  refine a_getL (j := 5) dX3_isVoid_5 KX3 h_o0 (by decide) rfl kf_RX3_25 ?_
  refine a_lcmp dX3_isVoid_8 ?_
  refine a_if_eq 16 dX3_isVoid_9 (by decide) rfl h (fun c1 h => ?_) (fun c1 h => ?_)
  · skip
    refine a_iconst dX3_isVoid_16 ?_
    exact a_zret dX3_isVoid_17 rfl (by decide) (s_inj h) rfl
  · skip
    refine a_iconst dX3_isVoid_12 ?_
    refine a_goto 17 dX3_isVoid_13 (by decide) ?_
    exact a_zret dX3_isVoid_17 rfl (by decide) (s_inj h) rfl

def X3_valueAhead (F : Nat) (rec : Nat → sM → Int → Int → Int → Option (Int × sM)) (o0 o0P o0V o0W o0n : Nat) (σ : sM) (a1 a2 : Int) : Option (Int × sM) := bn (rec 1 σ a1 a2 0) (fun r1 σ3 => some (q_shr r1 3, σ3))
set_option maxRecDepth 100000 in
set_option maxHeartbeats 400000 in
theorem T_X3_valueAhead {G : sG} {q_0 : qT} {x_0 : List Nat} {σ s_0 : sM} {r_0 : Int} {a1 a2 : Int} {o0 o0P o0V o0W o0n : Nat} {F dd : Nat} {rec : Nat → sM → Int → Int → Int → Option (Int × sM)} (h_o0 : (mkSh q_0 x_0)[o0]? = some (.inl (3, [.ref 2, .int 0, .int 0, .ref (shC o0), .int 0, .long 0, .ref o0P, .ref o0V, .ref o0W]))) (g_o0S : (mkSh q_0 x_0)[shC o0]? = some (.inr (.int, 48, gN))) (g_o0P : (mkSh q_0 x_0)[o0P]? = some (.inr (.long, o0n, gN))) (g_o0V : (mkSh q_0 x_0)[o0V]? = some (.inr (.long, o0n, gN))) (g_o0W : (mkSh q_0 x_0)[o0W]? = some (.inr (.long, o0n, gN))) (hdd : 20 ≤ dd) (hR : RCX3 G q_0 x_0 o0 o0P o0V o0W o0n dd rec) (h : X3_valueAhead F rec o0 o0P o0V o0W o0n σ a1 a2 = some (r_0, s_0)) : aM G yX3_valueAhead cX3_valueAhead 3 (some .int) (dd + 1) 0 0 [.ref (gP G o0), vI a1, vI a2] (mkSh q_0 x_0, σ) (r_0, (mkSh q_0 x_0, s_0)) := by
  unfold X3_valueAhead at h
  refine aM_of (by decide) (Nat.le_of_ble_eq_true rfl) ?_
  show aW G cX3_valueAhead RX3 "valueAhead" 3 (some .int) _ _ aX 0 0 _ [(0, .ref (gP G o0)), (1, vI a1), (2, vI a2)] 0 []
  refine a_aload_n 0 dX3_valueAhead_0 rfl ?_
  refine a_iload_n 1 dX3_valueAhead_1 rfl ?_
  refine a_iload_n 2 dX3_valueAhead_2 rfl ?_
  refine bn_s h (fun r1 σ3 e2 h => ?_)
  refine a_callVI dX3_valueAhead_3 mX3_planAt KX3 rfl kv_X3_planAt ks_X3_planAt h_o0 km_RX3_60 rfl (hR.2.1 _ _ _ _ _ e2) (fun _ => rfl) rfl (show dd + 1 ≤ dd + 1 by omega) (show 80 * dd + 79 ≤ 80 * (dd + 1) by omega) ⟨(Nat.le_of_ble_eq_true rfl), (Nat.le_of_ble_eq_true rfl)⟩ (Nat.le_of_ble_eq_true rfl) ?_
  refine a_iconst dX3_valueAhead_6 ?_
  refine a_ishr dX3_valueAhead_7 ?_
  exact a_iret dX3_valueAhead_8 rfl (p_1 h) (p_S (p_2 h))

def X3_choiceAt (F : Nat) (rec : Nat → sM → Int → Int → Int → Option (Int × sM)) (o0 o0P o0V o0W o0n : Nat) (σ : sM) (a1 a2 : Int) : Option (Int × sM) := bn (rec 1 σ a1 a2 0) (fun r1 σ3 => some (q_and r1 7, σ3))
set_option maxRecDepth 100000 in
set_option maxHeartbeats 400000 in
theorem T_X3_choiceAt {G : sG} {q_0 : qT} {x_0 : List Nat} {σ s_0 : sM} {r_0 : Int} {a1 a2 : Int} {o0 o0P o0V o0W o0n : Nat} {F dd : Nat} {rec : Nat → sM → Int → Int → Int → Option (Int × sM)} (h_o0 : (mkSh q_0 x_0)[o0]? = some (.inl (3, [.ref 2, .int 0, .int 0, .ref (shC o0), .int 0, .long 0, .ref o0P, .ref o0V, .ref o0W]))) (g_o0S : (mkSh q_0 x_0)[shC o0]? = some (.inr (.int, 48, gN))) (g_o0P : (mkSh q_0 x_0)[o0P]? = some (.inr (.long, o0n, gN))) (g_o0V : (mkSh q_0 x_0)[o0V]? = some (.inr (.long, o0n, gN))) (g_o0W : (mkSh q_0 x_0)[o0W]? = some (.inr (.long, o0n, gN))) (hdd : 20 ≤ dd) (hR : RCX3 G q_0 x_0 o0 o0P o0V o0W o0n dd rec) (h : X3_choiceAt F rec o0 o0P o0V o0W o0n σ a1 a2 = some (r_0, s_0)) : aM G yX3_choiceAt cX3_choiceAt 3 (some .int) (dd + 1) 0 0 [.ref (gP G o0), vI a1, vI a2] (mkSh q_0 x_0, σ) (r_0, (mkSh q_0 x_0, s_0)) := by
  unfold X3_choiceAt at h
  refine aM_of (by decide) (Nat.le_of_ble_eq_true rfl) ?_
  show aW G cX3_choiceAt RX3 "choiceAt" 3 (some .int) _ _ aX 0 0 _ [(0, .ref (gP G o0)), (1, vI a1), (2, vI a2)] 0 []
  refine a_aload_n 0 dX3_choiceAt_0 rfl ?_
  refine a_iload_n 1 dX3_choiceAt_1 rfl ?_
  refine a_iload_n 2 dX3_choiceAt_2 rfl ?_
  refine bn_s h (fun r1 σ3 e2 h => ?_)
  refine a_callVI dX3_choiceAt_3 mX3_planAt KX3 rfl kv_X3_planAt ks_X3_planAt h_o0 km_RX3_60 rfl (hR.2.1 _ _ _ _ _ e2) (fun _ => rfl) rfl (show dd + 1 ≤ dd + 1 by omega) (show 80 * dd + 79 ≤ 80 * (dd + 1) by omega) ⟨(Nat.le_of_ble_eq_true rfl), (Nat.le_of_ble_eq_true rfl)⟩ (Nat.le_of_ble_eq_true rfl) ?_
  refine a_bipush dX3_choiceAt_6 (by decide) ?_
  refine a_iand dX3_choiceAt_8 ?_
  exact a_iret dX3_choiceAt_9 rfl (p_1 h) (p_S (p_2 h))

def X3_placeOf (o0 o0P o0V o0W o0n : Nat) (σ : sM) (a1 a2 : Int) : Option Int := bp (X3_shareOf o0 o0P o0V o0W o0n σ a2 0) (fun r1 => bp (X3_shareOf o0 o0P o0V o0W o0n σ a2 1) (fun r3 => bp (X3_shareOf o0 o0P o0V o0W o0n σ a2 2) (fun r5 => if wi a1 < 0 then some (-1) else if wi (σ 2 7) ≤ wi a1 then some (-1) else if ¬ wi ((r1 + r3) + r5) = 0 then if wi ((a1 * (σ o0 4)) + ((r1 + r3) + r5)) < 0 then some (-1) else if wi (o0n : Int) ≤ wi ((a1 * (σ o0 4)) + ((r1 + r3) + r5)) then some (-1) else some ((a1 * (σ o0 4)) + ((r1 + r3) + r5)) else some (-1))))
set_option maxRecDepth 100000 in
set_option maxHeartbeats 400000 in
theorem T_X3_placeOf {G : sG} {q_0 : qT} {x_0 : List Nat} {σ : sM} {r_0 : Int} {a1 a2 : Int} {o0 o0P o0V o0W o0n : Nat} (h_o0 : (mkSh q_0 x_0)[o0]? = some (.inl (3, [.ref 2, .int 0, .int 0, .ref (shC o0), .int 0, .long 0, .ref o0P, .ref o0V, .ref o0W]))) (g_o0S : (mkSh q_0 x_0)[shC o0]? = some (.inr (.int, 48, gN))) (g_o0P : (mkSh q_0 x_0)[o0P]? = some (.inr (.long, o0n, gN))) (g_o0V : (mkSh q_0 x_0)[o0V]? = some (.inr (.long, o0n, gN))) (g_o0W : (mkSh q_0 x_0)[o0W]? = some (.inr (.long, o0n, gN))) (h : X3_placeOf o0 o0P o0V o0W o0n σ a1 a2 = some r_0) : aM G yX3_placeOf cX3_placeOf 5 (some .int) 1 0 0 [.ref (gP G o0), vI a1, vI a2] (mkSh q_0 x_0, σ) (r_0, (mkSh q_0 x_0, σ)) := by
  unfold X3_placeOf at h
  refine aM_of (by decide) (Nat.le_of_ble_eq_true rfl) ?_
  show aW G cX3_placeOf RX3 "placeOf" 5 (some .int) _ _ aX 0 0 _ [(0, .ref (gP G o0)), (1, vI a1), (2, vI a2)] 0 []
  refine a_aload_n 0 dX3_placeOf_0 rfl ?_
  refine a_iload_n 2 dX3_placeOf_1 rfl ?_
  refine a_iconst dX3_placeOf_2 ?_
  refine bp_s h (fun r1 e2 h => ?_)
  refine a_callVI dX3_placeOf_3 mX3_shareOf KX3 rfl kv_X3_shareOf ks_X3_shareOf h_o0 km_RX3_100 rfl (T_X3_shareOf h_o0 g_o0S g_o0P g_o0V g_o0W e2) (fun _ => rfl) rfl (Nat.le_of_ble_eq_true rfl) (Nat.le_of_ble_eq_true rfl) ⟨(Nat.le_of_ble_eq_true rfl), (Nat.le_of_ble_eq_true rfl)⟩ (Nat.le_of_ble_eq_true rfl) ?_
  refine a_aload_n 0 dX3_placeOf_6 rfl ?_
  refine a_iload_n 2 dX3_placeOf_7 rfl ?_
  refine a_iconst dX3_placeOf_8 ?_
  refine bp_s h (fun r3 e4 h => ?_)
  refine a_callVI dX3_placeOf_9 mX3_shareOf KX3 rfl kv_X3_shareOf ks_X3_shareOf h_o0 km_RX3_100 rfl (T_X3_shareOf h_o0 g_o0S g_o0P g_o0V g_o0W e4) (fun _ => rfl) rfl (Nat.le_of_ble_eq_true rfl) (Nat.le_of_ble_eq_true rfl) ⟨(Nat.le_of_ble_eq_true rfl), (Nat.le_of_ble_eq_true rfl)⟩ (Nat.le_of_ble_eq_true rfl) ?_
  refine a_iadd dX3_placeOf_12 ?_
  refine a_aload_n 0 dX3_placeOf_13 rfl ?_
  refine a_iload_n 2 dX3_placeOf_14 rfl ?_
  refine a_iconst dX3_placeOf_15 ?_
  refine bp_s h (fun r5 e6 h => ?_)
  refine a_callVI dX3_placeOf_16 mX3_shareOf KX3 rfl kv_X3_shareOf ks_X3_shareOf h_o0 km_RX3_100 rfl (T_X3_shareOf h_o0 g_o0S g_o0P g_o0V g_o0W e6) (fun _ => rfl) rfl (Nat.le_of_ble_eq_true rfl) (Nat.le_of_ble_eq_true rfl) ⟨(Nat.le_of_ble_eq_true rfl), (Nat.le_of_ble_eq_true rfl)⟩ (Nat.le_of_ble_eq_true rfl) ?_
  refine a_iadd dX3_placeOf_19 ?_
  refine a_istore_n (L' := [(3, vI ((r1 + r3) + r5)), (0, .ref (gP G o0)), (1, vI a1), (2, vI a2)]) dX3_placeOf_20 (by decide) rfl ?_
  refine a_iload_n 2 dX3_placeOf_21 rfl ?_
  refine a_if_lt 40 dX3_placeOf_22 (by decide) rfl h (fun c7 h => ?_) (fun c7 h => ?_)
  · skip
    refine a_iconst dX3_placeOf_40 ?_
    exact a_iret dX3_placeOf_41 rfl (s_inj h) rfl
  · skip
    refine a_iload_n 2 dX3_placeOf_25 rfl ?_
    refine a_aload_n 1 dX3_placeOf_26 rfl ?_
    refine a_getR (j := 0) dX3_placeOf_27 KX3 h_o0 (by decide) rfl kf_RX3_39 ?_
    refine a_getIN (j := 7) dX3_placeOf_30 KX1 rfl (by decide) rfl kf_RX3_63 ?_
    refine a_icmp_ge 40 dX3_placeOf_33 (by decide) rfl rfl h (fun c8 h => ?_) (fun c8 h => ?_)
    · skip
      refine a_iconst dX3_placeOf_40 ?_
      exact a_iret dX3_placeOf_41 rfl (s_inj h) rfl
    · skip
      refine a_iload_n 0 dX3_placeOf_36 rfl ?_
      refine a_if_ne 42 dX3_placeOf_37 (by decide) rfl h (fun c9 h => ?_) (fun c9 h => ?_)
      · skip
        refine a_iload_n 2 dX3_placeOf_42 rfl ?_
        refine a_aload_n 1 dX3_placeOf_43 rfl ?_
        refine a_getI (j := 4) dX3_placeOf_44 KX3 h_o0 (by decide) rfl kf_RX3_22 ?_
        refine a_imul dX3_placeOf_47 ?_
        refine a_iload_n 0 dX3_placeOf_48 rfl ?_
        refine a_iadd dX3_placeOf_49 ?_
        refine a_istore (L' := [(4, vI ((a1 * (σ o0 4)) + ((r1 + r3) + r5))), (3, vI ((r1 + r3) + r5)), (0, .ref (gP G o0)), (1, vI a1), (2, vI a2)]) dX3_placeOf_50 (by decide) rfl ?_
        refine a_iload 0 dX3_placeOf_52 rfl ?_
        refine a_if_lt 72 dX3_placeOf_54 (by decide) rfl h (fun c10 h => ?_) (fun c10 h => ?_)
        · skip
          refine a_iconst dX3_placeOf_72 ?_
          exact a_iret dX3_placeOf_73 rfl (s_inj h) rfl
        · skip
          refine a_iload 0 dX3_placeOf_57 rfl ?_
          refine a_aload_n 2 dX3_placeOf_59 rfl ?_
          refine a_getR (j := 6) dX3_placeOf_60 KX3 h_o0 (by decide) rfl kf_RX3_29 ?_
          refine a_alenL dX3_placeOf_63 g_o0P ?_
          refine a_icmp_ge 72 dX3_placeOf_64 (by decide) rfl rfl h (fun c11 h => ?_) (fun c11 h => ?_)
          · skip
            refine a_iconst dX3_placeOf_72 ?_
            exact a_iret dX3_placeOf_73 rfl (s_inj h) rfl
          · skip
            refine a_iload 0 dX3_placeOf_67 rfl ?_
            refine a_goto 73 dX3_placeOf_69 (by decide) ?_
            exact a_iret dX3_placeOf_73 rfl (s_inj h) rfl
      · skip
        refine a_iconst dX3_placeOf_40 ?_
        exact a_iret dX3_placeOf_41 rfl (s_inj h) rfl

def X3_planAt (F : Nat) (rec : Nat → sM → Int → Int → Int → Option (Int × sM)) (o0 o0P o0V o0W o0n : Nat) (σ : sM) (a1 a2 : Int) : Option (Int × sM) := bp (X3_placeOf o0 o0P o0V o0W o0n σ a1 a2) (fun r1 => if 0 ≤ wi r1 then if 0 ≤ wi r1 ∧ wi r1 < o0n then bp (X3_isVoid o0 o0P o0V o0W o0n σ (σ o0P (wi r1).toNat)) (fun r5 => jn (fun q7 : sM => if 0 ≤ wi r1 ∧ wi r1 < o0n then some (q7 o0P (wi r1).toNat, q7) else none) (fun K8 => if wi r5 = 0 then K8 σ else jn (fun q11 : sM × Int => bp (X3_stamped o0 o0P o0V o0W o0n q11.1 q11.2) (fun r13 => if 0 ≤ wi r1 ∧ wi r1 < o0n then K8 (sU q11.1 o0P (wi r1).toNat r13) else none)) (fun K12 => if ¬ wi (σ o0 1) = 4 then bn (rec 3 σ a1 a2 0) (fun r17 σ19 => K12 (σ19, r17)) else bn (rec 2 σ a1 a2 0) (fun r20 σ22 => K12 (σ22, r20))))) else none else some (6, σ))
set_option maxRecDepth 100000 in
set_option maxHeartbeats 400000 in
theorem T_X3_planAt {G : sG} {q_0 : qT} {x_0 : List Nat} {σ s_0 : sM} {r_0 : Int} {a1 a2 : Int} {o0 o0P o0V o0W o0n : Nat} {F dd : Nat} {rec : Nat → sM → Int → Int → Int → Option (Int × sM)} (h_o0 : (mkSh q_0 x_0)[o0]? = some (.inl (3, [.ref 2, .int 0, .int 0, .ref (shC o0), .int 0, .long 0, .ref o0P, .ref o0V, .ref o0W]))) (g_o0S : (mkSh q_0 x_0)[shC o0]? = some (.inr (.int, 48, gN))) (g_o0P : (mkSh q_0 x_0)[o0P]? = some (.inr (.long, o0n, gN))) (g_o0V : (mkSh q_0 x_0)[o0V]? = some (.inr (.long, o0n, gN))) (g_o0W : (mkSh q_0 x_0)[o0W]? = some (.inr (.long, o0n, gN))) (hdd : 20 ≤ dd) (hR : RCX3 G q_0 x_0 o0 o0P o0V o0W o0n dd rec) (h : X3_planAt F rec o0 o0P o0V o0W o0n σ a1 a2 = some (r_0, s_0)) : aM G yX3_planAt cX3_planAt 4 (some .int) (dd + 1) 0 0 [.ref (gP G o0), vI a1, vI a2] (mkSh q_0 x_0, σ) (r_0, (mkSh q_0 x_0, s_0)) := by
  unfold X3_planAt at h
  refine aM_of (by decide) (Nat.le_of_ble_eq_true rfl) ?_
  show aW G cX3_planAt RX3 "planAt" 4 (some .int) _ _ aX 0 0 _ [(0, .ref (gP G o0)), (1, vI a1), (2, vI a2)] 0 []
  refine a_aload_n 0 dX3_planAt_0 rfl ?_
  refine a_iload_n 1 dX3_planAt_1 rfl ?_
  refine a_iload_n 2 dX3_planAt_2 rfl ?_
  refine bp_s h (fun r1 e2 h => ?_)
  refine a_callVI dX3_planAt_3 mX3_placeOf KX3 rfl kv_X3_placeOf ks_X3_placeOf h_o0 km_RX3_78 rfl (T_X3_placeOf h_o0 g_o0S g_o0P g_o0V g_o0W e2) (fun _ => rfl) rfl (show 1 + 1 ≤ dd + 1 by omega) (show 80 * 1 + 79 ≤ 80 * (dd + 1) by omega) ⟨(Nat.le_of_ble_eq_true rfl), (Nat.le_of_ble_eq_true rfl)⟩ (Nat.le_of_ble_eq_true rfl) ?_
  refine a_istore_n (L' := [(3, vI r1), (0, .ref (gP G o0)), (1, vI a1), (2, vI a2)]) dX3_planAt_6 (by decide) rfl ?_
  refine a_iload_n 0 dX3_planAt_7 rfl ?_
  refine a_if_ge 14 dX3_planAt_8 (by decide) rfl h (fun c3 h => ?_) (fun c3 h => ?_)
  · skip
    refine a_aload_n 1 dX3_planAt_14 rfl ?_
    refine a_aload_n 1 dX3_planAt_15 rfl ?_
    refine a_getR (j := 6) dX3_planAt_16 KX3 h_o0 (by decide) rfl kf_RX3_29 ?_
    refine a_iload_n 0 dX3_planAt_19 rfl ?_
    refine a_gd h (fun c4 h => ?_)
    refine a_lald (x' := wi r1) dX3_planAt_20 g_o0P rfl c4 rfl ?_
    refine bp_s h (fun r5 e6 h => ?_)
    refine a_callVI dX3_planAt_21 mX3_isVoid KX3 rfl kv_X3_isVoid ks_X3_isVoid h_o0 km_RX3_81 rfl (T_X3_isVoid h_o0 g_o0S g_o0P g_o0V g_o0W e6) (fun _ => rfl) rfl (show 0 + 1 ≤ dd + 1 by omega) (show 80 * 0 + 79 ≤ 80 * (dd + 1) by omega) ⟨(Nat.le_of_ble_eq_true rfl), (Nat.le_of_ble_eq_true rfl)⟩ (Nat.le_of_ble_eq_true rfl) ?_
    refine jn_s (fun q7 : sM => aW G cX3_planAt RX3 "planAt" 4 (some .int) (sR (dd + 1) 0 0) (aQ G (some .int) 0 0 (r_0, (mkSh q_0 x_0, s_0))) aX 0 0 (mkSh q_0 x_0, q7) [(0, .ref (gP G o0)), (3, vI r1)] 60 []) h (fun q7 h => ?_) (fun K8 hK8 h => ?_)
    · skip
      refine a_aload_n 0 dX3_planAt_60 rfl ?_
      refine a_getR (j := 6) dX3_planAt_61 KX3 h_o0 (by decide) rfl kf_RX3_29 ?_
      refine a_iload_n 1 dX3_planAt_64 rfl ?_
      refine a_gd h (fun c9 h => ?_)
      refine a_lald (x' := wi r1) dX3_planAt_65 g_o0P rfl c9 rfl ?_
      refine a_l2i dX3_planAt_66 ?_
      exact a_iret dX3_planAt_67 rfl (p_1 h) (p_S (p_2 h))
    · skip
      refine a_if_eq 60 dX3_planAt_24 (by decide) rfl h (fun c10 h => ?_) (fun c10 h => ?_)
      · skip
        have hh := hK8 _ h
        exact a_sub [1, 0] rfl hh
      · skip
        refine a_aload_n 1 dX3_planAt_27 rfl ?_
        refine a_getR (j := 6) dX3_planAt_28 KX3 h_o0 (by decide) rfl kf_RX3_29 ?_
        refine a_iload_n 0 dX3_planAt_31 rfl ?_
        refine a_aload_n 1 dX3_planAt_32 rfl ?_
        refine a_aload_n 1 dX3_planAt_33 rfl ?_
        refine a_getI (j := 1) dX3_planAt_34 KX3 h_o0 (by decide) rfl kf_RX3_9 ?_
        refine a_iconst dX3_planAt_37 ?_
        refine jn_s (fun q11 : sM × Int => aW G cX3_planAt RX3 "planAt" 4 (some .int) (sR (dd + 1) 0 0) (aQ G (some .int) 0 0 (r_0, (mkSh q_0 x_0, s_0))) aX 0 0 (mkSh q_0 x_0, q11.1) [(0, .ref (gP G o0)), (3, vI r1)] 56 [vI q11.2, .ref (gP G o0), vI r1, .ref (gP G o0P)]) h (fun q11 h => ?_) (fun K12 hK12 h => ?_)
        · skip
          refine bp_s h (fun r13 e14 h => ?_)
          refine a_callVL dX3_planAt_56 mX3_stamped KX3 rfl kv_X3_stamped ks_X3_stamped h_o0 km_RX3_89 rfl (T_X3_stamped h_o0 g_o0S g_o0P g_o0V g_o0W e14) (fun _ => rfl) rfl (show 0 + 1 ≤ dd + 1 by omega) (show 80 * 0 + 79 ≤ 80 * (dd + 1) by omega) ⟨(Nat.le_of_ble_eq_true rfl), (Nat.le_of_ble_eq_true rfl)⟩ (Nat.le_of_ble_eq_true rfl) ?_
          refine a_gd h (fun c15 h => ?_)
          refine a_last (x' := wi r1) dX3_planAt_59 g_o0P rfl c15 rfl ?_
          have hh := hK8 _ h
          exact a_sub [0, 1] rfl hh
        · skip
          refine a_icmp_ne 50 dX3_planAt_38 (by decide) rfl (by decide) h (fun c16 h => ?_) (fun c16 h => ?_)
          · skip
            refine a_aload_n 1 dX3_planAt_50 rfl ?_
            refine a_iload_n 2 dX3_planAt_51 rfl ?_
            refine a_iload_n 3 dX3_planAt_52 rfl ?_
            refine bn_s h (fun r17 σ19 e18 h => ?_)
            refine a_callVI dX3_planAt_53 mX3_rulePlan KX3 rfl kv_X3_rulePlan ks_X3_rulePlan h_o0 km_RX3_106 rfl (hR.2.2.2.1 _ _ _ _ _ e18) (fun _ => rfl) rfl (show dd + 1 ≤ dd + 1 by omega) (show 80 * dd + 79 ≤ 80 * (dd + 1) by omega) ⟨(Nat.le_of_ble_eq_true rfl), (Nat.le_of_ble_eq_true rfl)⟩ (Nat.le_of_ble_eq_true rfl) ?_
            have hh := hK12 _ h
            exact a_sub [1, 0] rfl hh
          · skip
            refine a_aload_n 1 dX3_planAt_41 rfl ?_
            refine a_iload_n 2 dX3_planAt_42 rfl ?_
            refine a_iload_n 3 dX3_planAt_43 rfl ?_
            refine bn_s h (fun r20 σ22 e21 h => ?_)
            refine a_callVI dX3_planAt_44 mX3_bestPlan KX3 rfl kv_X3_bestPlan ks_X3_bestPlan h_o0 km_RX3_103 rfl (hR.2.2.1 _ _ _ _ _ e21) (fun _ => rfl) rfl (show dd + 1 ≤ dd + 1 by omega) (show 80 * dd + 79 ≤ 80 * (dd + 1) by omega) ⟨(Nat.le_of_ble_eq_true rfl), (Nat.le_of_ble_eq_true rfl)⟩ (Nat.le_of_ble_eq_true rfl) ?_
            refine a_goto 56 dX3_planAt_47 (by decide) ?_
            have hh := hK12 _ h
            exact a_sub [1, 0] rfl hh
  · skip
    refine a_bipush dX3_planAt_11 (by decide) ?_
    exact a_iret dX3_planAt_13 rfl (p_1 h) (p_S (p_2 h))

def X3_partOf (σ : sM) (a0 a1 : Int) : Option Int := if ¬ wi a0 = 1 then some (10 - a1) else some a1
set_option maxRecDepth 100000 in
set_option maxHeartbeats 400000 in
theorem T_X3_partOf {G : sG} {q_0 : qT} {x_0 : List Nat} {σ : sM} {r_0 : Int} {a0 a1 : Int}  (h : X3_partOf σ a0 a1 = some r_0) : aM G yX3_partOf cX3_partOf 2 (some .int) 0 0 0 [vI a0, vI a1] (mkSh q_0 x_0, σ) (r_0, (mkSh q_0 x_0, σ)) := by
  unfold X3_partOf at h
  refine aM_of (by decide) (Nat.le_of_ble_eq_true rfl) ?_
  show aW G cX3_partOf RX3 "partOf" 2 (some .int) _ _ aX 0 0 _ [(0, vI a0), (1, vI a1)] 0 []
  refine a_iload_n 0 dX3_partOf_0 rfl ?_
  refine a_iconst dX3_partOf_1 ?_
  refine a_icmp_ne 9 dX3_partOf_2 (by decide) rfl (by decide) h (fun c1 h => ?_) (fun c1 h => ?_)
  · skip
    refine a_bipush dX3_partOf_9 (by decide) ?_
    refine a_iload_n 1 dX3_partOf_11 rfl ?_
    refine a_isub dX3_partOf_12 ?_
    exact a_iret dX3_partOf_13 rfl (s_inj h) rfl
  · skip
    refine a_iload_n 1 dX3_partOf_5 rfl ?_
    refine a_goto 13 dX3_partOf_6 (by decide) ?_
    exact a_iret dX3_partOf_13 rfl (s_inj h) rfl

def X4_lookAt (σ : sM) (a1 : Int) : Option (Int × sM) := if wi a1 < 0 then some (0, σ) else if 401 ≤ wi a1 then some (0, σ) else if 0 ≤ wi a1 ∧ wi a1 < 401 then if 0 ≤ wi a1 ∧ wi a1 < 401 then nm (sU (sU (sU σ 22 6 a1) 22 7 ((sU σ 22 6 a1) 23 (wi a1).toNat)) 22 8 ((sU (sU σ 22 6 a1) 22 7 ((sU σ 22 6 a1) 23 (wi a1).toNat)) 24 (wi a1).toNat)) (fun σ5 => some (0, σ5)) else none else none
set_option maxRecDepth 100000 in
set_option maxHeartbeats 400000 in
theorem T_X4_lookAt {G : sG} {q_0 : qT} {x_0 : List Nat} {σ s_0 : sM} {r_0 : Int} {a1 : Int}  (h : X4_lookAt σ a1 = some (r_0, s_0)) : aM G yX4_lookAt cX4_lookAt 2 none 0 0 0 [.ref (gP G 22), vI a1] (mkSh q_0 x_0, σ) (r_0, (mkSh q_0 x_0, s_0)) := by
  unfold X4_lookAt at h
  refine aM_of (by decide) (Nat.le_of_ble_eq_true rfl) ?_
  show aW G cX4_lookAt RX4 "lookAt" 2 none _ _ aX 0 0 _ [(0, .ref (gP G 22)), (1, vI a1)] 0 []
  refine a_iload_n 1 dX4_lookAt_0 rfl ?_
  refine a_if_lt 38 dX4_lookAt_1 (by decide) rfl h (fun c1 h => ?_) (fun c1 h => ?_)
  · skip
    exact a_vret dX4_lookAt_38 rfl (p_S (p_2 h))
  · skip
    refine a_iload_n 1 dX4_lookAt_4 rfl ?_
    refine a_aload_n 0 dX4_lookAt_5 rfl ?_
    refine a_getR (j := 2) dX4_lookAt_6 KX4 rfl (by decide) rfl kf_RX4_9 ?_
    refine a_alen dX4_lookAt_9 rfl ?_
    refine a_icmp_ge 38 dX4_lookAt_10 (by decide) rfl (by decide) h (fun c2 h => ?_) (fun c2 h => ?_)
    · skip
      exact a_vret dX4_lookAt_38 rfl (p_S (p_2 h))
    · skip
      refine a_aload_n 0 dX4_lookAt_13 rfl ?_
      refine a_iload_n 1 dX4_lookAt_14 rfl ?_
      refine a_putI (j := 6) dX4_lookAt_15 KX4 rfl (by decide) rfl rfl rfl kf_RX4_25 ?_
      refine a_aload_n 0 dX4_lookAt_18 rfl ?_
      refine a_aload_n 0 dX4_lookAt_19 rfl ?_
      refine a_getR (j := 2) dX4_lookAt_20 KX4 rfl (by decide) rfl kf_RX4_9 ?_
      refine a_iload_n 1 dX4_lookAt_23 rfl ?_
      refine a_gd h (fun c3 h => ?_)
      refine a_iald (x' := wi a1) dX4_lookAt_24 rfl rfl c3 rfl ?_
      refine a_putI (j := 7) dX4_lookAt_25 KX4 rfl (by decide) rfl rfl rfl kf_RX4_28 ?_
      refine a_aload_n 0 dX4_lookAt_28 rfl ?_
      refine a_aload_n 0 dX4_lookAt_29 rfl ?_
      refine a_getR (j := 3) dX4_lookAt_30 KX4 rfl (by decide) rfl kf_RX4_15 ?_
      refine a_iload_n 1 dX4_lookAt_33 rfl ?_
      refine a_gd h (fun c4 h => ?_)
      refine a_iald (x' := wi a1) dX4_lookAt_34 rfl rfl c4 rfl ?_
      refine a_putI (j := 8) dX4_lookAt_35 KX4 rfl (by decide) rfl rfl rfl kf_RX4_31 ?_
      refine a_nmS h (fun σ5 w6 h => ?_)
      exact a_vret dX4_lookAt_38 rfl (p_S (p_2 h))

def X4_isNumber (σ : sM) (a1 a2 : Int) : Option Int := if ¬ wi (σ 22 7) = 1 then some 0 else if wi (σ 22 8) < wi a1 then some 0 else if wi a2 < wi (σ 22 8) then some 0 else some 1
set_option maxRecDepth 100000 in
set_option maxHeartbeats 400000 in
theorem T_X4_isNumber {G : sG} {q_0 : qT} {x_0 : List Nat} {σ : sM} {r_0 : Int} {a1 a2 : Int}  (h : X4_isNumber σ a1 a2 = some r_0) : aM G yX4_isNumber cX4_isNumber 3 (some .boolean) 0 0 0 [.ref (gP G 22), vI a1, vI a2] (mkSh q_0 x_0, σ) (r_0, (mkSh q_0 x_0, σ)) := by
  unfold X4_isNumber at h
  refine aM_of (by decide) (Nat.le_of_ble_eq_true rfl) ?_
  show aW G cX4_isNumber RX4 "isNumber" 3 (some .boolean) _ _ aX 0 0 _ [(0, .ref (gP G 22)), (1, vI a1), (2, vI a2)] 0 []
  refine a_aload_n 0 dX4_isNumber_0 rfl ?_
  refine a_getI (j := 7) dX4_isNumber_1 KX4 rfl (by decide) rfl kf_RX4_28 ?_
  refine a_iconst dX4_isNumber_4 ?_
  refine a_icmp_ne 28 dX4_isNumber_5 (by decide) rfl (by decide) h (fun c1 h => ?_) (fun c1 h => ?_)
  · skip
    refine a_iconst dX4_isNumber_28 ?_
    exact a_zret dX4_isNumber_29 rfl (by decide) (s_inj h) rfl
  · skip
    refine a_aload_n 0 dX4_isNumber_8 rfl ?_
    refine a_getI (j := 8) dX4_isNumber_9 KX4 rfl (by decide) rfl kf_RX4_31 ?_
    refine a_iload_n 1 dX4_isNumber_12 rfl ?_
    refine a_icmp_lt 28 dX4_isNumber_13 (by decide) rfl rfl h (fun c2 h => ?_) (fun c2 h => ?_)
    · skip
      refine a_iconst dX4_isNumber_28 ?_
      exact a_zret dX4_isNumber_29 rfl (by decide) (s_inj h) rfl
    · skip
      refine a_aload_n 0 dX4_isNumber_16 rfl ?_
      refine a_getI (j := 8) dX4_isNumber_17 KX4 rfl (by decide) rfl kf_RX4_31 ?_
      refine a_iload_n 2 dX4_isNumber_20 rfl ?_
      refine a_icmp_gt 28 dX4_isNumber_21 (by decide) rfl rfl h (fun c3 h => ?_) (fun c3 h => ?_)
      · skip
        refine a_iconst dX4_isNumber_28 ?_
        exact a_zret dX4_isNumber_29 rfl (by decide) (s_inj h) rfl
      · skip
        refine a_iconst dX4_isNumber_24 ?_
        refine a_goto 29 dX4_isNumber_25 (by decide) ?_
        exact a_zret dX4_isNumber_29 rfl (by decide) (s_inj h) rfl

def X4_take (σ : sM) (a1 : Int) : Option (Int × sM) := if wi (σ 22 7) = wi a1 then bn (X4_lookAt σ ((σ 22 6) + 1)) (fun r2 σ4 => some (1, σ4)) else some (0, σ)
set_option maxRecDepth 100000 in
set_option maxHeartbeats 400000 in
theorem T_X4_take {G : sG} {q_0 : qT} {x_0 : List Nat} {σ s_0 : sM} {r_0 : Int} {a1 : Int}  (h : X4_take σ a1 = some (r_0, s_0)) : aM G yX4_take cX4_take 2 (some .boolean) 1 0 0 [.ref (gP G 22), vI a1] (mkSh q_0 x_0, σ) (r_0, (mkSh q_0 x_0, s_0)) := by
  unfold X4_take at h
  refine aM_of (by decide) (Nat.le_of_ble_eq_true rfl) ?_
  show aW G cX4_take RX4 "take" 2 (some .boolean) _ _ aX 0 0 _ [(0, .ref (gP G 22)), (1, vI a1)] 0 []
  refine a_aload_n 0 dX4_take_0 rfl ?_
  refine a_getI (j := 7) dX4_take_1 KX4 rfl (by decide) rfl kf_RX4_28 ?_
  refine a_iload_n 1 dX4_take_4 rfl ?_
  refine a_icmp_eq 10 dX4_take_5 (by decide) rfl rfl h (fun c1 h => ?_) (fun c1 h => ?_)
  · skip
    refine a_aload_n 0 dX4_take_10 rfl ?_
    refine a_aload_n 0 dX4_take_11 rfl ?_
    refine a_getI (j := 6) dX4_take_12 KX4 rfl (by decide) rfl kf_RX4_25 ?_
    refine a_iconst dX4_take_15 ?_
    refine a_iadd dX4_take_16 ?_
    refine bn_s h (fun r2 σ4 e3 h => ?_)
    refine a_callVV dX4_take_17 mX4_lookAt KX4 rfl kv_X4_lookAt ks_X4_lookAt rfl km_RX4_59 rfl (T_X4_lookAt e3) (fun _ => rfl) rfl (Nat.le_of_ble_eq_true rfl) (Nat.le_of_ble_eq_true rfl) ⟨(Nat.le_of_ble_eq_true rfl), (Nat.le_of_ble_eq_true rfl)⟩ (Nat.le_of_ble_eq_true rfl) ?_
    refine a_iconst dX4_take_20 ?_
    exact a_zret dX4_take_21 rfl (by decide) (p_1 h) (p_S (p_2 h))
  · skip
    refine a_iconst dX4_take_8 ?_
    exact a_zret dX4_take_9 rfl (by decide) (p_1 h) (p_S (p_2 h))

def X4_isBetween (σ : sM) (a1 a2 a3 : Int) : Option Int := if wi a1 < 0 then some 0 else if 400 ≤ wi a1 then some 0 else if 0 ≤ wi a1 ∧ wi a1 < 400 then if wi (σ 1 (wi a1).toNat) < wi a2 then some 0 else if 0 ≤ wi a1 ∧ wi a1 < 400 then if wi a3 < wi (σ 1 (wi a1).toNat) then some 0 else some 1 else none else none
set_option maxRecDepth 100000 in
set_option maxHeartbeats 400000 in
theorem T_X4_isBetween {G : sG} {q_0 : qT} {x_0 : List Nat} {σ : sM} {r_0 : Int} {a1 a2 a3 : Int}  (h : X4_isBetween σ a1 a2 a3 = some r_0) : aM G yX4_isBetween cX4_isBetween 4 (some .boolean) 0 0 0 [.ref (gP G 22), vI a1, vI a2, vI a3] (mkSh q_0 x_0, σ) (r_0, (mkSh q_0 x_0, σ)) := by
  unfold X4_isBetween at h
  refine aM_of (by decide) (Nat.le_of_ble_eq_true rfl) ?_
  show aW G cX4_isBetween RX4 "isBetween" 4 (some .boolean) _ _ aX 0 0 _ [(0, .ref (gP G 22)), (1, vI a1), (2, vI a2), (3, vI a3)] 0 []
  refine a_iload_n 1 dX4_isBetween_0 rfl ?_
  refine a_if_lt 37 dX4_isBetween_1 (by decide) rfl h (fun c1 h => ?_) (fun c1 h => ?_)
  · skip
    refine a_iconst dX4_isBetween_37 ?_
    exact a_zret dX4_isBetween_38 rfl (by decide) (s_inj h) rfl
  · skip
    refine a_iload_n 1 dX4_isBetween_4 rfl ?_
    refine a_aload_n 0 dX4_isBetween_5 rfl ?_
    refine a_getR (j := 0) dX4_isBetween_6 KX4 rfl (by decide) rfl kf_RX4_34 ?_
    refine a_alenB dX4_isBetween_9 rfl ?_
    refine a_icmp_ge 37 dX4_isBetween_10 (by decide) rfl (by decide) h (fun c2 h => ?_) (fun c2 h => ?_)
    · skip
      refine a_iconst dX4_isBetween_37 ?_
      exact a_zret dX4_isBetween_38 rfl (by decide) (s_inj h) rfl
    · skip
      refine a_aload_n 0 dX4_isBetween_13 rfl ?_
      refine a_getR (j := 0) dX4_isBetween_14 KX4 rfl (by decide) rfl kf_RX4_34 ?_
      refine a_iload_n 1 dX4_isBetween_17 rfl ?_
      refine a_gd h (fun c3 h => ?_)
      refine a_bald (x' := wi a1) dX4_isBetween_18 rfl rfl c3 rfl ?_
      refine a_iload_n 2 dX4_isBetween_19 rfl ?_
      refine a_icmp_lt 37 dX4_isBetween_20 (by decide) rfl rfl h (fun c4 h => ?_) (fun c4 h => ?_)
      · skip
        refine a_iconst dX4_isBetween_37 ?_
        exact a_zret dX4_isBetween_38 rfl (by decide) (s_inj h) rfl
      · skip
        refine a_aload_n 0 dX4_isBetween_23 rfl ?_
        refine a_getR (j := 0) dX4_isBetween_24 KX4 rfl (by decide) rfl kf_RX4_34 ?_
        refine a_iload_n 1 dX4_isBetween_27 rfl ?_
        refine a_gd h (fun c5 h => ?_)
        refine a_bald (x' := wi a1) dX4_isBetween_28 rfl rfl c5 rfl ?_
        refine a_iload_n 3 dX4_isBetween_29 rfl ?_
        refine a_icmp_gt 37 dX4_isBetween_30 (by decide) rfl rfl h (fun c6 h => ?_) (fun c6 h => ?_)
        · skip
          refine a_iconst dX4_isBetween_37 ?_
          exact a_zret dX4_isBetween_38 rfl (by decide) (s_inj h) rfl
        · skip
          refine a_iconst dX4_isBetween_33 ?_
          refine a_goto 38 dX4_isBetween_34 (by decide) ?_
          exact a_zret dX4_isBetween_38 rfl (by decide) (s_inj h) rfl

