def X9_bringsBy (F : Nat) (σ : sM) (a1 a2 a3 : Int) : Option Int := bp (X9_hadBy σ a1 a2 a3) (fun r1 => bp (X9_behind σ a1 a2) (fun r3 => bp (X9_meanOf F σ r3 a3 1) (fun r5 => some ((1000 * r1) + r5))))
set_option maxRecDepth 100000 in
set_option maxHeartbeats 400000 in
theorem T_X9_bringsBy {G : sG} {q_0 : qT} {x_0 : List Nat} {σ : sM} {r_0 : Int} {a1 a2 a3 : Int} {F : Nat}  (h : X9_bringsBy F σ a1 a2 a3 = some r_0) : aM G yX9_bringsBy cX9_bringsBy 4 (some .int) 4 0 0 [.ref (gP G 55), vI a1, vI a2, vI a3] (mkSh q_0 x_0, σ) (r_0, (mkSh q_0 x_0, σ)) := by
  unfold X9_bringsBy at h
  refine aM_of (by decide) (Nat.le_of_ble_eq_true rfl) ?_
  show aW G cX9_bringsBy RX9 "bringsBy" 4 (some .int) _ _ aX 0 0 _ [(0, .ref (gP G 55)), (1, vI a1), (2, vI a2), (3, vI a3)] 0 []
  refine a_sipush dX9_bringsBy_0 (by decide) ?_
  refine a_aload_n 0 dX9_bringsBy_3 rfl ?_
  refine a_iload_n 1 dX9_bringsBy_4 rfl ?_
  refine a_iload_n 2 dX9_bringsBy_5 rfl ?_
  refine a_iload_n 3 dX9_bringsBy_6 rfl ?_
  refine bp_s h (fun r1 e2 h => ?_)
  refine a_callVI dX9_bringsBy_7 mX9_hadBy KX9 rfl kv_X9_hadBy ks_X9_hadBy rfl km_RX9_205 rfl (T_X9_hadBy e2) (fun _ => rfl) rfl (Nat.le_of_ble_eq_true rfl) (Nat.le_of_ble_eq_true rfl) ⟨(Nat.le_of_ble_eq_true rfl), (Nat.le_of_ble_eq_true rfl)⟩ (Nat.le_of_ble_eq_true rfl) ?_
  refine a_imul dX9_bringsBy_10 ?_
  refine a_aload_n 0 dX9_bringsBy_11 rfl ?_
  refine a_aload_n 0 dX9_bringsBy_12 rfl ?_
  refine a_iload_n 1 dX9_bringsBy_13 rfl ?_
  refine a_iload_n 2 dX9_bringsBy_14 rfl ?_
  refine bp_s h (fun r3 e4 h => ?_)
  refine a_callVI dX9_bringsBy_15 mX9_behind KX9 rfl kv_X9_behind ks_X9_behind rfl km_RX9_208 rfl (T_X9_behind e4) (fun _ => rfl) rfl (Nat.le_of_ble_eq_true rfl) (Nat.le_of_ble_eq_true rfl) ⟨(Nat.le_of_ble_eq_true rfl), (Nat.le_of_ble_eq_true rfl)⟩ (Nat.le_of_ble_eq_true rfl) ?_
  refine a_iload_n 3 dX9_bringsBy_18 rfl ?_
  refine a_iconst dX9_bringsBy_19 ?_
  refine bp_s h (fun r5 e6 h => ?_)
  refine a_callVI dX9_bringsBy_20 mX9_meanOf KX9 rfl kv_X9_meanOf ks_X9_meanOf rfl km_RX9_211 rfl (T_X9_meanOf e6) (fun _ => rfl) rfl (Nat.le_of_ble_eq_true rfl) (Nat.le_of_ble_eq_true rfl) ⟨(Nat.le_of_ble_eq_true rfl), (Nat.le_of_ble_eq_true rfl)⟩ (Nat.le_of_ble_eq_true rfl) ?_
  refine a_iadd dX9_bringsBy_23 ?_
  exact a_iret dX9_bringsBy_24 rfl (s_inj h) rfl

def X9_choose (F : Nat) (σ : sM) (a1 a2 a3 : Int) : Option Int := if ¬ wi a1 = 4 then lp (fun K3 (q2 : Int × Int) => if wi (σ 58 0) ≤ wi q2.2 then some q2.1 else bp (X9_mayEat F σ a2 q2.2) (fun r5 => jn (fun q7 : Int => K3 (q7, q2.2 + 1)) (fun K8 => if wi r5 = 0 then K8 q2.1 else bp (X9_codeOf σ a2 q2.2) (fun r10 => jn (fun q12 : Int => jn (fun q14 : Int => jn (fun q16 : Int => K8 q16) (fun K17 => jn (fun q18 : Unit => K17 q2.2) (fun K19 => if wi q2.1 = 6 then K19 () else if wi q14 = 0 then K17 q2.1 else K19 ()))) (fun K15 => if ¬ wi a1 = 1 then if ¬ wi a1 = 2 then jn (fun q24 : Unit => K15 0) (fun K25 => if ¬ wi a1 = 3 then K25 () else bp (X9_goodOf σ q2.2 (q_shr r10 2)) (fun r27 => bp (X9_goodOf σ (q_rem q2.1 3) q12) (fun r29 => if wi r27 ≤ wi r29 then K25 () else K15 1))) else bp (X9_goodOf σ q2.2 (q_shr r10 2)) (fun r32 => bp (X9_goodOf σ (q_rem q2.1 3) q12) (fun r34 => if wi r34 ≤ wi r32 then K15 0 else K15 1)) else if wi (q_shr r10 2) ≤ wi q12 then K15 0 else K15 1)) (fun K13 => if ¬ wi q2.1 = 6 then bp (X9_codeOf σ a2 q2.1) (fun r39 => K13 (q_shr r39 2)) else K13 0))))) F (6, 0) else lp (fun K42 (q41 : Int × Int × Int) => if 6 < wi q41.2.2 then some q41.1 else bp (X9_mayDo F σ a2 q41.2.2) (fun r44 => jn (fun q46 : Int => jn (fun q48 : Int => jn (fun q50 : Int => K42 (q48, q50, q41.2.2 + 1)) (fun K51 => if wi q46 ≤ wi q41.2.1 then K51 q41.2.1 else K51 q46)) (fun K49 => if wi q46 ≤ wi q41.2.1 then K49 q41.1 else K49 q41.2.2)) (fun K47 => if wi r44 = 0 then K47 (-1) else bp (X9_bringsBy F σ a2 q41.2.2 a3) (fun r55 => K47 r55)))) F (6, (-1), 0)
set_option maxRecDepth 100000 in
set_option maxHeartbeats 400000 in
theorem T_X9_choose {G : sG} {q_0 : qT} {x_0 : List Nat} {σ : sM} {r_0 : Int} {a1 a2 a3 : Int} {F : Nat}  (h : X9_choose F σ a1 a2 a3 = some r_0) : aM G yX9_choose cX9_choose 9 (some .int) 5 0 0 [.ref (gP G 55), vI a1, vI a2, vI a3] (mkSh q_0 x_0, σ) (r_0, (mkSh q_0 x_0, σ)) := by
  unfold X9_choose at h
  refine aM_of (by decide) (Nat.le_of_ble_eq_true rfl) ?_
  show aW G cX9_choose RX9 "choose" 9 (some .int) _ _ aX 0 0 _ [(0, .ref (gP G 55)), (1, vI a1), (2, vI a2), (3, vI a3)] 0 []
  refine a_bipush dX9_choose_0 (by decide) ?_
  refine a_istore (L' := [(4, vI 6), (0, .ref (gP G 55)), (1, vI a1), (2, vI a2), (3, vI a3)]) dX9_choose_2 (by decide) rfl ?_
  refine a_iload_n 2 dX9_choose_4 rfl ?_
  refine a_iconst dX9_choose_5 ?_
  refine a_icmp_ne 87 dX9_choose_6 (by decide) rfl (by decide) h (fun c1 h => ?_) (fun c1 h => ?_)
  · skip
    refine a_iconst dX9_choose_87 ?_
    refine a_istore (L' := [(5, vI 0), (4, vI 6), (0, .ref (gP G 55)), (1, vI a1), (2, vI a2), (3, vI a3)]) dX9_choose_88 (by decide) rfl ?_
    refine a_sub (L' := [(0, .ref (gP G 55)), (1, vI a1), (2, vI a2), (4, vI 6), (5, vI 0)]) [2, 3, 4, 1, 0] rfl (lp_s (x := (6, 0)) (fun q2 : Int × Int => aW G cX9_choose RX9 "choose" 9 (some .int) (sR 5 0 0) (aQ G (some .int) 0 0 (r_0, (mkSh q_0 x_0, σ))) aX 0 0 (mkSh q_0 x_0, σ) [(0, .ref (gP G 55)), (1, vI a1), (2, vI a2), (4, vI q2.1), (5, vI q2.2)] 90 []) h (fun K3 hK3 q2 h => ?_))
    refine a_iload 4 dX9_choose_90 rfl ?_
    refine a_aload_n 0 dX9_choose_92 rfl ?_
    refine a_getR (j := 4) dX9_choose_93 KX9 rfl (by decide) rfl kf_RX9_17 ?_
    refine a_iconst dX9_choose_96 ?_
    refine a_iald (x' := 0) dX9_choose_97 rfl (by decide) (by decide) rfl ?_
    refine a_icmp_ge 256 dX9_choose_98 (by decide) rfl rfl h (fun c4 h => ?_) (fun c4 h => ?_)
    · skip
      refine a_iload 3 dX9_choose_256 rfl ?_
      exact a_iret dX9_choose_258 rfl (s_inj h) rfl
    · skip
      refine a_aload_n 0 dX9_choose_101 rfl ?_
      refine a_iload_n 2 dX9_choose_102 rfl ?_
      refine a_iload 4 dX9_choose_103 rfl ?_
      refine bp_s h (fun r5 e6 h => ?_)
      refine a_callVI dX9_choose_105 mX9_mayEat KX9 rfl kv_X9_mayEat ks_X9_mayEat rfl km_RX9_182 rfl (T_X9_mayEat e6) (fun _ => rfl) rfl (Nat.le_of_ble_eq_true rfl) (Nat.le_of_ble_eq_true rfl) ⟨(Nat.le_of_ble_eq_true rfl), (Nat.le_of_ble_eq_true rfl)⟩ (Nat.le_of_ble_eq_true rfl) ?_
      refine jn_s (fun q7 : Int => aW G cX9_choose RX9 "choose" 9 (some .int) (sR 5 0 0) (aQ G (some .int) 0 0 (r_0, (mkSh q_0 x_0, σ))) aX 0 0 (mkSh q_0 x_0, σ) [(0, .ref (gP G 55)), (1, vI a1), (2, vI a2), (4, vI q7), (5, vI q2.2)] 250 []) h (fun q7 h => ?_) (fun K8 hK8 h => ?_)
      · skip
        refine a_iinc (L' := [(5, vI (q2.2 + 1)), (0, .ref (gP G 55)), (1, vI a1), (2, vI a2), (4, vI q7)]) 4 dX9_choose_250 rfl (by decide) rfl ?_
        refine a_goto 90 dX9_choose_253 (by decide) ?_
        have hh := hK3 _ h
        exact a_sub [1, 2, 3, 4, 0] rfl hh
      · skip
        refine a_if_eq 250 dX9_choose_108 (by decide) rfl h (fun c9 h => ?_) (fun c9 h => ?_)
        · skip
          have hh := hK8 _ h
          exact a_sub [0, 1, 2, 3, 4] rfl hh
        · skip
          refine a_iload_n 2 dX9_choose_111 rfl ?_
          refine a_iload 4 dX9_choose_112 rfl ?_
          refine bp_s h (fun r10 e11 h => ?_)
          refine a_callSI dX9_choose_114 mX9_codeOf kv_X9_codeOf km_RX9_175 rfl (T_X9_codeOf e11) (fun _ => rfl) rfl (Nat.le_of_ble_eq_true rfl) (Nat.le_of_ble_eq_true rfl) ⟨(Nat.le_of_ble_eq_true rfl), (Nat.le_of_ble_eq_true rfl)⟩ (Nat.le_of_ble_eq_true rfl) ?_
          refine a_iconst dX9_choose_117 ?_
          refine a_ishr dX9_choose_118 ?_
          refine a_istore (L' := [(6, vI (q_shr r10 2)), (0, .ref (gP G 55)), (1, vI a1), (2, vI a2), (4, vI q2.1), (5, vI q2.2)]) dX9_choose_119 (by decide) rfl ?_
          refine a_iload 4 dX9_choose_121 rfl ?_
          refine a_bipush dX9_choose_123 (by decide) ?_
          refine jn_s (fun q12 : Int => aW G cX9_choose RX9 "choose" 9 (some .int) (sR 5 0 0) (aQ G (some .int) 0 0 (r_0, (mkSh q_0 x_0, σ))) aX 0 0 (mkSh q_0 x_0, σ) [(0, .ref (gP G 55)), (1, vI a1), (2, vI a2), (4, vI q2.1), (5, vI q2.2), (6, vI (q_shr r10 2))] 140 [vI q12]) h (fun q12 h => ?_) (fun K13 hK13 h => ?_)
          · skip
            refine a_istore (L' := [(7, vI q12), (0, .ref (gP G 55)), (1, vI a1), (2, vI a2), (4, vI q2.1), (5, vI q2.2), (6, vI (q_shr r10 2))]) dX9_choose_140 (by decide) rfl ?_
            refine a_iload_n 2 dX9_choose_142 rfl ?_
            refine a_iconst dX9_choose_143 ?_
            refine jn_s (fun q14 : Int => aW G cX9_choose RX9 "choose" 9 (some .int) (sR 5 0 0) (aQ G (some .int) 0 0 (r_0, (mkSh q_0 x_0, σ))) aX 0 0 (mkSh q_0 x_0, σ) [(0, .ref (gP G 55)), (1, vI a1), (2, vI a2), (4, vI q2.1), (5, vI q2.2)] 227 [vI q14]) h (fun q14 h => ?_) (fun K15 hK15 h => ?_)
            · skip
              refine a_istore (L' := [(8, vI q14), (0, .ref (gP G 55)), (1, vI a1), (2, vI a2), (4, vI q2.1), (5, vI q2.2)]) dX9_choose_227 (by decide) rfl ?_
              refine a_iload 4 dX9_choose_229 rfl ?_
              refine a_bipush dX9_choose_231 (by decide) ?_
              refine jn_s (fun q16 : Int => aW G cX9_choose RX9 "choose" 9 (some .int) (sR 5 0 0) (aQ G (some .int) 0 0 (r_0, (mkSh q_0 x_0, σ))) aX 0 0 (mkSh q_0 x_0, σ) [(0, .ref (gP G 55)), (1, vI a1), (2, vI a2), (5, vI q2.2)] 248 [vI q16]) h (fun q16 h => ?_) (fun K17 hK17 h => ?_)
              · skip
                refine a_istore (L' := [(4, vI q16), (0, .ref (gP G 55)), (1, vI a1), (2, vI a2), (5, vI q2.2)]) dX9_choose_248 (by decide) rfl ?_
                have hh := hK8 _ h
                exact a_sub [1, 2, 3, 0, 4] rfl hh
              · skip
                refine jn_s (fun q18 : Unit => aW G cX9_choose RX9 "choose" 9 (some .int) (sR 5 0 0) (aQ G (some .int) 0 0 (r_0, (mkSh q_0 x_0, σ))) aX 0 0 (mkSh q_0 x_0, σ) [(0, .ref (gP G 55)), (1, vI a1), (2, vI a2), (5, vI q2.2)] 241 []) h (fun q18 h => ?_) (fun K19 hK19 h => ?_)
                · skip
                  refine a_iload 3 dX9_choose_241 rfl ?_
                  refine a_goto 248 dX9_choose_243 (by decide) ?_
                  have hh := hK17 _ h
                  exact a_sub [0, 1, 2, 3] rfl hh
                · skip
                  refine a_icmp_eq 241 dX9_choose_233 (by decide) rfl (by decide) h (fun c20 h => ?_) (fun c20 h => ?_)
                  · skip
                    have hh := hK19 _ h
                    exact a_sub [1, 2, 3, 5] rfl hh
                  · skip
                    refine a_iload 0 dX9_choose_236 rfl ?_
                    refine a_if_eq 246 dX9_choose_238 (by decide) rfl h (fun c21 h => ?_) (fun c21 h => ?_)
                    · skip
                      refine a_iload 4 dX9_choose_246 rfl ?_
                      have hh := hK17 _ h
                      exact a_sub [1, 2, 3, 5] rfl hh
                    · skip
                      have hh := hK19 _ h
                      exact a_sub [1, 2, 3, 5] rfl hh
            · skip
              refine a_icmp_ne 162 dX9_choose_144 (by decide) rfl (by decide) h (fun c22 h => ?_) (fun c22 h => ?_)
              · skip
                refine a_iload_n 2 dX9_choose_162 rfl ?_
                refine a_iconst dX9_choose_163 ?_
                refine a_icmp_ne 196 dX9_choose_164 (by decide) rfl (by decide) h (fun c23 h => ?_) (fun c23 h => ?_)
                · skip
                  refine a_iload_n 2 dX9_choose_196 rfl ?_
                  refine a_iconst dX9_choose_197 ?_
                  refine jn_s (fun q24 : Unit => aW G cX9_choose RX9 "choose" 9 (some .int) (sR 5 0 0) (aQ G (some .int) 0 0 (r_0, (mkSh q_0 x_0, σ))) aX 0 0 (mkSh q_0 x_0, σ) [(0, .ref (gP G 55)), (1, vI a1), (2, vI a2), (4, vI q2.1), (5, vI q2.2)] 226 []) h (fun q24 h => ?_) (fun K25 hK25 h => ?_)
                  · skip
                    refine a_iconst dX9_choose_226 ?_
                    have hh := hK15 _ h
                    exact a_sub [0, 1, 2, 3, 4] rfl hh
                  · skip
                    refine a_icmp_ne 226 dX9_choose_198 (by decide) rfl (by decide) h (fun c26 h => ?_) (fun c26 h => ?_)
                    · skip
                      have hh := hK25 _ h
                      exact a_sub [1, 2, 3, 4, 5] rfl hh
                    · skip
                      refine a_aload_n 1 dX9_choose_201 rfl ?_
                      refine a_iload 5 dX9_choose_202 rfl ?_
                      refine a_iload 6 dX9_choose_204 rfl ?_
                      refine bp_s h (fun r27 e28 h => ?_)
                      refine a_callVI dX9_choose_206 mX9_goodOf KX9 rfl kv_X9_goodOf ks_X9_goodOf rfl km_RX9_168 rfl (T_X9_goodOf e28) (fun _ => rfl) rfl (Nat.le_of_ble_eq_true rfl) (Nat.le_of_ble_eq_true rfl) ⟨(Nat.le_of_ble_eq_true rfl), (Nat.le_of_ble_eq_true rfl)⟩ (Nat.le_of_ble_eq_true rfl) ?_
                      refine a_aload_n 1 dX9_choose_209 rfl ?_
                      refine a_iload 4 dX9_choose_210 rfl ?_
                      refine a_iconst dX9_choose_212 ?_
                      refine a_irem dX9_choose_213 (by decide) ?_
                      refine a_iload 0 dX9_choose_214 rfl ?_
                      refine bp_s h (fun r29 e30 h => ?_)
                      refine a_callVI dX9_choose_216 mX9_goodOf KX9 rfl kv_X9_goodOf ks_X9_goodOf rfl km_RX9_168 rfl (T_X9_goodOf e30) (fun _ => rfl) rfl (Nat.le_of_ble_eq_true rfl) (Nat.le_of_ble_eq_true rfl) ⟨(Nat.le_of_ble_eq_true rfl), (Nat.le_of_ble_eq_true rfl)⟩ (Nat.le_of_ble_eq_true rfl) ?_
                      refine a_icmp_le 226 dX9_choose_219 (by decide) rfl rfl h (fun c31 h => ?_) (fun c31 h => ?_)
                      · skip
                        have hh := hK25 _ h
                        exact a_sub [1, 2, 3, 4, 5] rfl hh
                      · skip
                        refine a_iconst dX9_choose_222 ?_
                        refine a_goto 227 dX9_choose_223 (by decide) ?_
                        have hh := hK15 _ h
                        exact a_sub [1, 2, 3, 4, 5] rfl hh
                · skip
                  refine a_aload_n 1 dX9_choose_167 rfl ?_
                  refine a_iload 5 dX9_choose_168 rfl ?_
                  refine a_iload 6 dX9_choose_170 rfl ?_
                  refine bp_s h (fun r32 e33 h => ?_)
                  refine a_callVI dX9_choose_172 mX9_goodOf KX9 rfl kv_X9_goodOf ks_X9_goodOf rfl km_RX9_168 rfl (T_X9_goodOf e33) (fun _ => rfl) rfl (Nat.le_of_ble_eq_true rfl) (Nat.le_of_ble_eq_true rfl) ⟨(Nat.le_of_ble_eq_true rfl), (Nat.le_of_ble_eq_true rfl)⟩ (Nat.le_of_ble_eq_true rfl) ?_
                  refine a_aload_n 1 dX9_choose_175 rfl ?_
                  refine a_iload 4 dX9_choose_176 rfl ?_
                  refine a_iconst dX9_choose_178 ?_
                  refine a_irem dX9_choose_179 (by decide) ?_
                  refine a_iload 0 dX9_choose_180 rfl ?_
                  refine bp_s h (fun r34 e35 h => ?_)
                  refine a_callVI dX9_choose_182 mX9_goodOf KX9 rfl kv_X9_goodOf ks_X9_goodOf rfl km_RX9_168 rfl (T_X9_goodOf e35) (fun _ => rfl) rfl (Nat.le_of_ble_eq_true rfl) (Nat.le_of_ble_eq_true rfl) ⟨(Nat.le_of_ble_eq_true rfl), (Nat.le_of_ble_eq_true rfl)⟩ (Nat.le_of_ble_eq_true rfl) ?_
                  refine a_icmp_ge 192 dX9_choose_185 (by decide) rfl rfl h (fun c36 h => ?_) (fun c36 h => ?_)
                  · skip
                    refine a_iconst dX9_choose_192 ?_
                    refine a_goto 227 dX9_choose_193 (by decide) ?_
                    have hh := hK15 _ h
                    exact a_sub [1, 2, 3, 4, 5] rfl hh
                  · skip
                    refine a_iconst dX9_choose_188 ?_
                    refine a_goto 227 dX9_choose_189 (by decide) ?_
                    have hh := hK15 _ h
                    exact a_sub [1, 2, 3, 4, 5] rfl hh
              · skip
                refine a_iload 6 dX9_choose_147 rfl ?_
                refine a_iload 0 dX9_choose_149 rfl ?_
                refine a_icmp_le 158 dX9_choose_151 (by decide) rfl rfl h (fun c37 h => ?_) (fun c37 h => ?_)
                · skip
                  refine a_iconst dX9_choose_158 ?_
                  refine a_goto 227 dX9_choose_159 (by decide) ?_
                  have hh := hK15 _ h
                  exact a_sub [1, 2, 3, 4, 5] rfl hh
                · skip
                  refine a_iconst dX9_choose_154 ?_
                  refine a_goto 227 dX9_choose_155 (by decide) ?_
                  have hh := hK15 _ h
                  exact a_sub [1, 2, 3, 4, 5] rfl hh
          · skip
            refine a_icmp_ne 132 dX9_choose_125 (by decide) rfl (by decide) h (fun c38 h => ?_) (fun c38 h => ?_)
            · skip
              refine a_iload_n 3 dX9_choose_132 rfl ?_
              refine a_iload 4 dX9_choose_133 rfl ?_
              refine bp_s h (fun r39 e40 h => ?_)
              refine a_callSI dX9_choose_135 mX9_codeOf kv_X9_codeOf km_RX9_175 rfl (T_X9_codeOf e40) (fun _ => rfl) rfl (Nat.le_of_ble_eq_true rfl) (Nat.le_of_ble_eq_true rfl) ⟨(Nat.le_of_ble_eq_true rfl), (Nat.le_of_ble_eq_true rfl)⟩ (Nat.le_of_ble_eq_true rfl) ?_
              refine a_iconst dX9_choose_138 ?_
              refine a_ishr dX9_choose_139 ?_
              have hh := hK13 _ h
              exact a_sub [1, 2, 3, 4, 5, 0] rfl hh
            · skip
              refine a_iconst dX9_choose_128 ?_
              refine a_goto 140 dX9_choose_129 (by decide) ?_
              have hh := hK13 _ h
              exact a_sub [1, 2, 3, 4, 5, 0] rfl hh
  · skip
    refine a_iconst dX9_choose_9 ?_
    refine a_istore (L' := [(5, vI (-1)), (4, vI 6), (0, .ref (gP G 55)), (1, vI a1), (2, vI a2), (3, vI a3)]) dX9_choose_10 (by decide) rfl ?_
    refine a_iconst dX9_choose_12 ?_
    refine a_istore (L' := [(6, vI 0), (5, vI (-1)), (4, vI 6), (0, .ref (gP G 55)), (1, vI a1), (2, vI a2), (3, vI a3)]) dX9_choose_13 (by decide) rfl ?_
    refine a_sub (L' := [(0, .ref (gP G 55)), (2, vI a2), (3, vI a3), (4, vI 6), (5, vI (-1)), (6, vI 0)]) [3, 5, 6, 2, 1, 0] rfl (lp_s (x := (6, (-1), 0)) (fun q41 : Int × Int × Int => aW G cX9_choose RX9 "choose" 9 (some .int) (sR 5 0 0) (aQ G (some .int) 0 0 (r_0, (mkSh q_0 x_0, σ))) aX 0 0 (mkSh q_0 x_0, σ) [(0, .ref (gP G 55)), (2, vI a2), (3, vI a3), (4, vI q41.1), (5, vI q41.2.1), (6, vI q41.2.2)] 15 []) h (fun K42 hK42 q41 h => ?_))
    refine a_iload 5 dX9_choose_15 rfl ?_
    refine a_bipush dX9_choose_17 (by decide) ?_
    refine a_icmp_gt 84 dX9_choose_19 (by decide) rfl (by decide) h (fun c43 h => ?_) (fun c43 h => ?_)
    · skip
      refine a_iload 3 dX9_choose_84 rfl ?_
      exact a_iret dX9_choose_86 rfl (s_inj h) rfl
    · skip
      refine a_aload_n 0 dX9_choose_22 rfl ?_
      refine a_iload_n 1 dX9_choose_23 rfl ?_
      refine a_iload 5 dX9_choose_24 rfl ?_
      refine bp_s h (fun r44 e45 h => ?_)
      refine a_callVI dX9_choose_26 mX9_mayDo KX9 rfl kv_X9_mayDo ks_X9_mayDo rfl km_RX9_215 rfl (T_X9_mayDo e45) (fun _ => rfl) rfl (Nat.le_of_ble_eq_true rfl) (Nat.le_of_ble_eq_true rfl) ⟨(Nat.le_of_ble_eq_true rfl), (Nat.le_of_ble_eq_true rfl)⟩ (Nat.le_of_ble_eq_true rfl) ?_
      refine jn_s (fun q46 : Int => aW G cX9_choose RX9 "choose" 9 (some .int) (sR 5 0 0) (aQ G (some .int) 0 0 (r_0, (mkSh q_0 x_0, σ))) aX 0 0 (mkSh q_0 x_0, σ) [(0, .ref (gP G 55)), (2, vI a2), (3, vI a3), (4, vI q41.1), (5, vI q41.2.1), (6, vI q41.2.2)] 44 [vI q46]) h (fun q46 h => ?_) (fun K47 hK47 h => ?_)
      · skip
        refine a_istore (L' := [(7, vI q46), (0, .ref (gP G 55)), (2, vI a2), (3, vI a3), (4, vI q41.1), (5, vI q41.2.1), (6, vI q41.2.2)]) dX9_choose_44 (by decide) rfl ?_
        refine a_iload 0 dX9_choose_46 rfl ?_
        refine a_iload 5 dX9_choose_48 rfl ?_
        refine jn_s (fun q48 : Int => aW G cX9_choose RX9 "choose" 9 (some .int) (sR 5 0 0) (aQ G (some .int) 0 0 (r_0, (mkSh q_0 x_0, σ))) aX 0 0 (mkSh q_0 x_0, σ) [(0, .ref (gP G 55)), (2, vI a2), (3, vI a3), (5, vI q41.2.1), (6, vI q41.2.2), (7, vI q46)] 60 [vI q48]) h (fun q48 h => ?_) (fun K49 hK49 h => ?_)
        · skip
          refine a_istore (L' := [(4, vI q48), (0, .ref (gP G 55)), (2, vI a2), (3, vI a3), (5, vI q41.2.1), (6, vI q41.2.2), (7, vI q46)]) dX9_choose_60 (by decide) rfl ?_
          refine a_iload 6 dX9_choose_62 rfl ?_
          refine a_iload 4 dX9_choose_64 rfl ?_
          refine jn_s (fun q50 : Int => aW G cX9_choose RX9 "choose" 9 (some .int) (sR 5 0 0) (aQ G (some .int) 0 0 (r_0, (mkSh q_0 x_0, σ))) aX 0 0 (mkSh q_0 x_0, σ) [(0, .ref (gP G 55)), (2, vI a2), (3, vI a3), (4, vI q48), (6, vI q41.2.2)] 76 [vI q50]) h (fun q50 h => ?_) (fun K51 hK51 h => ?_)
          · skip
            refine a_istore (L' := [(5, vI q50), (0, .ref (gP G 55)), (2, vI a2), (3, vI a3), (4, vI q48), (6, vI q41.2.2)]) dX9_choose_76 (by decide) rfl ?_
            refine a_iinc (L' := [(6, vI (q41.2.2 + 1)), (5, vI q50), (0, .ref (gP G 55)), (2, vI a2), (3, vI a3), (4, vI q48)]) 5 dX9_choose_78 rfl (by decide) rfl ?_
            refine a_goto 15 dX9_choose_81 (by decide) ?_
            have hh := hK42 _ h
            exact a_sub [2, 3, 4, 5, 1, 0] rfl hh
          · skip
            refine a_icmp_le 74 dX9_choose_66 (by decide) rfl rfl h (fun c52 h => ?_) (fun c52 h => ?_)
            · skip
              refine a_iload 4 dX9_choose_74 rfl ?_
              have hh := hK51 _ h
              exact a_sub [1, 2, 3, 0, 5] rfl hh
            · skip
              refine a_iload 6 dX9_choose_69 rfl ?_
              refine a_goto 76 dX9_choose_71 (by decide) ?_
              have hh := hK51 _ h
              exact a_sub [1, 2, 3, 0, 5] rfl hh
        · skip
          refine a_icmp_le 58 dX9_choose_50 (by decide) rfl rfl h (fun c53 h => ?_) (fun c53 h => ?_)
          · skip
            refine a_iload 4 dX9_choose_58 rfl ?_
            have hh := hK49 _ h
            exact a_sub [1, 2, 3, 5, 6, 0] rfl hh
          · skip
            refine a_iload 6 dX9_choose_53 rfl ?_
            refine a_goto 60 dX9_choose_55 (by decide) ?_
            have hh := hK49 _ h
            exact a_sub [1, 2, 3, 5, 6, 0] rfl hh
      · skip
        refine a_if_eq 43 dX9_choose_29 (by decide) rfl h (fun c54 h => ?_) (fun c54 h => ?_)
        · skip
          refine a_iconst dX9_choose_43 ?_
          have hh := hK47 _ h
          exact a_sub [0, 1, 2, 3, 4, 5] rfl hh
        · skip
          refine a_aload_n 0 dX9_choose_32 rfl ?_
          refine a_iload_n 1 dX9_choose_33 rfl ?_
          refine a_iload 5 dX9_choose_34 rfl ?_
          refine a_iload_n 2 dX9_choose_36 rfl ?_
          refine bp_s h (fun r55 e56 h => ?_)
          refine a_callVI dX9_choose_37 mX9_bringsBy KX9 rfl kv_X9_bringsBy ks_X9_bringsBy rfl km_RX9_218 rfl (T_X9_bringsBy e56) (fun _ => rfl) rfl (Nat.le_of_ble_eq_true rfl) (Nat.le_of_ble_eq_true rfl) ⟨(Nat.le_of_ble_eq_true rfl), (Nat.le_of_ble_eq_true rfl)⟩ (Nat.le_of_ble_eq_true rfl) ?_
          refine a_goto 44 dX9_choose_40 (by decide) ?_
          have hh := hK47 _ h
          exact a_sub [0, 1, 2, 3, 4, 5] rfl hh

def X9_work (F : Nat) (σ : sM) (a1 a2 : Int) : Option (Int × sM) := lp (fun K2 (q1 : sM × Int) => if 4096 ≤ wi q1.2 then lp (fun K5 (q4 : sM × Int) => if wi q4.2 < wi a2 then some (0, q4.1) else lp (fun K8 (q7 : sM × Int) => if wi (q_shl 1 (4 * (q7.1 58 0))) ≤ wi q7.2 then lp (fun K11 (q10 : sM × Int) => if wi (q_shl 1 (4 * (q10.1 58 0))) ≤ wi q10.2 then K5 (q10.1, q4.2 + (-1)) else if 0 ≤ wi q10.2 ∧ wi q10.2 < 4096 then if 0 ≤ wi q10.2 ∧ wi q10.2 < 4096 then if 0 ≤ wi q10.2 ∧ wi q10.2 < 4096 then if 0 ≤ wi q10.2 ∧ wi q10.2 < 4096 then nm (sU (sU q10.1 75 (wi q10.2).toNat (q10.1 77 (wi q10.2).toNat)) 76 (wi q10.2).toNat ((sU q10.1 75 (wi q10.2).toNat (q10.1 77 (wi q10.2).toNat)) 78 (wi q10.2).toNat)) (fun σ17 => K11 (σ17, q10.2 + 1)) else none else none else none else none) F (q7.1, 0) else bp (X9_isState F q7.1 q7.2) (fun r19 => jn (fun q21 : sM => K8 (q21, q7.2 + 1)) (fun K22 => if wi r19 = 0 then K22 q7.1 else bp (X9_choose F q7.1 a1 q7.2 q4.2) (fun r24 => bp (X9_bringsBy F q7.1 q7.2 r24 q4.2) (fun r26 => if 0 ≤ wi q7.2 ∧ wi q7.2 < 4096 then bp (X9_behind (sU q7.1 77 (wi q7.2).toNat r26) q7.2 r24) (fun r29 => bp (X9_meanOf F (sU q7.1 77 (wi q7.2).toNat r26) r29 q4.2 0) (fun r31 => if 0 ≤ wi q7.2 ∧ wi q7.2 < 4096 then K22 (sU (sU q7.1 77 (wi q7.2).toNat r26) 78 (wi q7.2).toNat r31) else none)) else none))))) F (q4.1, 0)) F (q1.1, (q1.1 59 0) - 1) else if 0 ≤ wi q1.2 ∧ wi q1.2 < 4096 then if 0 ≤ wi q1.2 ∧ wi q1.2 < 4096 then lp (fun K37 (q36 : sM × Int) => if wi (q36.1 58 0) ≤ wi q36.2 then K2 (q36.1, q1.2 + 1) else if 0 ≤ wi q1.2 ∧ wi q1.2 < 4096 then bp (X9_codeOf q36.1 q1.2 q36.2) (fun r40 => if 0 ≤ wi q1.2 ∧ wi q1.2 < 4096 then K37 ((sU q36.1 76 (wi q1.2).toNat ((q36.1 76 (wi q1.2).toNat) + (1000 * (q_and r40 3)))), q36.2 + 1) else none) else none) F ((sU (sU q1.1 75 (wi q1.2).toNat 0) 76 (wi q1.2).toNat 0), 0) else none else none) F (σ, 0)
set_option maxRecDepth 100000 in
set_option maxHeartbeats 400000 in
theorem T_X9_work {G : sG} {q_0 : qT} {x_0 : List Nat} {σ s_0 : sM} {r_0 : Int} {a1 a2 : Int} {F : Nat}  (h : X9_work F σ a1 a2 = some (r_0, s_0)) : aM G yX9_work cX9_work 6 none 6 0 0 [.ref (gP G 55), vI a1, vI a2] (mkSh q_0 x_0, σ) (r_0, (mkSh q_0 x_0, s_0)) := by
  unfold X9_work at h
  refine aM_of (by decide) (Nat.le_of_ble_eq_true rfl) ?_
  show aW G cX9_work RX9 "work" 6 none _ _ aX 0 0 _ [(0, .ref (gP G 55)), (1, vI a1), (2, vI a2)] 0 []
  refine a_iconst dX9_work_0 ?_
  refine a_istore_n (L' := [(3, vI 0), (0, .ref (gP G 55)), (1, vI a1), (2, vI a2)]) dX9_work_1 (by decide) rfl ?_
  refine a_sub (L' := [(0, .ref (gP G 55)), (1, vI a1), (2, vI a2), (3, vI 0)]) [1, 2, 3, 0] rfl (lp_s (x := (σ, 0)) (fun q1 : sM × Int => aW G cX9_work RX9 "work" 6 none (sR 6 0 0) (aQ G none 0 0 (r_0, (mkSh q_0 x_0, s_0))) aX 0 0 (mkSh q_0 x_0, q1.1) [(0, .ref (gP G 55)), (1, vI a1), (2, vI a2), (3, vI q1.2)] 2 []) h (fun K2 hK2 q1 h => ?_))
  refine a_iload_n 3 dX9_work_2 rfl ?_
  refine a_sipush dX9_work_3 (by decide) ?_
  refine a_icmp_ge 70 dX9_work_6 (by decide) rfl (by decide) h (fun c3 h => ?_) (fun c3 h => ?_)
  · skip
    refine a_aload_n 0 dX9_work_70 rfl ?_
    refine a_getR (j := 5) dX9_work_71 KX9 rfl (by decide) rfl kf_RX9_20 ?_
    refine a_iconst dX9_work_74 ?_
    refine a_iald (x' := 0) dX9_work_75 rfl (by decide) (by decide) rfl ?_
    refine a_iconst dX9_work_76 ?_
    refine a_isub dX9_work_77 ?_
    refine a_istore_n (L' := [(3, vI ((q1.1 59 0) - 1)), (0, .ref (gP G 55)), (1, vI a1), (2, vI a2)]) dX9_work_78 (by decide) rfl ?_
    refine a_sub (L' := [(0, .ref (gP G 55)), (1, vI a1), (2, vI a2), (3, vI ((q1.1 59 0) - 1))]) [1, 2, 3, 0] rfl (lp_s (x := (q1.1, (q1.1 59 0) - 1)) (fun q4 : sM × Int => aW G cX9_work RX9 "work" 6 none (sR 6 0 0) (aQ G none 0 0 (r_0, (mkSh q_0 x_0, s_0))) aX 0 0 (mkSh q_0 x_0, q4.1) [(0, .ref (gP G 55)), (1, vI a1), (2, vI a2), (3, vI q4.2)] 79 []) h (fun K5 hK5 q4 h => ?_))
    refine a_iload_n 3 dX9_work_79 rfl ?_
    refine a_iload_n 2 dX9_work_80 rfl ?_
    refine a_icmp_lt 222 dX9_work_81 (by decide) rfl rfl h (fun c6 h => ?_) (fun c6 h => ?_)
    · skip
      exact a_vret dX9_work_222 rfl (p_S (p_2 h))
    · skip
      refine a_iconst dX9_work_84 ?_
      refine a_istore (L' := [(4, vI 0), (0, .ref (gP G 55)), (1, vI a1), (2, vI a2), (3, vI q4.2)]) dX9_work_85 (by decide) rfl ?_
      refine a_sub (L' := [(0, .ref (gP G 55)), (1, vI a1), (2, vI a2), (3, vI q4.2), (4, vI 0)]) [1, 2, 3, 4, 0] rfl (lp_s (x := (q4.1, 0)) (fun q7 : sM × Int => aW G cX9_work RX9 "work" 6 none (sR 6 0 0) (aQ G none 0 0 (r_0, (mkSh q_0 x_0, s_0))) aX 0 0 (mkSh q_0 x_0, q7.1) [(0, .ref (gP G 55)), (1, vI a1), (2, vI a2), (3, vI q4.2), (4, vI q7.2)] 87 []) h (fun K8 hK8 q7 h => ?_))
      refine a_iload 4 dX9_work_87 rfl ?_
      refine a_iconst dX9_work_89 ?_
      refine a_iconst dX9_work_90 ?_
      refine a_aload_n 0 dX9_work_91 rfl ?_
      refine a_getR (j := 4) dX9_work_92 KX9 rfl (by decide) rfl kf_RX9_17 ?_
      refine a_iconst dX9_work_95 ?_
      refine a_iald (x' := 0) dX9_work_96 rfl (by decide) (by decide) rfl ?_
      refine a_imul dX9_work_97 ?_
      refine a_ishl dX9_work_98 ?_
      refine a_icmp_ge 164 dX9_work_99 (by decide) rfl rfl h (fun c9 h => ?_) (fun c9 h => ?_)
      · skip
        refine a_iconst dX9_work_164 ?_
        refine a_istore (L' := [(4, vI 0), (0, .ref (gP G 55)), (1, vI a1), (2, vI a2), (3, vI q4.2)]) dX9_work_165 (by decide) rfl ?_
        refine a_sub (L' := [(0, .ref (gP G 55)), (1, vI a1), (2, vI a2), (3, vI q4.2), (4, vI 0)]) [1, 2, 3, 4, 0] rfl (lp_s (x := (q7.1, 0)) (fun q10 : sM × Int => aW G cX9_work RX9 "work" 6 none (sR 6 0 0) (aQ G none 0 0 (r_0, (mkSh q_0 x_0, s_0))) aX 0 0 (mkSh q_0 x_0, q10.1) [(0, .ref (gP G 55)), (1, vI a1), (2, vI a2), (3, vI q4.2), (4, vI q10.2)] 167 []) h (fun K11 hK11 q10 h => ?_))
        refine a_iload 4 dX9_work_167 rfl ?_
        refine a_iconst dX9_work_169 ?_
        refine a_iconst dX9_work_170 ?_
        refine a_aload_n 0 dX9_work_171 rfl ?_
        refine a_getR (j := 4) dX9_work_172 KX9 rfl (by decide) rfl kf_RX9_17 ?_
        refine a_iconst dX9_work_175 ?_
        refine a_iald (x' := 0) dX9_work_176 rfl (by decide) (by decide) rfl ?_
        refine a_imul dX9_work_177 ?_
        refine a_ishl dX9_work_178 ?_
        refine a_icmp_ge 216 dX9_work_179 (by decide) rfl rfl h (fun c12 h => ?_) (fun c12 h => ?_)
        · skip
          refine a_iinc (L' := [(3, vI (q4.2 + (-1))), (0, .ref (gP G 55)), (1, vI a1), (2, vI a2), (4, vI q10.2)]) 3 dX9_work_216 rfl (by decide) rfl ?_
          refine a_goto 79 dX9_work_219 (by decide) ?_
          have hh := hK5 _ h
          exact a_sub [1, 2, 3, 0] rfl hh
        · skip
          refine a_aload_n 0 dX9_work_182 rfl ?_
          refine a_getR (j := 26) dX9_work_183 KX9 rfl (by decide) rfl kf_RX9_69 ?_
          refine a_iload 4 dX9_work_186 rfl ?_
          refine a_aload_n 0 dX9_work_188 rfl ?_
          refine a_getR (j := 28) dX9_work_189 KX9 rfl (by decide) rfl kf_RX9_75 ?_
          refine a_iload 4 dX9_work_192 rfl ?_
          refine a_gd h (fun c13 h => ?_)
          refine a_iald (x' := wi q10.2) dX9_work_194 rfl rfl c13 rfl ?_
          refine a_gd h (fun c14 h => ?_)
          refine a_iast (x' := wi q10.2) dX9_work_195 rfl rfl c14 rfl ?_
          refine a_aload_n 0 dX9_work_196 rfl ?_
          refine a_getR (j := 27) dX9_work_197 KX9 rfl (by decide) rfl kf_RX9_72 ?_
          refine a_iload 4 dX9_work_200 rfl ?_
          refine a_aload_n 0 dX9_work_202 rfl ?_
          refine a_getR (j := 29) dX9_work_203 KX9 rfl (by decide) rfl kf_RX9_78 ?_
          refine a_iload 4 dX9_work_206 rfl ?_
          refine a_gd h (fun c15 h => ?_)
          refine a_iald (x' := wi q10.2) dX9_work_208 rfl rfl c15 rfl ?_
          refine a_gd h (fun c16 h => ?_)
          refine a_iast (x' := wi q10.2) dX9_work_209 rfl rfl c16 rfl ?_
          refine a_nmS h (fun σ17 w18 h => ?_)
          refine a_iinc (L' := [(4, vI (q10.2 + 1)), (0, .ref (gP G 55)), (1, vI a1), (2, vI a2), (3, vI q4.2)]) 4 dX9_work_210 rfl (by decide) rfl ?_
          refine a_goto 167 dX9_work_213 (by decide) ?_
          have hh := hK11 _ h
          exact a_sub [1, 2, 3, 4, 0] rfl hh
      · skip
        refine a_aload_n 0 dX9_work_102 rfl ?_
        refine a_iload 4 dX9_work_103 rfl ?_
        refine bp_s h (fun r19 e20 h => ?_)
        refine a_callVI dX9_work_105 mX9_isState KX9 rfl kv_X9_isState ks_X9_isState rfl km_RX9_221 rfl (T_X9_isState e20) (fun _ => rfl) rfl (Nat.le_of_ble_eq_true rfl) (Nat.le_of_ble_eq_true rfl) ⟨(Nat.le_of_ble_eq_true rfl), (Nat.le_of_ble_eq_true rfl)⟩ (Nat.le_of_ble_eq_true rfl) ?_
        refine jn_s (fun q21 : sM => aW G cX9_work RX9 "work" 6 none (sR 6 0 0) (aQ G none 0 0 (r_0, (mkSh q_0 x_0, s_0))) aX 0 0 (mkSh q_0 x_0, q21) [(0, .ref (gP G 55)), (1, vI a1), (2, vI a2), (3, vI q4.2), (4, vI q7.2)] 158 []) h (fun q21 h => ?_) (fun K22 hK22 h => ?_)
        · skip
          refine a_iinc (L' := [(4, vI (q7.2 + 1)), (0, .ref (gP G 55)), (1, vI a1), (2, vI a2), (3, vI q4.2)]) 4 dX9_work_158 rfl (by decide) rfl ?_
          refine a_goto 87 dX9_work_161 (by decide) ?_
          have hh := hK8 _ h
          exact a_sub [1, 2, 3, 4, 0] rfl hh
        · skip
          refine a_if_eq 158 dX9_work_108 (by decide) rfl h (fun c23 h => ?_) (fun c23 h => ?_)
          · skip
            have hh := hK22 _ h
            exact a_sub [0, 1, 2, 3, 4] rfl hh
          · skip
            refine a_aload_n 0 dX9_work_111 rfl ?_
            refine a_iload_n 1 dX9_work_112 rfl ?_
            refine a_iload 4 dX9_work_113 rfl ?_
            refine a_iload_n 3 dX9_work_115 rfl ?_
            refine bp_s h (fun r24 e25 h => ?_)
            refine a_callVI dX9_work_116 mX9_choose KX9 rfl kv_X9_choose ks_X9_choose rfl km_RX9_224 rfl (T_X9_choose e25) (fun _ => rfl) rfl (Nat.le_of_ble_eq_true rfl) (Nat.le_of_ble_eq_true rfl) ⟨(Nat.le_of_ble_eq_true rfl), (Nat.le_of_ble_eq_true rfl)⟩ (Nat.le_of_ble_eq_true rfl) ?_
            refine a_istore (L' := [(5, vI r24), (0, .ref (gP G 55)), (1, vI a1), (2, vI a2), (3, vI q4.2), (4, vI q7.2)]) dX9_work_119 (by decide) rfl ?_
            refine a_aload_n 1 dX9_work_121 rfl ?_
            refine a_getR (j := 28) dX9_work_122 KX9 rfl (by decide) rfl kf_RX9_75 ?_
            refine a_iload 5 dX9_work_125 rfl ?_
            refine a_aload_n 1 dX9_work_127 rfl ?_
            refine a_iload 5 dX9_work_128 rfl ?_
            refine a_iload 0 dX9_work_130 rfl ?_
            refine a_iload_n 4 dX9_work_132 rfl ?_
            refine bp_s h (fun r26 e27 h => ?_)
            refine a_callVI dX9_work_133 mX9_bringsBy KX9 rfl kv_X9_bringsBy ks_X9_bringsBy rfl km_RX9_218 rfl (T_X9_bringsBy e27) (fun _ => rfl) rfl (Nat.le_of_ble_eq_true rfl) (Nat.le_of_ble_eq_true rfl) ⟨(Nat.le_of_ble_eq_true rfl), (Nat.le_of_ble_eq_true rfl)⟩ (Nat.le_of_ble_eq_true rfl) ?_
            refine a_gd h (fun c28 h => ?_)
            refine a_iast (x' := wi q7.2) dX9_work_136 rfl rfl c28 rfl ?_
            refine a_aload_n 1 dX9_work_137 rfl ?_
            refine a_getR (j := 29) dX9_work_138 KX9 rfl (by decide) rfl kf_RX9_78 ?_
            refine a_iload 5 dX9_work_141 rfl ?_
            refine a_aload_n 1 dX9_work_143 rfl ?_
            refine a_aload_n 1 dX9_work_144 rfl ?_
            refine a_iload 5 dX9_work_145 rfl ?_
            refine a_iload 0 dX9_work_147 rfl ?_
            refine bp_s h (fun r29 e30 h => ?_)
            refine a_callVI dX9_work_149 mX9_behind KX9 rfl kv_X9_behind ks_X9_behind rfl km_RX9_208 rfl (T_X9_behind e30) (fun _ => rfl) rfl (Nat.le_of_ble_eq_true rfl) (Nat.le_of_ble_eq_true rfl) ⟨(Nat.le_of_ble_eq_true rfl), (Nat.le_of_ble_eq_true rfl)⟩ (Nat.le_of_ble_eq_true rfl) ?_
            refine a_iload_n 4 dX9_work_152 rfl ?_
            refine a_iconst dX9_work_153 ?_
            refine bp_s h (fun r31 e32 h => ?_)
            refine a_callVI dX9_work_154 mX9_meanOf KX9 rfl kv_X9_meanOf ks_X9_meanOf rfl km_RX9_211 rfl (T_X9_meanOf e32) (fun _ => rfl) rfl (Nat.le_of_ble_eq_true rfl) (Nat.le_of_ble_eq_true rfl) ⟨(Nat.le_of_ble_eq_true rfl), (Nat.le_of_ble_eq_true rfl)⟩ (Nat.le_of_ble_eq_true rfl) ?_
            refine a_gd h (fun c33 h => ?_)
            refine a_iast (x' := wi q7.2) dX9_work_157 rfl rfl c33 rfl ?_
            have hh := hK22 _ h
            exact a_sub [1, 2, 3, 4, 5] rfl hh
  · skip
    refine a_aload_n 0 dX9_work_9 rfl ?_
    refine a_getR (j := 26) dX9_work_10 KX9 rfl (by decide) rfl kf_RX9_69 ?_
    refine a_iload_n 3 dX9_work_13 rfl ?_
    refine a_iconst dX9_work_14 ?_
    refine a_gd h (fun c34 h => ?_)
    refine a_iast (x' := wi q1.2) dX9_work_15 rfl rfl c34 rfl ?_
    refine a_aload_n 0 dX9_work_16 rfl ?_
    refine a_getR (j := 27) dX9_work_17 KX9 rfl (by decide) rfl kf_RX9_72 ?_
    refine a_iload_n 3 dX9_work_20 rfl ?_
    refine a_iconst dX9_work_21 ?_
    refine a_gd h (fun c35 h => ?_)
    refine a_iast (x' := wi q1.2) dX9_work_22 rfl rfl c35 rfl ?_
    refine a_iconst dX9_work_23 ?_
    refine a_istore (L' := [(4, vI 0), (0, .ref (gP G 55)), (1, vI a1), (2, vI a2), (3, vI q1.2)]) dX9_work_24 (by decide) rfl ?_
    refine a_sub (L' := [(0, .ref (gP G 55)), (1, vI a1), (2, vI a2), (3, vI q1.2), (4, vI 0)]) [1, 2, 3, 4, 0] rfl (lp_s (x := ((sU (sU q1.1 75 (wi q1.2).toNat 0) 76 (wi q1.2).toNat 0), 0)) (fun q36 : sM × Int => aW G cX9_work RX9 "work" 6 none (sR 6 0 0) (aQ G none 0 0 (r_0, (mkSh q_0 x_0, s_0))) aX 0 0 (mkSh q_0 x_0, q36.1) [(0, .ref (gP G 55)), (1, vI a1), (2, vI a2), (3, vI q1.2), (4, vI q36.2)] 26 []) h (fun K37 hK37 q36 h => ?_))
    refine a_iload 4 dX9_work_26 rfl ?_
    refine a_aload_n 0 dX9_work_28 rfl ?_
    refine a_getR (j := 4) dX9_work_29 KX9 rfl (by decide) rfl kf_RX9_17 ?_
    refine a_iconst dX9_work_32 ?_
    refine a_iald (x' := 0) dX9_work_33 rfl (by decide) (by decide) rfl ?_
    refine a_icmp_ge 64 dX9_work_34 (by decide) rfl rfl h (fun c38 h => ?_) (fun c38 h => ?_)
    · skip
      refine a_iinc (L' := [(3, vI (q1.2 + 1)), (0, .ref (gP G 55)), (1, vI a1), (2, vI a2), (4, vI q36.2)]) 3 dX9_work_64 rfl (by decide) rfl ?_
      refine a_goto 2 dX9_work_67 (by decide) ?_
      have hh := hK2 _ h
      exact a_sub [1, 2, 3, 0] rfl hh
    · skip
      refine a_aload_n 0 dX9_work_37 rfl ?_
      refine a_getR (j := 27) dX9_work_38 KX9 rfl (by decide) rfl kf_RX9_72 ?_
      refine a_iload_n 3 dX9_work_41 rfl ?_
      refine a_dup2 dX9_work_42 ?_
      refine a_gd h (fun c39 h => ?_)
      refine a_iald (x' := wi q1.2) dX9_work_43 rfl rfl c39 rfl ?_
      refine a_sipush dX9_work_44 (by decide) ?_
      refine a_iload_n 3 dX9_work_47 rfl ?_
      refine a_iload 4 dX9_work_48 rfl ?_
      refine bp_s h (fun r40 e41 h => ?_)
      refine a_callSI dX9_work_50 mX9_codeOf kv_X9_codeOf km_RX9_175 rfl (T_X9_codeOf e41) (fun _ => rfl) rfl (Nat.le_of_ble_eq_true rfl) (Nat.le_of_ble_eq_true rfl) ⟨(Nat.le_of_ble_eq_true rfl), (Nat.le_of_ble_eq_true rfl)⟩ (Nat.le_of_ble_eq_true rfl) ?_
      refine a_iconst dX9_work_53 ?_
      refine a_iand dX9_work_54 ?_
      refine a_imul dX9_work_55 ?_
      refine a_iadd dX9_work_56 ?_
      refine a_gd h (fun c42 h => ?_)
      refine a_iast (x' := wi q1.2) dX9_work_57 rfl rfl c42 rfl ?_
      refine a_iinc (L' := [(4, vI (q36.2 + 1)), (0, .ref (gP G 55)), (1, vI a1), (2, vI a2), (3, vI q1.2)]) 4 dX9_work_58 rfl (by decide) rfl ?_
      refine a_goto 26 dX9_work_61 (by decide) ?_
      have hh := hK37 _ h
      exact a_sub [1, 2, 3, 4, 0] rfl hh

def X9_chooseNow (F : Nat) (σ : sM) (a1 : Int) : Option (Int × sM) := bn (X9_work F σ a1 ((σ 66 0) + 1)) (fun r1 σ3 => if wi (σ3 67 0) = 0 then bp (X9_stateNow F σ3) (fun r5 => bp (X9_choose F σ3 a1 r5 (σ3 66 0)) (fun r7 => some (r7, σ3))) else some (6, σ3))
set_option maxRecDepth 100000 in
set_option maxHeartbeats 400000 in
theorem T_X9_chooseNow {G : sG} {q_0 : qT} {x_0 : List Nat} {σ s_0 : sM} {r_0 : Int} {a1 : Int} {F : Nat}  (h : X9_chooseNow F σ a1 = some (r_0, s_0)) : aM G yX9_chooseNow cX9_chooseNow 2 (some .int) 7 0 0 [.ref (gP G 55), vI a1] (mkSh q_0 x_0, σ) (r_0, (mkSh q_0 x_0, s_0)) := by
  unfold X9_chooseNow at h
  refine aM_of (by decide) (Nat.le_of_ble_eq_true rfl) ?_
  show aW G cX9_chooseNow RX9 "chooseNow" 2 (some .int) _ _ aX 0 0 _ [(0, .ref (gP G 55)), (1, vI a1)] 0 []
  refine a_aload_n 0 dX9_chooseNow_0 rfl ?_
  refine a_iload_n 1 dX9_chooseNow_1 rfl ?_
  refine a_aload_n 0 dX9_chooseNow_2 rfl ?_
  refine a_getR (j := 17) dX9_chooseNow_3 KX9 rfl (by decide) rfl kf_RX9_41 ?_
  refine a_iconst dX9_chooseNow_6 ?_
  refine a_iald (x' := 0) dX9_chooseNow_7 rfl (by decide) (by decide) rfl ?_
  refine a_iconst dX9_chooseNow_8 ?_
  refine a_iadd dX9_chooseNow_9 ?_
  refine bn_s h (fun r1 σ3 e2 h => ?_)
  refine a_callVV dX9_chooseNow_10 mX9_work KX9 rfl kv_X9_work ks_X9_work rfl km_RX9_227 rfl (T_X9_work e2) (fun _ => rfl) rfl (Nat.le_of_ble_eq_true rfl) (Nat.le_of_ble_eq_true rfl) ⟨(Nat.le_of_ble_eq_true rfl), (Nat.le_of_ble_eq_true rfl)⟩ (Nat.le_of_ble_eq_true rfl) ?_
  refine a_aload_n 0 dX9_chooseNow_13 rfl ?_
  refine a_getR (j := 18) dX9_chooseNow_14 KX9 rfl (by decide) rfl kf_RX9_44 ?_
  refine a_iconst dX9_chooseNow_17 ?_
  refine a_zald (x' := 0) dX9_chooseNow_18 rfl (by decide) (by decide) rfl ?_
  refine a_if_eq 27 dX9_chooseNow_19 (by decide) rfl h (fun c4 h => ?_) (fun c4 h => ?_)
  · skip
    refine a_aload_n 0 dX9_chooseNow_27 rfl ?_
    refine a_iload_n 1 dX9_chooseNow_28 rfl ?_
    refine a_aload_n 0 dX9_chooseNow_29 rfl ?_
    refine bp_s h (fun r5 e6 h => ?_)
    refine a_callVI dX9_chooseNow_30 mX9_stateNow KX9 rfl kv_X9_stateNow ks_X9_stateNow rfl km_RX9_192 rfl (T_X9_stateNow e6) (fun _ => rfl) rfl (Nat.le_of_ble_eq_true rfl) (Nat.le_of_ble_eq_true rfl) ⟨(Nat.le_of_ble_eq_true rfl), (Nat.le_of_ble_eq_true rfl)⟩ (Nat.le_of_ble_eq_true rfl) ?_
    refine a_aload_n 0 dX9_chooseNow_33 rfl ?_
    refine a_getR (j := 17) dX9_chooseNow_34 KX9 rfl (by decide) rfl kf_RX9_41 ?_
    refine a_iconst dX9_chooseNow_37 ?_
    refine a_iald (x' := 0) dX9_chooseNow_38 rfl (by decide) (by decide) rfl ?_
    refine bp_s h (fun r7 e8 h => ?_)
    refine a_callVI dX9_chooseNow_39 mX9_choose KX9 rfl kv_X9_choose ks_X9_choose rfl km_RX9_224 rfl (T_X9_choose e8) (fun _ => rfl) rfl (Nat.le_of_ble_eq_true rfl) (Nat.le_of_ble_eq_true rfl) ⟨(Nat.le_of_ble_eq_true rfl), (Nat.le_of_ble_eq_true rfl)⟩ (Nat.le_of_ble_eq_true rfl) ?_
    exact a_iret dX9_chooseNow_42 rfl (p_1 h) (p_S (p_2 h))
  · skip
    refine a_bipush dX9_chooseNow_22 (by decide) ?_
    refine a_goto 42 dX9_chooseNow_24 (by decide) ?_
    exact a_iret dX9_chooseNow_42 rfl (p_1 h) (p_S (p_2 h))

def X9_valueNow (F : Nat) (σ : sM) (a1 : Int) : Option (Int × sM) := bp (X9_isOver σ) (fun r1 => if wi r1 = 0 then bn (X9_chooseNow F σ a1) (fun r4 σ6 => bp (X9_stateNow F σ6) (fun r7 => bp (X9_bringsBy F σ6 r7 r4 (σ6 66 0)) (fun r9 => some (r9, σ6)))) else some (0, σ))
set_option maxRecDepth 100000 in
set_option maxHeartbeats 400000 in
theorem T_X9_valueNow {G : sG} {q_0 : qT} {x_0 : List Nat} {σ s_0 : sM} {r_0 : Int} {a1 : Int} {F : Nat}  (h : X9_valueNow F σ a1 = some (r_0, s_0)) : aM G yX9_valueNow cX9_valueNow 3 (some .int) 8 0 0 [.ref (gP G 55), vI a1] (mkSh q_0 x_0, σ) (r_0, (mkSh q_0 x_0, s_0)) := by
  unfold X9_valueNow at h
  refine aM_of (by decide) (Nat.le_of_ble_eq_true rfl) ?_
  show aW G cX9_valueNow RX9 "valueNow" 3 (some .int) _ _ aX 0 0 _ [(0, .ref (gP G 55)), (1, vI a1)] 0 []
  refine a_aload_n 0 dX9_valueNow_0 rfl ?_
  refine bp_s h (fun r1 e2 h => ?_)
  refine a_callVI dX9_valueNow_1 mX9_isOver KX9 rfl kv_X9_isOver ks_X9_isOver rfl km_RX9_188 rfl (T_X9_isOver e2) (fun _ => rfl) rfl (Nat.le_of_ble_eq_true rfl) (Nat.le_of_ble_eq_true rfl) ⟨(Nat.le_of_ble_eq_true rfl), (Nat.le_of_ble_eq_true rfl)⟩ (Nat.le_of_ble_eq_true rfl) ?_
  refine a_if_eq 9 dX9_valueNow_4 (by decide) rfl h (fun c3 h => ?_) (fun c3 h => ?_)
  · skip
    refine a_aload_n 0 dX9_valueNow_9 rfl ?_
    refine a_iload_n 1 dX9_valueNow_10 rfl ?_
    refine bn_s h (fun r4 σ6 e5 h => ?_)
    refine a_callVI dX9_valueNow_11 mX9_chooseNow KX9 rfl kv_X9_chooseNow ks_X9_chooseNow rfl km_RX9_230 rfl (T_X9_chooseNow e5) (fun _ => rfl) rfl (Nat.le_of_ble_eq_true rfl) (Nat.le_of_ble_eq_true rfl) ⟨(Nat.le_of_ble_eq_true rfl), (Nat.le_of_ble_eq_true rfl)⟩ (Nat.le_of_ble_eq_true rfl) ?_
    refine a_istore_n (L' := [(2, vI r4), (0, .ref (gP G 55)), (1, vI a1)]) dX9_valueNow_14 (by decide) rfl ?_
    refine a_aload_n 1 dX9_valueNow_15 rfl ?_
    refine a_aload_n 1 dX9_valueNow_16 rfl ?_
    refine bp_s h (fun r7 e8 h => ?_)
    refine a_callVI dX9_valueNow_17 mX9_stateNow KX9 rfl kv_X9_stateNow ks_X9_stateNow rfl km_RX9_192 rfl (T_X9_stateNow e8) (fun _ => rfl) rfl (Nat.le_of_ble_eq_true rfl) (Nat.le_of_ble_eq_true rfl) ⟨(Nat.le_of_ble_eq_true rfl), (Nat.le_of_ble_eq_true rfl)⟩ (Nat.le_of_ble_eq_true rfl) ?_
    refine a_iload_n 0 dX9_valueNow_20 rfl ?_
    refine a_aload_n 1 dX9_valueNow_21 rfl ?_
    refine a_getR (j := 17) dX9_valueNow_22 KX9 rfl (by decide) rfl kf_RX9_41 ?_
    refine a_iconst dX9_valueNow_25 ?_
    refine a_iald (x' := 0) dX9_valueNow_26 rfl (by decide) (by decide) rfl ?_
    refine bp_s h (fun r9 e10 h => ?_)
    refine a_callVI dX9_valueNow_27 mX9_bringsBy KX9 rfl kv_X9_bringsBy ks_X9_bringsBy rfl km_RX9_218 rfl (T_X9_bringsBy e10) (fun _ => rfl) rfl (Nat.le_of_ble_eq_true rfl) (Nat.le_of_ble_eq_true rfl) ⟨(Nat.le_of_ble_eq_true rfl), (Nat.le_of_ble_eq_true rfl)⟩ (Nat.le_of_ble_eq_true rfl) ?_
    exact a_iret dX9_valueNow_30 rfl (p_1 h) (p_S (p_2 h))
  · skip
    refine a_iconst dX9_valueNow_7 ?_
    exact a_iret dX9_valueNow_8 rfl (p_1 h) (p_S (p_2 h))

def X9_value (F : Nat) (σ : sM) (a1 : Int) : Option (Int × sM) := bp (X9_isRule σ a1) (fun r1 => if wi r1 = 0 then some ((-1), σ) else bn (X9_valueNow F σ a1) (fun r4 σ6 => some (r4, σ6)))
set_option maxRecDepth 100000 in
set_option maxHeartbeats 400000 in
theorem T_X9_value {G : sG} {q_0 : qT} {x_0 : List Nat} {σ s_0 : sM} {r_0 : Int} {a1 : Int} {F : Nat}  (h : X9_value F σ a1 = some (r_0, s_0)) : aM G yX9_value cX9_value 2 (some .int) 9 0 0 [.ref (gP G 55), vI a1] (mkSh q_0 x_0, σ) (r_0, (mkSh q_0 x_0, s_0)) := by
  unfold X9_value at h
  refine aM_of (by decide) (Nat.le_of_ble_eq_true rfl) ?_
  show aW G cX9_value RX9 "value" 2 (some .int) _ _ aX 0 0 _ [(0, .ref (gP G 55)), (1, vI a1)] 0 []
  refine a_iload_n 1 dX9_value_0 rfl ?_
  refine bp_s h (fun r1 e2 h => ?_)
  refine a_callSI dX9_value_1 mX9_isRule kv_X9_isRule km_RX9_233 rfl (T_X9_isRule e2) (fun _ => rfl) rfl (Nat.le_of_ble_eq_true rfl) (Nat.le_of_ble_eq_true rfl) ⟨(Nat.le_of_ble_eq_true rfl), (Nat.le_of_ble_eq_true rfl)⟩ (Nat.le_of_ble_eq_true rfl) ?_
  refine a_if_eq 15 dX9_value_4 (by decide) rfl h (fun c3 h => ?_) (fun c3 h => ?_)
  · skip
    refine a_iconst dX9_value_15 ?_
    exact a_iret dX9_value_16 rfl (p_1 h) (p_S (p_2 h))
  · skip
    refine a_aload_n 0 dX9_value_7 rfl ?_
    refine a_iload_n 1 dX9_value_8 rfl ?_
    refine bn_s h (fun r4 σ6 e5 h => ?_)
    refine a_callVI dX9_value_9 mX9_valueNow KX9 rfl kv_X9_valueNow ks_X9_valueNow rfl km_RX9_236 rfl (T_X9_valueNow e5) (fun _ => rfl) rfl (Nat.le_of_ble_eq_true rfl) (Nat.le_of_ble_eq_true rfl) ⟨(Nat.le_of_ble_eq_true rfl), (Nat.le_of_ble_eq_true rfl)⟩ (Nat.le_of_ble_eq_true rfl) ?_
    refine a_goto 16 dX9_value_12 (by decide) ?_
    exact a_iret dX9_value_16 rfl (p_1 h) (p_S (p_2 h))

def X9_left (F : Nat) (σ : sM) (a1 : Int) : Option (Int × sM) := bp (X9_isRule σ a1) (fun r1 => if ¬ wi r1 = 0 then bp (X9_isOver σ) (fun r4 => if wi r4 = 0 then bn (X9_chooseNow F σ a1) (fun r7 σ9 => bp (X9_stateNow F σ9) (fun r10 => bp (X9_behind σ9 r10 r7) (fun r12 => bp (X9_meanOf F σ9 r12 (σ9 66 0) 0) (fun r14 => some (r14, σ9))))) else bp (X9_now F σ 4) (fun r16 => some (1000 * r16, σ))) else some ((-1), σ))
set_option maxRecDepth 100000 in
set_option maxHeartbeats 400000 in
theorem T_X9_left {G : sG} {q_0 : qT} {x_0 : List Nat} {σ s_0 : sM} {r_0 : Int} {a1 : Int} {F : Nat}  (h : X9_left F σ a1 = some (r_0, s_0)) : aM G yX9_left cX9_left 3 (some .int) 8 0 0 [.ref (gP G 55), vI a1] (mkSh q_0 x_0, σ) (r_0, (mkSh q_0 x_0, s_0)) := by
  unfold X9_left at h
  refine aM_of (by decide) (Nat.le_of_ble_eq_true rfl) ?_
  show aW G cX9_left RX9 "left" 3 (some .int) _ _ aX 0 0 _ [(0, .ref (gP G 55)), (1, vI a1)] 0 []
  refine a_iload_n 1 dX9_left_0 rfl ?_
  refine bp_s h (fun r1 e2 h => ?_)
  refine a_callSI dX9_left_1 mX9_isRule kv_X9_isRule km_RX9_233 rfl (T_X9_isRule e2) (fun _ => rfl) rfl (Nat.le_of_ble_eq_true rfl) (Nat.le_of_ble_eq_true rfl) ⟨(Nat.le_of_ble_eq_true rfl), (Nat.le_of_ble_eq_true rfl)⟩ (Nat.le_of_ble_eq_true rfl) ?_
  refine a_if_ne 9 dX9_left_4 (by decide) rfl h (fun c3 h => ?_) (fun c3 h => ?_)
  · skip
    refine a_aload_n 0 dX9_left_9 rfl ?_
    refine bp_s h (fun r4 e5 h => ?_)
    refine a_callVI dX9_left_10 mX9_isOver KX9 rfl kv_X9_isOver ks_X9_isOver rfl km_RX9_188 rfl (T_X9_isOver e5) (fun _ => rfl) rfl (Nat.le_of_ble_eq_true rfl) (Nat.le_of_ble_eq_true rfl) ⟨(Nat.le_of_ble_eq_true rfl), (Nat.le_of_ble_eq_true rfl)⟩ (Nat.le_of_ble_eq_true rfl) ?_
    refine a_if_eq 26 dX9_left_13 (by decide) rfl h (fun c6 h => ?_) (fun c6 h => ?_)
    · skip
      refine a_aload_n 0 dX9_left_26 rfl ?_
      refine a_iload_n 1 dX9_left_27 rfl ?_
      refine bn_s h (fun r7 σ9 e8 h => ?_)
      refine a_callVI dX9_left_28 mX9_chooseNow KX9 rfl kv_X9_chooseNow ks_X9_chooseNow rfl km_RX9_230 rfl (T_X9_chooseNow e8) (fun _ => rfl) rfl (Nat.le_of_ble_eq_true rfl) (Nat.le_of_ble_eq_true rfl) ⟨(Nat.le_of_ble_eq_true rfl), (Nat.le_of_ble_eq_true rfl)⟩ (Nat.le_of_ble_eq_true rfl) ?_
      refine a_istore_n (L' := [(2, vI r7), (0, .ref (gP G 55)), (1, vI a1)]) dX9_left_31 (by decide) rfl ?_
      refine a_aload_n 1 dX9_left_32 rfl ?_
      refine a_aload_n 1 dX9_left_33 rfl ?_
      refine a_aload_n 1 dX9_left_34 rfl ?_
      refine bp_s h (fun r10 e11 h => ?_)
      refine a_callVI dX9_left_35 mX9_stateNow KX9 rfl kv_X9_stateNow ks_X9_stateNow rfl km_RX9_192 rfl (T_X9_stateNow e11) (fun _ => rfl) rfl (Nat.le_of_ble_eq_true rfl) (Nat.le_of_ble_eq_true rfl) ⟨(Nat.le_of_ble_eq_true rfl), (Nat.le_of_ble_eq_true rfl)⟩ (Nat.le_of_ble_eq_true rfl) ?_
      refine a_iload_n 0 dX9_left_38 rfl ?_
      refine bp_s h (fun r12 e13 h => ?_)
      refine a_callVI dX9_left_39 mX9_behind KX9 rfl kv_X9_behind ks_X9_behind rfl km_RX9_208 rfl (T_X9_behind e13) (fun _ => rfl) rfl (Nat.le_of_ble_eq_true rfl) (Nat.le_of_ble_eq_true rfl) ⟨(Nat.le_of_ble_eq_true rfl), (Nat.le_of_ble_eq_true rfl)⟩ (Nat.le_of_ble_eq_true rfl) ?_
      refine a_aload_n 1 dX9_left_42 rfl ?_
      refine a_getR (j := 17) dX9_left_43 KX9 rfl (by decide) rfl kf_RX9_41 ?_
      refine a_iconst dX9_left_46 ?_
      refine a_iald (x' := 0) dX9_left_47 rfl (by decide) (by decide) rfl ?_
      refine a_iconst dX9_left_48 ?_
      refine bp_s h (fun r14 e15 h => ?_)
      refine a_callVI dX9_left_49 mX9_meanOf KX9 rfl kv_X9_meanOf ks_X9_meanOf rfl km_RX9_211 rfl (T_X9_meanOf e15) (fun _ => rfl) rfl (Nat.le_of_ble_eq_true rfl) (Nat.le_of_ble_eq_true rfl) ⟨(Nat.le_of_ble_eq_true rfl), (Nat.le_of_ble_eq_true rfl)⟩ (Nat.le_of_ble_eq_true rfl) ?_
      exact a_iret dX9_left_52 rfl (p_1 h) (p_S (p_2 h))
    · skip
      refine a_sipush dX9_left_16 (by decide) ?_
      refine a_aload_n 0 dX9_left_19 rfl ?_
      refine a_iconst dX9_left_20 ?_
      refine bp_s h (fun r16 e17 h => ?_)
      refine a_callVI dX9_left_21 mX9_now KX9 rfl kv_X9_now ks_X9_now rfl km_RX9_239 rfl (T_X9_now e17) (fun _ => rfl) rfl (Nat.le_of_ble_eq_true rfl) (Nat.le_of_ble_eq_true rfl) ⟨(Nat.le_of_ble_eq_true rfl), (Nat.le_of_ble_eq_true rfl)⟩ (Nat.le_of_ble_eq_true rfl) ?_
      refine a_imul dX9_left_24 ?_
      exact a_iret dX9_left_25 rfl (p_1 h) (p_S (p_2 h))
  · skip
    refine a_iconst dX9_left_7 ?_
    exact a_iret dX9_left_8 rfl (p_1 h) (p_S (p_2 h))

def X9_choice (F : Nat) (σ : sM) (a1 : Int) : Option (Int × sM) := bp (X9_isRule σ a1) (fun r1 => if ¬ wi r1 = 0 then bp (X9_isOver σ) (fun r4 => if wi r4 = 0 then bn (X9_chooseNow F σ a1) (fun r7 σ9 => some (r7, σ9)) else some (6, σ)) else some ((-1), σ))
set_option maxRecDepth 100000 in
set_option maxHeartbeats 400000 in
theorem T_X9_choice {G : sG} {q_0 : qT} {x_0 : List Nat} {σ s_0 : sM} {r_0 : Int} {a1 : Int} {F : Nat}  (h : X9_choice F σ a1 = some (r_0, s_0)) : aM G yX9_choice cX9_choice 2 (some .int) 8 0 0 [.ref (gP G 55), vI a1] (mkSh q_0 x_0, σ) (r_0, (mkSh q_0 x_0, s_0)) := by
  unfold X9_choice at h
  refine aM_of (by decide) (Nat.le_of_ble_eq_true rfl) ?_
  show aW G cX9_choice RX9 "choice" 2 (some .int) _ _ aX 0 0 _ [(0, .ref (gP G 55)), (1, vI a1)] 0 []
  refine a_iload_n 1 dX9_choice_0 rfl ?_
  refine bp_s h (fun r1 e2 h => ?_)
  refine a_callSI dX9_choice_1 mX9_isRule kv_X9_isRule km_RX9_233 rfl (T_X9_isRule e2) (fun _ => rfl) rfl (Nat.le_of_ble_eq_true rfl) (Nat.le_of_ble_eq_true rfl) ⟨(Nat.le_of_ble_eq_true rfl), (Nat.le_of_ble_eq_true rfl)⟩ (Nat.le_of_ble_eq_true rfl) ?_
  refine a_if_ne 11 dX9_choice_4 (by decide) rfl h (fun c3 h => ?_) (fun c3 h => ?_)
  · skip
    refine a_aload_n 0 dX9_choice_11 rfl ?_
    refine bp_s h (fun r4 e5 h => ?_)
    refine a_callVI dX9_choice_12 mX9_isOver KX9 rfl kv_X9_isOver ks_X9_isOver rfl km_RX9_188 rfl (T_X9_isOver e5) (fun _ => rfl) rfl (Nat.le_of_ble_eq_true rfl) (Nat.le_of_ble_eq_true rfl) ⟨(Nat.le_of_ble_eq_true rfl), (Nat.le_of_ble_eq_true rfl)⟩ (Nat.le_of_ble_eq_true rfl) ?_
    refine a_if_eq 23 dX9_choice_15 (by decide) rfl h (fun c6 h => ?_) (fun c6 h => ?_)
    · skip
      refine a_aload_n 0 dX9_choice_23 rfl ?_
      refine a_iload_n 1 dX9_choice_24 rfl ?_
      refine bn_s h (fun r7 σ9 e8 h => ?_)
      refine a_callVI dX9_choice_25 mX9_chooseNow KX9 rfl kv_X9_chooseNow ks_X9_chooseNow rfl km_RX9_230 rfl (T_X9_chooseNow e8) (fun _ => rfl) rfl (Nat.le_of_ble_eq_true rfl) (Nat.le_of_ble_eq_true rfl) ⟨(Nat.le_of_ble_eq_true rfl), (Nat.le_of_ble_eq_true rfl)⟩ (Nat.le_of_ble_eq_true rfl) ?_
      exact a_iret dX9_choice_28 rfl (p_1 h) (p_S (p_2 h))
    · skip
      refine a_bipush dX9_choice_18 (by decide) ?_
      refine a_goto 28 dX9_choice_20 (by decide) ?_
      exact a_iret dX9_choice_28 rfl (p_1 h) (p_S (p_2 h))
  · skip
    refine a_iconst dX9_choice_7 ?_
    refine a_goto 28 dX9_choice_8 (by decide) ?_
    exact a_iret dX9_choice_28 rfl (p_1 h) (p_S (p_2 h))

def X9_brings (F : Nat) (σ : sM) (a1 : Int) : Option (Int × sM) := bp (X9_in σ a1 0 6) (fun r1 => if ¬ wi r1 = 0 then bp (X9_isOver σ) (fun r4 => if wi r4 = 0 then jn (fun q7 : Unit => bn (X9_work F σ 4 ((σ 66 0) + 1)) (fun r9 σ11 => bp (X9_stateNow F σ11) (fun r12 => bp (X9_bringsBy F σ11 r12 a1 (σ11 66 0)) (fun r14 => some (r14, σ11))))) (fun K8 => if 6 ≤ wi a1 then K8 () else jn (fun q17 : Unit => some ((-1000000), σ)) (fun K18 => if ¬ wi (σ 67 0) = 0 then K18 () else bp (X9_stateNow F σ) (fun r20 => bp (X9_mayDo F σ r20 a1) (fun r22 => if ¬ wi r22 = 0 then K8 () else K18 ())))) else if ¬ wi a1 = 6 then some ((-1000000), σ) else some (0, σ)) else some ((-1000000), σ))
set_option maxRecDepth 100000 in
set_option maxHeartbeats 400000 in
theorem T_X9_brings {G : sG} {q_0 : qT} {x_0 : List Nat} {σ s_0 : sM} {r_0 : Int} {a1 : Int} {F : Nat}  (h : X9_brings F σ a1 = some (r_0, s_0)) : aM G yX9_brings cX9_brings 2 (some .int) 7 0 0 [.ref (gP G 55), vI a1] (mkSh q_0 x_0, σ) (r_0, (mkSh q_0 x_0, s_0)) := by
  unfold X9_brings at h
  refine aM_of (by decide) (Nat.le_of_ble_eq_true rfl) ?_
  show aW G cX9_brings RX9 "brings" 2 (some .int) _ _ aX 0 0 _ [(0, .ref (gP G 55)), (1, vI a1)] 0 []
  refine a_iload_n 1 dX9_brings_0 rfl ?_
  refine a_iconst dX9_brings_1 ?_
  refine a_bipush dX9_brings_2 (by decide) ?_
  refine bp_s h (fun r1 e2 h => ?_)
  refine a_callSI dX9_brings_4 mX9_in kv_X9_in km_RX9_103 rfl (T_X9_in e2) (fun _ => rfl) rfl (Nat.le_of_ble_eq_true rfl) (Nat.le_of_ble_eq_true rfl) ⟨(Nat.le_of_ble_eq_true rfl), (Nat.le_of_ble_eq_true rfl)⟩ (Nat.le_of_ble_eq_true rfl) ?_
  refine a_if_ne 13 dX9_brings_7 (by decide) rfl h (fun c3 h => ?_) (fun c3 h => ?_)
  · skip
    refine a_aload_n 0 dX9_brings_13 rfl ?_
    refine bp_s h (fun r4 e5 h => ?_)
    refine a_callVI dX9_brings_14 mX9_isOver KX9 rfl kv_X9_isOver ks_X9_isOver rfl km_RX9_188 rfl (T_X9_isOver e5) (fun _ => rfl) rfl (Nat.le_of_ble_eq_true rfl) (Nat.le_of_ble_eq_true rfl) ⟨(Nat.le_of_ble_eq_true rfl), (Nat.le_of_ble_eq_true rfl)⟩ (Nat.le_of_ble_eq_true rfl) ?_
    refine a_if_eq 33 dX9_brings_17 (by decide) rfl h (fun c6 h => ?_) (fun c6 h => ?_)
    · skip
      refine a_iload_n 1 dX9_brings_33 rfl ?_
      refine a_bipush dX9_brings_34 (by decide) ?_
      refine jn_s (fun q7 : Unit => aW G cX9_brings RX9 "brings" 2 (some .int) (sR 7 0 0) (aQ G (some .int) 0 0 (r_0, (mkSh q_0 x_0, s_0))) aX 0 0 (mkSh q_0 x_0, σ) [(0, .ref (gP G 55)), (1, vI a1)] 63 []) h (fun q7 h => ?_) (fun K8 hK8 h => ?_)
      · skip
        refine a_aload_n 0 dX9_brings_63 rfl ?_
        refine a_iconst dX9_brings_64 ?_
        refine a_aload_n 0 dX9_brings_65 rfl ?_
        refine a_getR (j := 17) dX9_brings_66 KX9 rfl (by decide) rfl kf_RX9_41 ?_
        refine a_iconst dX9_brings_69 ?_
        refine a_iald (x' := 0) dX9_brings_70 rfl (by decide) (by decide) rfl ?_
        refine a_iconst dX9_brings_71 ?_
        refine a_iadd dX9_brings_72 ?_
        refine bn_s h (fun r9 σ11 e10 h => ?_)
        refine a_callVV dX9_brings_73 mX9_work KX9 rfl kv_X9_work ks_X9_work rfl km_RX9_227 rfl (T_X9_work e10) (fun _ => rfl) rfl (Nat.le_of_ble_eq_true rfl) (Nat.le_of_ble_eq_true rfl) ⟨(Nat.le_of_ble_eq_true rfl), (Nat.le_of_ble_eq_true rfl)⟩ (Nat.le_of_ble_eq_true rfl) ?_
        refine a_aload_n 0 dX9_brings_76 rfl ?_
        refine a_aload_n 0 dX9_brings_77 rfl ?_
        refine bp_s h (fun r12 e13 h => ?_)
        refine a_callVI dX9_brings_78 mX9_stateNow KX9 rfl kv_X9_stateNow ks_X9_stateNow rfl km_RX9_192 rfl (T_X9_stateNow e13) (fun _ => rfl) rfl (Nat.le_of_ble_eq_true rfl) (Nat.le_of_ble_eq_true rfl) ⟨(Nat.le_of_ble_eq_true rfl), (Nat.le_of_ble_eq_true rfl)⟩ (Nat.le_of_ble_eq_true rfl) ?_
        refine a_iload_n 1 dX9_brings_81 rfl ?_
        refine a_aload_n 0 dX9_brings_82 rfl ?_
        refine a_getR (j := 17) dX9_brings_83 KX9 rfl (by decide) rfl kf_RX9_41 ?_
        refine a_iconst dX9_brings_86 ?_
        refine a_iald (x' := 0) dX9_brings_87 rfl (by decide) (by decide) rfl ?_
        refine bp_s h (fun r14 e15 h => ?_)
        refine a_callVI dX9_brings_88 mX9_bringsBy KX9 rfl kv_X9_bringsBy ks_X9_bringsBy rfl km_RX9_218 rfl (T_X9_bringsBy e15) (fun _ => rfl) rfl (Nat.le_of_ble_eq_true rfl) (Nat.le_of_ble_eq_true rfl) ⟨(Nat.le_of_ble_eq_true rfl), (Nat.le_of_ble_eq_true rfl)⟩ (Nat.le_of_ble_eq_true rfl) ?_
        exact a_iret dX9_brings_91 rfl (p_1 h) (p_S (p_2 h))
      · skip
        refine a_icmp_ge 63 dX9_brings_36 (by decide) rfl (by decide) h (fun c16 h => ?_) (fun c16 h => ?_)
        · skip
          have hh := hK8 _ h
          exact a_sub [0, 1] rfl hh
        · skip
          refine a_aload_n 0 dX9_brings_39 rfl ?_
          refine a_getR (j := 18) dX9_brings_40 KX9 rfl (by decide) rfl kf_RX9_44 ?_
          refine a_iconst dX9_brings_43 ?_
          refine a_zald (x' := 0) dX9_brings_44 rfl (by decide) (by decide) rfl ?_
          refine jn_s (fun q17 : Unit => aW G cX9_brings RX9 "brings" 2 (some .int) (sR 7 0 0) (aQ G (some .int) 0 0 (r_0, (mkSh q_0 x_0, s_0))) aX 0 0 (mkSh q_0 x_0, σ) [] 60 []) h (fun q17 h => ?_) (fun K18 hK18 h => ?_)
          · skip
            refine a_ldc (z := -1000000) dX9_brings_60 kc_RX9_242 (by decide) ?_
            exact a_iret dX9_brings_62 rfl (p_1 h) (p_S (p_2 h))
          · skip
            refine a_if_ne 60 dX9_brings_45 (by decide) rfl h (fun c19 h => ?_) (fun c19 h => ?_)
            · skip
              have hh := hK18 _ h
              exact a_sub [] rfl hh
            · skip
              refine a_aload_n 0 dX9_brings_48 rfl ?_
              refine a_aload_n 0 dX9_brings_49 rfl ?_
              refine bp_s h (fun r20 e21 h => ?_)
              refine a_callVI dX9_brings_50 mX9_stateNow KX9 rfl kv_X9_stateNow ks_X9_stateNow rfl km_RX9_192 rfl (T_X9_stateNow e21) (fun _ => rfl) rfl (Nat.le_of_ble_eq_true rfl) (Nat.le_of_ble_eq_true rfl) ⟨(Nat.le_of_ble_eq_true rfl), (Nat.le_of_ble_eq_true rfl)⟩ (Nat.le_of_ble_eq_true rfl) ?_
              refine a_iload_n 1 dX9_brings_53 rfl ?_
              refine bp_s h (fun r22 e23 h => ?_)
              refine a_callVI dX9_brings_54 mX9_mayDo KX9 rfl kv_X9_mayDo ks_X9_mayDo rfl km_RX9_215 rfl (T_X9_mayDo e23) (fun _ => rfl) rfl (Nat.le_of_ble_eq_true rfl) (Nat.le_of_ble_eq_true rfl) ⟨(Nat.le_of_ble_eq_true rfl), (Nat.le_of_ble_eq_true rfl)⟩ (Nat.le_of_ble_eq_true rfl) ?_
              refine a_if_ne 63 dX9_brings_57 (by decide) rfl h (fun c24 h => ?_) (fun c24 h => ?_)
              · skip
                have hh := hK8 _ h
                exact a_sub [0, 1] rfl hh
              · skip
                have hh := hK18 _ h
                exact a_sub [] rfl hh
    · skip
      refine a_iload_n 1 dX9_brings_20 rfl ?_
      refine a_bipush dX9_brings_21 (by decide) ?_
      refine a_icmp_ne 30 dX9_brings_23 (by decide) rfl (by decide) h (fun c25 h => ?_) (fun c25 h => ?_)
      · skip
        refine a_ldc (z := -1000000) dX9_brings_30 kc_RX9_242 (by decide) ?_
        exact a_iret dX9_brings_32 rfl (p_1 h) (p_S (p_2 h))
      · skip
        refine a_iconst dX9_brings_26 ?_
        refine a_goto 32 dX9_brings_27 (by decide) ?_
        exact a_iret dX9_brings_32 rfl (p_1 h) (p_S (p_2 h))
  · skip
    refine a_ldc (z := -1000000) dX9_brings_10 kc_RX9_242 (by decide) ?_
    exact a_iret dX9_brings_12 rfl (p_1 h) (p_S (p_2 h))

def X9_play (F : Nat) (σ : sM) (a1 : Int) : Option (Int × sM) := bp (X9_isRule σ a1) (fun r1 => if ¬ wi r1 = 0 then lp (fun K5 (q4 : sM × Int) => bp (X9_isOver q4.1) (fun r6 => if ¬ wi r6 = 0 then some (q4.2, q4.1) else bn (X9_chooseNow F q4.1 a1) (fun r9 σ11 => jn (fun q12 : sM × Int => bn (X9_goNext F q12.1) (fun r14 σ16 => K5 (σ16, q4.2 + q12.2))) (fun K13 => if ¬ wi r9 = 6 then if 3 ≤ wi r9 then bn (X9_sell F σ11 (r9 - 3)) (fun r19 σ21 => K13 (σ21, r19)) else bn (X9_eat F σ11 r9) (fun r22 σ24 => K13 (σ24, r22)) else K13 (σ11, 0))))) F (σ, 0) else some ((-1), σ))
set_option maxRecDepth 100000 in
set_option maxHeartbeats 400000 in
theorem T_X9_play {G : sG} {q_0 : qT} {x_0 : List Nat} {σ s_0 : sM} {r_0 : Int} {a1 : Int} {F : Nat}  (h : X9_play F σ a1 = some (r_0, s_0)) : aM G yX9_play cX9_play 5 (some .int) 8 0 0 [.ref (gP G 55), vI a1] (mkSh q_0 x_0, σ) (r_0, (mkSh q_0 x_0, s_0)) := by
  unfold X9_play at h
  refine aM_of (by decide) (Nat.le_of_ble_eq_true rfl) ?_
  show aW G cX9_play RX9 "play" 5 (some .int) _ _ aX 0 0 _ [(0, .ref (gP G 55)), (1, vI a1)] 0 []
  refine a_iload_n 1 dX9_play_0 rfl ?_
  refine bp_s h (fun r1 e2 h => ?_)
  refine a_callSI dX9_play_1 mX9_isRule kv_X9_isRule km_RX9_233 rfl (T_X9_isRule e2) (fun _ => rfl) rfl (Nat.le_of_ble_eq_true rfl) (Nat.le_of_ble_eq_true rfl) ⟨(Nat.le_of_ble_eq_true rfl), (Nat.le_of_ble_eq_true rfl)⟩ (Nat.le_of_ble_eq_true rfl) ?_
  refine a_if_ne 9 dX9_play_4 (by decide) rfl h (fun c3 h => ?_) (fun c3 h => ?_)
  · skip
    refine a_iconst dX9_play_9 ?_
    refine a_istore_n (L' := [(2, vI 0), (0, .ref (gP G 55)), (1, vI a1)]) dX9_play_10 (by decide) rfl ?_
    refine a_sub (L' := [(0, .ref (gP G 55)), (1, vI a1), (2, vI 0)]) [1, 2, 0] rfl (lp_s (x := (σ, 0)) (fun q4 : sM × Int => aW G cX9_play RX9 "play" 5 (some .int) (sR 8 0 0) (aQ G (some .int) 0 0 (r_0, (mkSh q_0 x_0, s_0))) aX 0 0 (mkSh q_0 x_0, q4.1) [(0, .ref (gP G 55)), (1, vI a1), (2, vI q4.2)] 11 []) h (fun K5 hK5 q4 h => ?_))
    refine a_aload_n 0 dX9_play_11 rfl ?_
    refine bp_s h (fun r6 e7 h => ?_)
    refine a_callVI dX9_play_12 mX9_isOver KX9 rfl kv_X9_isOver ks_X9_isOver rfl km_RX9_188 rfl (T_X9_isOver e7) (fun _ => rfl) rfl (Nat.le_of_ble_eq_true rfl) (Nat.le_of_ble_eq_true rfl) ⟨(Nat.le_of_ble_eq_true rfl), (Nat.le_of_ble_eq_true rfl)⟩ (Nat.le_of_ble_eq_true rfl) ?_
    refine a_if_ne 69 dX9_play_15 (by decide) rfl h (fun c8 h => ?_) (fun c8 h => ?_)
    · skip
      refine a_iload_n 2 dX9_play_69 rfl ?_
      exact a_iret dX9_play_70 rfl (p_1 h) (p_S (p_2 h))
    · skip
      refine a_aload_n 0 dX9_play_18 rfl ?_
      refine a_iload_n 1 dX9_play_19 rfl ?_
      refine bn_s h (fun r9 σ11 e10 h => ?_)
      refine a_callVI dX9_play_20 mX9_chooseNow KX9 rfl kv_X9_chooseNow ks_X9_chooseNow rfl km_RX9_230 rfl (T_X9_chooseNow e10) (fun _ => rfl) rfl (Nat.le_of_ble_eq_true rfl) (Nat.le_of_ble_eq_true rfl) ⟨(Nat.le_of_ble_eq_true rfl), (Nat.le_of_ble_eq_true rfl)⟩ (Nat.le_of_ble_eq_true rfl) ?_
      refine a_istore_n (L' := [(3, vI r9), (0, .ref (gP G 55)), (1, vI a1), (2, vI q4.2)]) dX9_play_23 (by decide) rfl ?_
      refine a_iload_n 0 dX9_play_24 rfl ?_
      refine a_bipush dX9_play_25 (by decide) ?_
      refine jn_s (fun q12 : sM × Int => aW G cX9_play RX9 "play" 5 (some .int) (sR 8 0 0) (aQ G (some .int) 0 0 (r_0, (mkSh q_0 x_0, s_0))) aX 0 0 (mkSh q_0 x_0, q12.1) [(0, .ref (gP G 55)), (1, vI a1), (2, vI q4.2)] 54 [vI q12.2]) h (fun q12 h => ?_) (fun K13 hK13 h => ?_)
      · skip
        refine a_istore (L' := [(4, vI q12.2), (0, .ref (gP G 55)), (1, vI a1), (2, vI q4.2)]) dX9_play_54 (by decide) rfl ?_
        refine a_iload_n 3 dX9_play_56 rfl ?_
        refine a_iload 0 dX9_play_57 rfl ?_
        refine a_iadd dX9_play_59 ?_
        refine a_istore_n (L' := [(2, vI (q4.2 + q12.2)), (4, vI q12.2), (0, .ref (gP G 55)), (1, vI a1)]) dX9_play_60 (by decide) rfl ?_
        refine a_aload_n 2 dX9_play_61 rfl ?_
        refine bn_s h (fun r14 σ16 e15 h => ?_)
        refine a_callVI dX9_play_62 mX9_goNext KX9 rfl kv_X9_goNext ks_X9_goNext rfl km_RX9_196 rfl (T_X9_goNext e15) (fun _ => rfl) rfl (Nat.le_of_ble_eq_true rfl) (Nat.le_of_ble_eq_true rfl) ⟨(Nat.le_of_ble_eq_true rfl), (Nat.le_of_ble_eq_true rfl)⟩ (Nat.le_of_ble_eq_true rfl) ?_
        refine a_popI dX9_play_65 ?_
        refine a_goto 11 dX9_play_66 (by decide) ?_
        have hh := hK5 _ h
        exact a_sub [2, 3, 0] rfl hh
      · skip
        refine a_icmp_ne 34 dX9_play_27 (by decide) rfl (by decide) h (fun c17 h => ?_) (fun c17 h => ?_)
        · skip
          refine a_iload_n 0 dX9_play_34 rfl ?_
          refine a_iconst dX9_play_35 ?_
          refine a_icmp_ge 47 dX9_play_36 (by decide) rfl (by decide) h (fun c18 h => ?_) (fun c18 h => ?_)
          · skip
            refine a_aload_n 1 dX9_play_47 rfl ?_
            refine a_iload_n 0 dX9_play_48 rfl ?_
            refine a_iconst dX9_play_49 ?_
            refine a_isub dX9_play_50 ?_
            refine bn_s h (fun r19 σ21 e20 h => ?_)
            refine a_callVI dX9_play_51 mX9_sell KX9 rfl kv_X9_sell ks_X9_sell rfl km_RX9_246 rfl (T_X9_sell e20) (fun _ => rfl) rfl (Nat.le_of_ble_eq_true rfl) (Nat.le_of_ble_eq_true rfl) ⟨(Nat.le_of_ble_eq_true rfl), (Nat.le_of_ble_eq_true rfl)⟩ (Nat.le_of_ble_eq_true rfl) ?_
            have hh := hK13 _ h
            exact a_sub [1, 2, 3] rfl hh
          · skip
            refine a_aload_n 1 dX9_play_39 rfl ?_
            refine a_iload_n 0 dX9_play_40 rfl ?_
            refine bn_s h (fun r22 σ24 e23 h => ?_)
            refine a_callVI dX9_play_41 mX9_eat KX9 rfl kv_X9_eat ks_X9_eat rfl km_RX9_243 rfl (T_X9_eat e23) (fun _ => rfl) rfl (Nat.le_of_ble_eq_true rfl) (Nat.le_of_ble_eq_true rfl) ⟨(Nat.le_of_ble_eq_true rfl), (Nat.le_of_ble_eq_true rfl)⟩ (Nat.le_of_ble_eq_true rfl) ?_
            refine a_goto 54 dX9_play_44 (by decide) ?_
            have hh := hK13 _ h
            exact a_sub [1, 2, 3] rfl hh
        · skip
          refine a_iconst dX9_play_30 ?_
          refine a_goto 54 dX9_play_31 (by decide) ?_
          have hh := hK13 _ h
          exact a_sub [1, 2, 3] rfl hh
  · skip
    refine a_iconst dX9_play_7 ?_
    exact a_iret dX9_play_8 rfl (p_1 h) (p_S (p_2 h))

def X9_findRow (F : Nat) (σ : sM) : Option (Int × sM) := bp (X9_firstWeek σ) (fun r1 => lp (fun K4 (q3 : sM × Int) => if wi (q3.1 58 0) ≤ wi q3.2 then if 0 < wi ((σ 59 0) - r1) then lp (fun K8 (q7 : sM × Int × Int × Int) => if wi q7.2.2.2 < 0 then some (q7.2.1, q7.1) else bp (X9_firstWeek q7.1) (fun r10 => if 0 ≤ wi q7.2.2.2 ∧ wi q7.2.2.2 < 8 then jn (fun q13 : sM × Int => if 0 ≤ wi q7.2.2.2 ∧ wi q7.2.2.2 < 8 then if 0 ≤ wi q7.2.2.2 ∧ wi q7.2.2.2 < 8 then lp (fun K18 (q17 : sM) => if 0 ≤ wi q7.2.2.2 ∧ wi q7.2.2.2 < 8 then jn (fun q20 : Unit => if 0 ≤ wi q7.2.2.2 ∧ wi q7.2.2.2 < 8 then jn (fun q23 : sM × Int × Int × Int => K8 (q23.1, q23.2.1, q23.2.2.1, q23.2.2.2)) (fun K24 => if wi (q17 80 (wi q7.2.2.2).toNat) ≤ 3 then if 0 ≤ wi q7.2.2.2 ∧ wi q7.2.2.2 < 8 then jn (fun q27 : sM × Int => if ¬ wi q7.2.2.2 = wi (((σ 59 0) - r1) - 1) then if 0 ≤ wi (q7.2.2.2 + 1) ∧ wi (q7.2.2.2 + 1) < 8 then K24 ((sU q27.1 80 (wi (q7.2.2.2 + 1)).toNat (-1)), q7.2.1, q13.2 + q27.2, q7.2.2.2 + 1) else none else if wi (q13.2 + q27.2) ≤ wi q7.2.1 then K24 (q27.1, q7.2.1, q13.2 + q27.2, q7.2.2.2) else lp (fun K33 (q32 : sM × Int) => if wi ((σ 59 0) - r1) ≤ wi q32.2 then K24 (q32.1, q13.2 + q27.2, q13.2 + q27.2, q7.2.2.2) else if 0 ≤ wi q32.2 ∧ wi q32.2 < 8 then jn (fun q36 : Int => if 0 ≤ wi q32.2 ∧ wi q32.2 < 8 then K33 ((sU q32.1 81 (wi q32.2).toNat q36), q32.2 + 1) else none) (fun K37 => if ¬ wi (q32.1 80 (wi q32.2).toNat) = 3 then if 0 ≤ wi q32.2 ∧ wi q32.2 < 8 then K37 (q32.1 80 (wi q32.2).toNat) else none else K37 6) else none) F (q27.1, 0)) (fun K28 => if 3 ≤ wi (q17 80 (wi q7.2.2.2).toNat) then K28 (q17, 0) else if 0 ≤ wi q7.2.2.2 ∧ wi q7.2.2.2 < 8 then bn (X9_eatBlind q17 (q17 80 (wi q7.2.2.2).toNat) (r10 + q7.2.2.2)) (fun r43 σ45 => K28 (σ45, r43)) else none) else none else K24 (q17, q7.2.1, q13.2, q7.2.2.2 + (-1))) else none) (fun K21 => if 3 ≤ wi (q17 80 (wi q7.2.2.2).toNat) then K21 () else if 0 ≤ wi q7.2.2.2 ∧ wi q7.2.2.2 < 8 then bp (X9_mayBlind F q17 (q17 80 (wi q7.2.2.2).toNat)) (fun r48 => if ¬ wi r48 = 0 then K21 () else if 0 ≤ wi q7.2.2.2 ∧ wi q7.2.2.2 < 8 then if 0 ≤ wi q7.2.2.2 ∧ wi q7.2.2.2 < 8 then K18 (sU q17 80 (wi q7.2.2.2).toNat ((q17 80 (wi q7.2.2.2).toNat) + 1)) else none else none) else none) else none) F (sU q13.1 80 (wi q7.2.2.2).toNat ((q13.1 80 (wi q7.2.2.2).toNat) + 1)) else none else none) (fun K14 => if wi (q7.1 80 (wi q7.2.2.2).toNat) < 0 then K14 (q7.1, q7.2.2.1) else if 0 ≤ wi q7.2.2.2 ∧ wi q7.2.2.2 < 8 then if 3 ≤ wi (q7.1 80 (wi q7.2.2.2).toNat) then K14 (q7.1, q7.2.2.1) else if 0 ≤ wi q7.2.2.2 ∧ wi q7.2.2.2 < 8 then bn (X9_undo q7.1 (q7.1 80 (wi q7.2.2.2).toNat) (r10 + q7.2.2.2)) (fun r57 σ59 => K14 (σ59, q7.2.2.1 - r57)) else none else none) else none)) F ((sU q3.1 80 0 (-1)), (-1), 0, 0) else some (0, (sU q3.1 80 0 (-1))) else if 0 ≤ wi q3.2 ∧ wi q3.2 < 9 then if 0 ≤ wi q3.2 ∧ wi q3.2 < 3 then if 0 ≤ wi q3.2 ∧ wi q3.2 < 9 then if 0 ≤ wi q3.2 ∧ wi q3.2 < 6 then jn (fun q64 : Int => if 0 ≤ wi q3.2 ∧ wi q3.2 < 3 then lp (fun K68 (q67 : sM × Int) => if 8 < wi q67.2 then K4 (q67.1, q3.2 + 1) else bp (X9_firstWeek q67.1) (fun r70 => lp (fun K73 (q72 : sM × Int) => if wi (q72.1 59 0) ≤ wi q72.2 then K68 (q72.1, q67.2 + 1) else jn (fun q75 : sM × Int => if 0 ≤ wi (((72 * q3.2) + (8 * q67.2)) + q72.2) ∧ wi (((72 * q3.2) + (8 * q67.2)) + q72.2) < 216 then K73 ((sU q75.1 79 (wi (((72 * q3.2) + (8 * q67.2)) + q72.2)).toNat q75.2), q72.2 + 1) else none) (fun K76 => jn (fun q78 : Unit => bn (X9_gainOf F q72.1 q3.2 q67.2 q72.2) (fun r80 σ82 => K76 (σ82, r80))) (fun K79 => if wi q67.2 = 8 then K79 () else if wi q72.2 < wi q67.2 then K76 (q72.1, 0) else K79 ()))) F (q67.1, r70))) F ((sU (sU q3.1 83 (wi q3.2).toNat (q3.1 72 (wi q3.2).toNat)) 82 (wi q3.2).toNat q64), 0) else none) (fun K65 => if wi ((sU q3.1 83 (wi q3.2).toNat (q3.1 72 (wi q3.2).toNat)) 63 (wi q3.2).toNat) ≤ wi ((sU q3.1 83 (wi q3.2).toNat (q3.1 72 (wi q3.2).toNat)) 72 (wi q3.2).toNat) then K65 (-9) else K65 8) else none else none else none else none) F (σ, 0))
set_option maxRecDepth 100000 in
set_option maxHeartbeats 400000 in
theorem T_X9_findRow {G : sG} {q_0 : qT} {x_0 : List Nat} {σ s_0 : sM} {r_0 : Int} {F : Nat}  (h : X9_findRow F σ = some (r_0, s_0)) : aM G yX9_findRow cX9_findRow 7 (some .int) 4 0 0 [.ref (gP G 55)] (mkSh q_0 x_0, σ) (r_0, (mkSh q_0 x_0, s_0)) := by
  unfold X9_findRow at h
  refine aM_of (by decide) (Nat.le_of_ble_eq_true rfl) ?_
  show aW G cX9_findRow RX9 "findRow" 7 (some .int) _ _ aX 0 0 _ [(0, .ref (gP G 55))] 0 []
  refine a_aload_n 0 dX9_findRow_0 rfl ?_
  refine a_getR (j := 5) dX9_findRow_1 KX9 rfl (by decide) rfl kf_RX9_20 ?_
  refine a_iconst dX9_findRow_4 ?_
  refine a_iald (x' := 0) dX9_findRow_5 rfl (by decide) (by decide) rfl ?_
  refine a_aload_n 0 dX9_findRow_6 rfl ?_
  refine bp_s h (fun r1 e2 h => ?_)
  refine a_callVI dX9_findRow_7 mX9_firstWeek KX9 rfl kv_X9_firstWeek ks_X9_firstWeek rfl km_RX9_255 rfl (T_X9_firstWeek e2) (fun _ => rfl) rfl (Nat.le_of_ble_eq_true rfl) (Nat.le_of_ble_eq_true rfl) ⟨(Nat.le_of_ble_eq_true rfl), (Nat.le_of_ble_eq_true rfl)⟩ (Nat.le_of_ble_eq_true rfl) ?_
  refine a_isub dX9_findRow_10 ?_
  refine a_istore_n (L' := [(1, vI ((σ 59 0) - r1)), (0, .ref (gP G 55))]) dX9_findRow_11 (by decide) rfl ?_
  refine a_iconst dX9_findRow_12 ?_
  refine a_istore_n (L' := [(2, vI 0), (1, vI ((σ 59 0) - r1)), (0, .ref (gP G 55))]) dX9_findRow_13 (by decide) rfl ?_
  refine a_sub (L' := [(0, .ref (gP G 55)), (1, vI ((σ 59 0) - r1)), (2, vI 0)]) [2, 1, 0] rfl (lp_s (x := (σ, 0)) (fun q3 : sM × Int => aW G cX9_findRow RX9 "findRow" 7 (some .int) (sR 4 0 0) (aQ G (some .int) 0 0 (r_0, (mkSh q_0 x_0, s_0))) aX 0 0 (mkSh q_0 x_0, q3.1) [(0, .ref (gP G 55)), (1, vI ((σ 59 0) - r1)), (2, vI q3.2)] 14 []) h (fun K4 hK4 q3 h => ?_))
  refine a_iload_n 2 dX9_findRow_14 rfl ?_
  refine a_aload_n 0 dX9_findRow_15 rfl ?_
  refine a_getR (j := 4) dX9_findRow_16 KX9 rfl (by decide) rfl kf_RX9_17 ?_
  refine a_iconst dX9_findRow_19 ?_
  refine a_iald (x' := 0) dX9_findRow_20 rfl (by decide) (by decide) rfl ?_
  refine a_icmp_ge 148 dX9_findRow_21 (by decide) rfl rfl h (fun c5 h => ?_) (fun c5 h => ?_)
  · skip
    refine a_iconst dX9_findRow_148 ?_
    refine a_istore_n (L' := [(2, vI (-1)), (0, .ref (gP G 55)), (1, vI ((σ 59 0) - r1))]) dX9_findRow_149 (by decide) rfl ?_
    refine a_iconst dX9_findRow_150 ?_
    refine a_istore_n (L' := [(3, vI 0), (2, vI (-1)), (0, .ref (gP G 55)), (1, vI ((σ 59 0) - r1))]) dX9_findRow_151 (by decide) rfl ?_
    refine a_iconst dX9_findRow_152 ?_
    refine a_istore (L' := [(4, vI 0), (3, vI 0), (2, vI (-1)), (0, .ref (gP G 55)), (1, vI ((σ 59 0) - r1))]) dX9_findRow_153 (by decide) rfl ?_
    refine a_aload_n 3 dX9_findRow_155 rfl ?_
    refine a_getR (j := 31) dX9_findRow_156 KX9 rfl (by decide) rfl kf_RX9_84 ?_
    refine a_iconst dX9_findRow_159 ?_
    refine a_iconst dX9_findRow_160 ?_
    refine a_iast (x' := 0) dX9_findRow_161 rfl (by decide) (by decide) rfl ?_
    refine a_iload_n 4 dX9_findRow_162 rfl ?_
    refine a_if_gt 168 dX9_findRow_163 (by decide) rfl h (fun c6 h => ?_) (fun c6 h => ?_)
    · skip
      refine a_sub (L' := [(0, .ref (gP G 55)), (1, vI ((σ 59 0) - r1)), (2, vI (-1)), (3, vI 0), (4, vI 0)]) [3, 4, 2, 1, 0] rfl (lp_s (x := ((sU q3.1 80 0 (-1)), (-1), 0, 0)) (fun q7 : sM × Int × Int × Int => aW G cX9_findRow RX9 "findRow" 7 (some .int) (sR 4 0 0) (aQ G (some .int) 0 0 (r_0, (mkSh q_0 x_0, s_0))) aX 0 0 (mkSh q_0 x_0, q7.1) [(0, .ref (gP G 55)), (1, vI ((σ 59 0) - r1)), (2, vI q7.2.1), (3, vI q7.2.2.1), (4, vI q7.2.2.2)] 168 []) h (fun K8 hK8 q7 h => ?_))
      refine a_iload 4 dX9_findRow_168 rfl ?_
      refine a_if_lt 394 dX9_findRow_170 (by decide) rfl h (fun c9 h => ?_) (fun c9 h => ?_)
      · skip
        refine a_iload_n 2 dX9_findRow_394 rfl ?_
        exact a_iret dX9_findRow_395 rfl (p_1 h) (p_S (p_2 h))
      · skip
        refine a_aload_n 0 dX9_findRow_173 rfl ?_
        refine bp_s h (fun r10 e11 h => ?_)
        refine a_callVI dX9_findRow_174 mX9_firstWeek KX9 rfl kv_X9_firstWeek ks_X9_firstWeek rfl km_RX9_255 rfl (T_X9_firstWeek e11) (fun _ => rfl) rfl (Nat.le_of_ble_eq_true rfl) (Nat.le_of_ble_eq_true rfl) ⟨(Nat.le_of_ble_eq_true rfl), (Nat.le_of_ble_eq_true rfl)⟩ (Nat.le_of_ble_eq_true rfl) ?_
        refine a_iload 4 dX9_findRow_177 rfl ?_
        refine a_iadd dX9_findRow_179 ?_
        refine a_istore (L' := [(5, vI (r10 + q7.2.2.2)), (0, .ref (gP G 55)), (1, vI ((σ 59 0) - r1)), (2, vI q7.2.1), (3, vI q7.2.2.1), (4, vI q7.2.2.2)]) dX9_findRow_180 (by decide) rfl ?_
        refine a_aload_n 1 dX9_findRow_182 rfl ?_
        refine a_getR (j := 31) dX9_findRow_183 KX9 rfl (by decide) rfl kf_RX9_84 ?_
        refine a_iload 5 dX9_findRow_186 rfl ?_
        refine a_gd h (fun c12 h => ?_)
        refine a_iald (x' := wi q7.2.2.2) dX9_findRow_188 rfl rfl c12 rfl ?_
        refine jn_s (fun q13 : sM × Int => aW G cX9_findRow RX9 "findRow" 7 (some .int) (sR 4 0 0) (aQ G (some .int) 0 0 (r_0, (mkSh q_0 x_0, s_0))) aX 0 0 (mkSh q_0 x_0, q13.1) [(0, .ref (gP G 55)), (1, vI ((σ 59 0) - r1)), (2, vI q7.2.1), (3, vI q13.2), (4, vI q7.2.2.2), (5, vI (r10 + q7.2.2.2))] 219 []) h (fun q13 h => ?_) (fun K14 hK14 h => ?_)
        · skip
          refine a_aload_n 0 dX9_findRow_219 rfl ?_
          refine a_getR (j := 31) dX9_findRow_220 KX9 rfl (by decide) rfl kf_RX9_84 ?_
          refine a_iload 4 dX9_findRow_223 rfl ?_
          refine a_dup2 dX9_findRow_225 ?_
          refine a_gd h (fun c15 h => ?_)
          refine a_iald (x' := wi q7.2.2.2) dX9_findRow_226 rfl rfl c15 rfl ?_
          refine a_iconst dX9_findRow_227 ?_
          refine a_iadd dX9_findRow_228 ?_
          refine a_gd h (fun c16 h => ?_)
          refine a_iast (x' := wi q7.2.2.2) dX9_findRow_229 rfl rfl c16 rfl ?_
          refine a_sub (L' := [(0, .ref (gP G 55)), (1, vI ((σ 59 0) - r1)), (2, vI q7.2.1), (3, vI q13.2), (4, vI q7.2.2.2), (5, vI (r10 + q7.2.2.2))]) [0, 1, 2, 3, 4, 5] rfl (lp_s (x := (sU q13.1 80 (wi q7.2.2.2).toNat ((q13.1 80 (wi q7.2.2.2).toNat) + 1))) (fun q17 : sM => aW G cX9_findRow RX9 "findRow" 7 (some .int) (sR 4 0 0) (aQ G (some .int) 0 0 (r_0, (mkSh q_0 x_0, s_0))) aX 0 0 (mkSh q_0 x_0, q17) [(0, .ref (gP G 55)), (1, vI ((σ 59 0) - r1)), (2, vI q7.2.1), (3, vI q13.2), (4, vI q7.2.2.2), (5, vI (r10 + q7.2.2.2))] 230 []) h (fun K18 hK18 q17 h => ?_))
          refine a_aload_n 0 dX9_findRow_230 rfl ?_
          refine a_getR (j := 31) dX9_findRow_231 KX9 rfl (by decide) rfl kf_RX9_84 ?_
          refine a_iload 4 dX9_findRow_234 rfl ?_
          refine a_gd h (fun c19 h => ?_)
          refine a_iald (x' := wi q7.2.2.2) dX9_findRow_236 rfl rfl c19 rfl ?_
          refine a_iconst dX9_findRow_237 ?_
          refine jn_s (fun q20 : Unit => aW G cX9_findRow RX9 "findRow" 7 (some .int) (sR 4 0 0) (aQ G (some .int) 0 0 (r_0, (mkSh q_0 x_0, s_0))) aX 0 0 (mkSh q_0 x_0, q17) [(0, .ref (gP G 55)), (1, vI ((σ 59 0) - r1)), (2, vI q7.2.1), (3, vI q13.2), (4, vI q7.2.2.2), (5, vI (r10 + q7.2.2.2))] 269 []) h (fun q20 h => ?_) (fun K21 hK21 h => ?_)
          · skip
            refine a_aload_n 0 dX9_findRow_269 rfl ?_
            refine a_getR (j := 31) dX9_findRow_270 KX9 rfl (by decide) rfl kf_RX9_84 ?_
            refine a_iload 4 dX9_findRow_273 rfl ?_
            refine a_gd h (fun c22 h => ?_)
            refine a_iald (x' := wi q7.2.2.2) dX9_findRow_275 rfl rfl c22 rfl ?_
            refine a_iconst dX9_findRow_276 ?_
            refine jn_s (fun q23 : sM × Int × Int × Int => aW G cX9_findRow RX9 "findRow" 7 (some .int) (sR 4 0 0) (aQ G (some .int) 0 0 (r_0, (mkSh q_0 x_0, s_0))) aX 0 0 (mkSh q_0 x_0, q23.1) [(0, .ref (gP G 55)), (1, vI ((σ 59 0) - r1)), (2, vI q23.2.1), (3, vI q23.2.2.1), (4, vI q23.2.2.2)] 391 []) h (fun q23 h => ?_) (fun K24 hK24 h => ?_)
            · skip
              refine a_goto 168 dX9_findRow_391 (by decide) ?_
              have hh := hK8 _ h
              exact a_sub [0, 1, 2, 3, 4] rfl hh
            · skip
              refine a_icmp_le 286 dX9_findRow_277 (by decide) rfl (by decide) h (fun c25 h => ?_) (fun c25 h => ?_)
              · skip
                refine a_iload_n 3 dX9_findRow_286 rfl ?_
                refine a_aload_n 0 dX9_findRow_287 rfl ?_
                refine a_getR (j := 31) dX9_findRow_288 KX9 rfl (by decide) rfl kf_RX9_84 ?_
                refine a_iload 4 dX9_findRow_291 rfl ?_
                refine a_gd h (fun c26 h => ?_)
                refine a_iald (x' := wi q7.2.2.2) dX9_findRow_293 rfl rfl c26 rfl ?_
                refine a_iconst dX9_findRow_294 ?_
                refine jn_s (fun q27 : sM × Int => aW G cX9_findRow RX9 "findRow" 7 (some .int) (sR 4 0 0) (aQ G (some .int) 0 0 (r_0, (mkSh q_0 x_0, s_0))) aX 0 0 (mkSh q_0 x_0, q27.1) [(0, .ref (gP G 55)), (1, vI ((σ 59 0) - r1)), (2, vI q7.2.1), (4, vI q7.2.2.2)] 315 [vI q27.2, vI q13.2]) h (fun q27 h => ?_) (fun K28 hK28 h => ?_)
                · skip
                  refine a_iadd dX9_findRow_315 ?_
                  refine a_istore_n (L' := [(3, vI (q13.2 + q27.2)), (0, .ref (gP G 55)), (1, vI ((σ 59 0) - r1)), (2, vI q7.2.1), (4, vI q7.2.2.2)]) dX9_findRow_316 (by decide) rfl ?_
                  refine a_iload 4 dX9_findRow_317 rfl ?_
                  refine a_iload_n 2 dX9_findRow_319 rfl ?_
                  refine a_iconst dX9_findRow_320 ?_
                  refine a_isub dX9_findRow_321 ?_
                  refine a_icmp_ne 380 dX9_findRow_322 (by decide) rfl rfl h (fun c29 h => ?_) (fun c29 h => ?_)
                  · skip
                    refine a_iinc (L' := [(4, vI (q7.2.2.2 + 1)), (3, vI (q13.2 + q27.2)), (0, .ref (gP G 55)), (1, vI ((σ 59 0) - r1)), (2, vI q7.2.1)]) 4 dX9_findRow_380 rfl (by decide) rfl ?_
                    refine a_aload_n 2 dX9_findRow_383 rfl ?_
                    refine a_getR (j := 31) dX9_findRow_384 KX9 rfl (by decide) rfl kf_RX9_84 ?_
                    refine a_iload 0 dX9_findRow_387 rfl ?_
                    refine a_iconst dX9_findRow_389 ?_
                    refine a_gd h (fun c30 h => ?_)
                    refine a_iast (x' := wi (q7.2.2.2 + 1)) dX9_findRow_390 rfl rfl c30 rfl ?_
                    have hh := hK24 _ h
                    exact a_sub [2, 3, 4, 1, 0] rfl hh
                  · skip
                    refine a_iload_n 0 dX9_findRow_325 rfl ?_
                    refine a_iload_n 3 dX9_findRow_326 rfl ?_
                    refine a_icmp_le 391 dX9_findRow_327 (by decide) rfl rfl h (fun c31 h => ?_) (fun c31 h => ?_)
                    · skip
                      have hh := hK24 _ h
                      exact a_sub [1, 2, 3, 0, 4] rfl hh
                    · skip
                      refine a_iload_n 0 dX9_findRow_330 rfl ?_
                      refine a_istore_n (L' := [(2, vI (q13.2 + q27.2)), (3, vI (q13.2 + q27.2)), (0, .ref (gP G 55)), (1, vI ((σ 59 0) - r1)), (4, vI q7.2.2.2)]) dX9_findRow_331 (by decide) rfl ?_
                      refine a_iconst dX9_findRow_332 ?_
                      refine a_istore (L' := [(6, vI 0), (2, vI (q13.2 + q27.2)), (3, vI (q13.2 + q27.2)), (0, .ref (gP G 55)), (1, vI ((σ 59 0) - r1)), (4, vI q7.2.2.2)]) dX9_findRow_333 (by decide) rfl ?_
                      refine a_sub (L' := [(0, .ref (gP G 55)), (1, vI ((σ 59 0) - r1)), (2, vI (q13.2 + q27.2)), (3, vI (q13.2 + q27.2)), (4, vI q7.2.2.2), (6, vI 0)]) [3, 4, 1, 2, 5, 0] rfl (lp_s (x := (q27.1, 0)) (fun q32 : sM × Int => aW G cX9_findRow RX9 "findRow" 7 (some .int) (sR 4 0 0) (aQ G (some .int) 0 0 (r_0, (mkSh q_0 x_0, s_0))) aX 0 0 (mkSh q_0 x_0, q32.1) [(0, .ref (gP G 55)), (1, vI ((σ 59 0) - r1)), (2, vI (q13.2 + q27.2)), (3, vI (q13.2 + q27.2)), (4, vI q7.2.2.2), (6, vI q32.2)] 335 []) h (fun K33 hK33 q32 h => ?_))
                      refine a_iload 5 dX9_findRow_335 rfl ?_
                      refine a_iload_n 1 dX9_findRow_337 rfl ?_
                      refine a_icmp_ge 377 dX9_findRow_338 (by decide) rfl rfl h (fun c34 h => ?_) (fun c34 h => ?_)
                      · skip
                        refine a_goto 391 dX9_findRow_377 (by decide) ?_
                        have hh := hK24 _ h
                        exact a_sub [0, 1, 2, 3, 4] rfl hh
                      · skip
                        refine a_aload_n 0 dX9_findRow_341 rfl ?_
                        refine a_getR (j := 32) dX9_findRow_342 KX9 rfl (by decide) rfl kf_RX9_87 ?_
                        refine a_iload 5 dX9_findRow_345 rfl ?_
                        refine a_aload_n 0 dX9_findRow_347 rfl ?_
                        refine a_getR (j := 31) dX9_findRow_348 KX9 rfl (by decide) rfl kf_RX9_84 ?_
                        refine a_iload 5 dX9_findRow_351 rfl ?_
                        refine a_gd h (fun c35 h => ?_)
                        refine a_iald (x' := wi q32.2) dX9_findRow_353 rfl rfl c35 rfl ?_
                        refine a_iconst dX9_findRow_354 ?_
                        refine jn_s (fun q36 : Int => aW G cX9_findRow RX9 "findRow" 7 (some .int) (sR 4 0 0) (aQ G (some .int) 0 0 (r_0, (mkSh q_0 x_0, s_0))) aX 0 0 (mkSh q_0 x_0, q32.1) [(0, .ref (gP G 55)), (1, vI ((σ 59 0) - r1)), (2, vI (q13.2 + q27.2)), (3, vI (q13.2 + q27.2)), (4, vI q7.2.2.2), (6, vI q32.2)] 370 [vI q36, vI q32.2, .ref (gP G 81)]) h (fun q36 h => ?_) (fun K37 hK37 h => ?_)
                        · skip
                          refine a_gd h (fun c38 h => ?_)
                          refine a_iast (x' := wi q32.2) dX9_findRow_370 rfl rfl c38 rfl ?_
                          refine a_iinc (L' := [(6, vI (q32.2 + 1)), (0, .ref (gP G 55)), (1, vI ((σ 59 0) - r1)), (2, vI (q13.2 + q27.2)), (3, vI (q13.2 + q27.2)), (4, vI q7.2.2.2)]) 5 dX9_findRow_371 rfl (by decide) rfl ?_
                          refine a_goto 335 dX9_findRow_374 (by decide) ?_
                          have hh := hK33 _ h
                          exact a_sub [1, 2, 3, 4, 5, 0] rfl hh
                        · skip
                          refine a_icmp_ne 363 dX9_findRow_355 (by decide) rfl (by decide) h (fun c39 h => ?_) (fun c39 h => ?_)
                          · skip
                            refine a_aload_n 0 dX9_findRow_363 rfl ?_
                            refine a_getR (j := 31) dX9_findRow_364 KX9 rfl (by decide) rfl kf_RX9_84 ?_
                            refine a_iload 5 dX9_findRow_367 rfl ?_
                            refine a_gd h (fun c40 h => ?_)
                            refine a_iald (x' := wi q32.2) dX9_findRow_369 rfl rfl c40 rfl ?_
                            have hh := hK37 _ h
                            exact a_sub [0, 1, 2, 3, 4, 5] rfl hh
                          · skip
                            refine a_bipush dX9_findRow_358 (by decide) ?_
                            refine a_goto 370 dX9_findRow_360 (by decide) ?_
                            have hh := hK37 _ h
                            exact a_sub [0, 1, 2, 3, 4, 5] rfl hh
                · skip
                  refine a_icmp_ge 314 dX9_findRow_295 (by decide) rfl (by decide) h (fun c41 h => ?_) (fun c41 h => ?_)
                  · skip
                    refine a_iconst dX9_findRow_314 ?_
                    have hh := hK28 _ h
                    exact a_sub [0, 1, 2, 4] rfl hh
                  · skip
                    refine a_aload_n 0 dX9_findRow_298 rfl ?_
                    refine a_aload_n 0 dX9_findRow_299 rfl ?_
                    refine a_getR (j := 31) dX9_findRow_300 KX9 rfl (by decide) rfl kf_RX9_84 ?_
                    refine a_iload 4 dX9_findRow_303 rfl ?_
                    refine a_gd h (fun c42 h => ?_)
                    refine a_iald (x' := wi q7.2.2.2) dX9_findRow_305 rfl rfl c42 rfl ?_
                    refine a_iload 5 dX9_findRow_306 rfl ?_
                    refine bn_s h (fun r43 σ45 e44 h => ?_)
                    refine a_callVI dX9_findRow_308 mX9_eatBlind KX9 rfl kv_X9_eatBlind ks_X9_eatBlind rfl km_RX9_267 rfl (T_X9_eatBlind e44) (fun _ => rfl) rfl (Nat.le_of_ble_eq_true rfl) (Nat.le_of_ble_eq_true rfl) ⟨(Nat.le_of_ble_eq_true rfl), (Nat.le_of_ble_eq_true rfl)⟩ (Nat.le_of_ble_eq_true rfl) ?_
                    refine a_goto 315 dX9_findRow_311 (by decide) ?_
                    have hh := hK28 _ h
                    exact a_sub [0, 1, 2, 4] rfl hh
              · skip
                refine a_iinc (L' := [(4, vI (q7.2.2.2 + (-1))), (0, .ref (gP G 55)), (1, vI ((σ 59 0) - r1)), (2, vI q7.2.1), (3, vI q13.2), (5, vI (r10 + q7.2.2.2))]) 4 dX9_findRow_280 rfl (by decide) rfl ?_
                refine a_goto 391 dX9_findRow_283 (by decide) ?_
                have hh := hK24 _ h
                exact a_sub [1, 2, 3, 4, 0] rfl hh
          · skip
            refine a_icmp_ge 269 dX9_findRow_238 (by decide) rfl (by decide) h (fun c46 h => ?_) (fun c46 h => ?_)
            · skip
              have hh := hK21 _ h
              exact a_sub [0, 1, 2, 3, 4, 5] rfl hh
            · skip
              refine a_aload_n 0 dX9_findRow_241 rfl ?_
              refine a_aload_n 0 dX9_findRow_242 rfl ?_
              refine a_getR (j := 31) dX9_findRow_243 KX9 rfl (by decide) rfl kf_RX9_84 ?_
              refine a_iload 4 dX9_findRow_246 rfl ?_
              refine a_gd h (fun c47 h => ?_)
              refine a_iald (x' := wi q7.2.2.2) dX9_findRow_248 rfl rfl c47 rfl ?_
              refine bp_s h (fun r48 e49 h => ?_)
              refine a_callVI dX9_findRow_249 mX9_mayBlind KX9 rfl kv_X9_mayBlind ks_X9_mayBlind rfl km_RX9_264 rfl (T_X9_mayBlind e49) (fun _ => rfl) rfl (Nat.le_of_ble_eq_true rfl) (Nat.le_of_ble_eq_true rfl) ⟨(Nat.le_of_ble_eq_true rfl), (Nat.le_of_ble_eq_true rfl)⟩ (Nat.le_of_ble_eq_true rfl) ?_
              refine a_if_ne 269 dX9_findRow_252 (by decide) rfl h (fun c50 h => ?_) (fun c50 h => ?_)
              · skip
                have hh := hK21 _ h
                exact a_sub [0, 1, 2, 3, 4, 5] rfl hh
              · skip
                refine a_aload_n 0 dX9_findRow_255 rfl ?_
                refine a_getR (j := 31) dX9_findRow_256 KX9 rfl (by decide) rfl kf_RX9_84 ?_
                refine a_iload 4 dX9_findRow_259 rfl ?_
                refine a_dup2 dX9_findRow_261 ?_
                refine a_gd h (fun c51 h => ?_)
                refine a_iald (x' := wi q7.2.2.2) dX9_findRow_262 rfl rfl c51 rfl ?_
                refine a_iconst dX9_findRow_263 ?_
                refine a_iadd dX9_findRow_264 ?_
                refine a_gd h (fun c52 h => ?_)
                refine a_iast (x' := wi q7.2.2.2) dX9_findRow_265 rfl rfl c52 rfl ?_
                refine a_goto 230 dX9_findRow_266 (by decide) ?_
                have hh := hK18 _ h
                exact a_sub [0, 1, 2, 3, 4, 5] rfl hh
        · skip
          refine a_if_lt 219 dX9_findRow_189 (by decide) rfl h (fun c53 h => ?_) (fun c53 h => ?_)
          · skip
            have hh := hK14 _ h
            exact a_sub [1, 2, 3, 4, 5, 0] rfl hh
          · skip
            refine a_aload_n 1 dX9_findRow_192 rfl ?_
            refine a_getR (j := 31) dX9_findRow_193 KX9 rfl (by decide) rfl kf_RX9_84 ?_
            refine a_iload 5 dX9_findRow_196 rfl ?_
            refine a_gd h (fun c54 h => ?_)
            refine a_iald (x' := wi q7.2.2.2) dX9_findRow_198 rfl rfl c54 rfl ?_
            refine a_iconst dX9_findRow_199 ?_
            refine a_icmp_ge 219 dX9_findRow_200 (by decide) rfl (by decide) h (fun c55 h => ?_) (fun c55 h => ?_)
            · skip
              have hh := hK14 _ h
              exact a_sub [1, 2, 3, 4, 5, 0] rfl hh
            · skip
              refine a_iload_n 4 dX9_findRow_203 rfl ?_
              refine a_aload_n 1 dX9_findRow_204 rfl ?_
              refine a_aload_n 1 dX9_findRow_205 rfl ?_
              refine a_getR (j := 31) dX9_findRow_206 KX9 rfl (by decide) rfl kf_RX9_84 ?_
              refine a_iload 5 dX9_findRow_209 rfl ?_
              refine a_gd h (fun c56 h => ?_)
              refine a_iald (x' := wi q7.2.2.2) dX9_findRow_211 rfl rfl c56 rfl ?_
              refine a_iload 0 dX9_findRow_212 rfl ?_
              refine bn_s h (fun r57 σ59 e58 h => ?_)
              refine a_callVI dX9_findRow_214 mX9_undo KX9 rfl kv_X9_undo ks_X9_undo rfl km_RX9_261 rfl (T_X9_undo e58) (fun _ => rfl) rfl (Nat.le_of_ble_eq_true rfl) (Nat.le_of_ble_eq_true rfl) ⟨(Nat.le_of_ble_eq_true rfl), (Nat.le_of_ble_eq_true rfl)⟩ (Nat.le_of_ble_eq_true rfl) ?_
              refine a_isub dX9_findRow_217 ?_
              refine a_istore_n (L' := [(3, vI (q7.2.2.1 - r57)), (5, vI (r10 + q7.2.2.2)), (0, .ref (gP G 55)), (1, vI ((σ 59 0) - r1)), (2, vI q7.2.1), (4, vI q7.2.2.2)]) dX9_findRow_218 (by decide) rfl ?_
              have hh := hK14 _ h
              exact a_sub [2, 3, 4, 0, 5, 1] rfl hh
    · skip
      refine a_iconst dX9_findRow_166 ?_
      exact a_iret dX9_findRow_167 rfl (p_1 h) (p_S (p_2 h))
  · skip
    refine a_aload_n 0 dX9_findRow_24 rfl ?_
    refine a_getR (j := 34) dX9_findRow_25 KX9 rfl (by decide) rfl kf_RX9_93 ?_
    refine a_iload_n 2 dX9_findRow_28 rfl ?_
    refine a_aload_n 0 dX9_findRow_29 rfl ?_
    refine a_getR (j := 23) dX9_findRow_30 KX9 rfl (by decide) rfl kf_RX9_60 ?_
    refine a_iload_n 2 dX9_findRow_33 rfl ?_
    refine a_gd h (fun c60 h => ?_)
    refine a_iald (x' := wi q3.2) dX9_findRow_34 rfl rfl c60 rfl ?_
    refine a_gd h (fun c61 h => ?_)
    refine a_iast (x' := wi q3.2) dX9_findRow_35 rfl rfl c61 rfl ?_
    refine a_aload_n 0 dX9_findRow_36 rfl ?_
    refine a_getR (j := 33) dX9_findRow_37 KX9 rfl (by decide) rfl kf_RX9_90 ?_
    refine a_iload_n 2 dX9_findRow_40 rfl ?_
    refine a_aload_n 0 dX9_findRow_41 rfl ?_
    refine a_getR (j := 23) dX9_findRow_42 KX9 rfl (by decide) rfl kf_RX9_60 ?_
    refine a_iload_n 2 dX9_findRow_45 rfl ?_
    refine a_gd h (fun c62 h => ?_)
    refine a_iald (x' := wi q3.2) dX9_findRow_46 rfl rfl c62 rfl ?_
    refine a_aload_n 0 dX9_findRow_47 rfl ?_
    refine a_getR (j := 9) dX9_findRow_48 KX9 rfl (by decide) rfl kf_RX9_32 ?_
    refine a_iload_n 2 dX9_findRow_51 rfl ?_
    refine a_gd h (fun c63 h => ?_)
    refine a_iald (x' := wi q3.2) dX9_findRow_52 rfl rfl c63 rfl ?_
    refine jn_s (fun q64 : Int => aW G cX9_findRow RX9 "findRow" 7 (some .int) (sR 4 0 0) (aQ G (some .int) 0 0 (r_0, (mkSh q_0 x_0, s_0))) aX 0 0 (mkSh q_0 x_0, (sU q3.1 83 (wi q3.2).toNat (q3.1 72 (wi q3.2).toNat))) [(0, .ref (gP G 55)), (1, vI ((σ 59 0) - r1)), (2, vI q3.2)] 63 [vI q64, vI q3.2, .ref (gP G 82)]) h (fun q64 h => ?_) (fun K65 hK65 h => ?_)
    · skip
      refine a_gd h (fun c66 h => ?_)
      refine a_iast (x' := wi q3.2) dX9_findRow_63 rfl rfl c66 rfl ?_
      refine a_iconst dX9_findRow_64 ?_
      refine a_istore_n (L' := [(3, vI 0), (0, .ref (gP G 55)), (1, vI ((σ 59 0) - r1)), (2, vI q3.2)]) dX9_findRow_65 (by decide) rfl ?_
      refine a_sub (L' := [(0, .ref (gP G 55)), (1, vI ((σ 59 0) - r1)), (2, vI q3.2), (3, vI 0)]) [1, 2, 3, 0] rfl (lp_s (x := ((sU (sU q3.1 83 (wi q3.2).toNat (q3.1 72 (wi q3.2).toNat)) 82 (wi q3.2).toNat q64), 0)) (fun q67 : sM × Int => aW G cX9_findRow RX9 "findRow" 7 (some .int) (sR 4 0 0) (aQ G (some .int) 0 0 (r_0, (mkSh q_0 x_0, s_0))) aX 0 0 (mkSh q_0 x_0, q67.1) [(0, .ref (gP G 55)), (1, vI ((σ 59 0) - r1)), (2, vI q3.2), (3, vI q67.2)] 66 []) h (fun K68 hK68 q67 h => ?_))
      refine a_iload_n 3 dX9_findRow_66 rfl ?_
      refine a_bipush dX9_findRow_67 (by decide) ?_
      refine a_icmp_gt 142 dX9_findRow_69 (by decide) rfl (by decide) h (fun c69 h => ?_) (fun c69 h => ?_)
      · skip
        refine a_iinc (L' := [(2, vI (q3.2 + 1)), (0, .ref (gP G 55)), (1, vI ((σ 59 0) - r1)), (3, vI q67.2)]) 2 dX9_findRow_142 rfl (by decide) rfl ?_
        refine a_goto 14 dX9_findRow_145 (by decide) ?_
        have hh := hK4 _ h
        exact a_sub [1, 2, 0] rfl hh
      · skip
        refine a_aload_n 0 dX9_findRow_72 rfl ?_
        refine bp_s h (fun r70 e71 h => ?_)
        refine a_callVI dX9_findRow_73 mX9_firstWeek KX9 rfl kv_X9_firstWeek ks_X9_firstWeek rfl km_RX9_255 rfl (T_X9_firstWeek e71) (fun _ => rfl) rfl (Nat.le_of_ble_eq_true rfl) (Nat.le_of_ble_eq_true rfl) ⟨(Nat.le_of_ble_eq_true rfl), (Nat.le_of_ble_eq_true rfl)⟩ (Nat.le_of_ble_eq_true rfl) ?_
        refine a_istore (L' := [(4, vI r70), (0, .ref (gP G 55)), (1, vI ((σ 59 0) - r1)), (2, vI q3.2), (3, vI q67.2)]) dX9_findRow_76 (by decide) rfl ?_
        refine a_sub (L' := [(0, .ref (gP G 55)), (1, vI ((σ 59 0) - r1)), (2, vI q3.2), (3, vI q67.2), (4, vI r70)]) [1, 2, 3, 4, 0] rfl (lp_s (x := (q67.1, r70)) (fun q72 : sM × Int => aW G cX9_findRow RX9 "findRow" 7 (some .int) (sR 4 0 0) (aQ G (some .int) 0 0 (r_0, (mkSh q_0 x_0, s_0))) aX 0 0 (mkSh q_0 x_0, q72.1) [(0, .ref (gP G 55)), (1, vI ((σ 59 0) - r1)), (2, vI q3.2), (3, vI q67.2), (4, vI q72.2)] 78 []) h (fun K73 hK73 q72 h => ?_))
        refine a_iload 4 dX9_findRow_78 rfl ?_
        refine a_aload_n 0 dX9_findRow_80 rfl ?_
        refine a_getR (j := 5) dX9_findRow_81 KX9 rfl (by decide) rfl kf_RX9_20 ?_
        refine a_iconst dX9_findRow_84 ?_
        refine a_iald (x' := 0) dX9_findRow_85 rfl (by decide) (by decide) rfl ?_
        refine a_icmp_ge 136 dX9_findRow_86 (by decide) rfl rfl h (fun c74 h => ?_) (fun c74 h => ?_)
        · skip
          refine a_iinc (L' := [(3, vI (q67.2 + 1)), (0, .ref (gP G 55)), (1, vI ((σ 59 0) - r1)), (2, vI q3.2), (4, vI q72.2)]) 3 dX9_findRow_136 rfl (by decide) rfl ?_
          refine a_goto 66 dX9_findRow_139 (by decide) ?_
          have hh := hK68 _ h
          exact a_sub [1, 2, 3, 0] rfl hh
        · skip
          refine a_aload_n 0 dX9_findRow_89 rfl ?_
          refine a_getR (j := 30) dX9_findRow_90 KX9 rfl (by decide) rfl kf_RX9_81 ?_
          refine a_bipush dX9_findRow_93 (by decide) ?_
          refine a_iload_n 2 dX9_findRow_95 rfl ?_
          refine a_imul dX9_findRow_96 ?_
          refine a_bipush dX9_findRow_97 (by decide) ?_
          refine a_iload_n 3 dX9_findRow_99 rfl ?_
          refine a_imul dX9_findRow_100 ?_
          refine a_iadd dX9_findRow_101 ?_
          refine a_iload 4 dX9_findRow_102 rfl ?_
          refine a_iadd dX9_findRow_104 ?_
          refine a_iload_n 3 dX9_findRow_105 rfl ?_
          refine a_bipush dX9_findRow_106 (by decide) ?_
          refine jn_s (fun q75 : sM × Int => aW G cX9_findRow RX9 "findRow" 7 (some .int) (sR 4 0 0) (aQ G (some .int) 0 0 (r_0, (mkSh q_0 x_0, s_0))) aX 0 0 (mkSh q_0 x_0, q75.1) [(0, .ref (gP G 55)), (1, vI ((σ 59 0) - r1)), (2, vI q3.2), (3, vI q67.2), (4, vI q72.2)] 129 [vI q75.2, vI (((72 * q3.2) + (8 * q67.2)) + q72.2), .ref (gP G 79)]) h (fun q75 h => ?_) (fun K76 hK76 h => ?_)
          · skip
            refine a_gd h (fun c77 h => ?_)
            refine a_iast (x' := wi (((72 * q3.2) + (8 * q67.2)) + q72.2)) dX9_findRow_129 rfl rfl c77 rfl ?_
            refine a_iinc (L' := [(4, vI (q72.2 + 1)), (0, .ref (gP G 55)), (1, vI ((σ 59 0) - r1)), (2, vI q3.2), (3, vI q67.2)]) 4 dX9_findRow_130 rfl (by decide) rfl ?_
            refine a_goto 78 dX9_findRow_133 (by decide) ?_
            have hh := hK73 _ h
            exact a_sub [1, 2, 3, 4, 0] rfl hh
          · skip
            refine jn_s (fun q78 : Unit => aW G cX9_findRow RX9 "findRow" 7 (some .int) (sR 4 0 0) (aQ G (some .int) 0 0 (r_0, (mkSh q_0 x_0, s_0))) aX 0 0 (mkSh q_0 x_0, q72.1) [(0, .ref (gP G 55)), (1, vI ((σ 59 0) - r1)), (2, vI q3.2), (3, vI q67.2), (4, vI q72.2)] 117 [vI (((72 * q3.2) + (8 * q67.2)) + q72.2), .ref (gP G 79)]) h (fun q78 h => ?_) (fun K79 hK79 h => ?_)
            · skip
              refine a_aload_n 0 dX9_findRow_117 rfl ?_
              refine a_iload_n 2 dX9_findRow_118 rfl ?_
              refine a_iload_n 3 dX9_findRow_119 rfl ?_
              refine a_iload 4 dX9_findRow_120 rfl ?_
              refine bn_s h (fun r80 σ82 e81 h => ?_)
              refine a_callVI dX9_findRow_122 mX9_gainOf KX9 rfl kv_X9_gainOf ks_X9_gainOf rfl km_RX9_258 rfl (T_X9_gainOf e81) (fun _ => rfl) rfl (Nat.le_of_ble_eq_true rfl) (Nat.le_of_ble_eq_true rfl) ⟨(Nat.le_of_ble_eq_true rfl), (Nat.le_of_ble_eq_true rfl)⟩ (Nat.le_of_ble_eq_true rfl) ?_
              refine a_goto 129 dX9_findRow_125 (by decide) ?_
              have hh := hK76 _ h
              exact a_sub [0, 1, 2, 3, 4] rfl hh
            · skip
              refine a_icmp_eq 117 dX9_findRow_108 (by decide) rfl (by decide) h (fun c83 h => ?_) (fun c83 h => ?_)
              · skip
                have hh := hK79 _ h
                exact a_sub [0, 1, 2, 3, 4] rfl hh
              · skip
                refine a_iload_n 3 dX9_findRow_111 rfl ?_
                refine a_iload 4 dX9_findRow_112 rfl ?_
                refine a_icmp_gt 128 dX9_findRow_114 (by decide) rfl rfl h (fun c84 h => ?_) (fun c84 h => ?_)
                · skip
                  refine a_iconst dX9_findRow_128 ?_
                  have hh := hK76 _ h
                  exact a_sub [0, 1, 2, 3, 4] rfl hh
                · skip
                  have hh := hK79 _ h
                  exact a_sub [0, 1, 2, 3, 4] rfl hh
    · skip
      refine a_icmp_ge 61 dX9_findRow_53 (by decide) rfl rfl h (fun c85 h => ?_) (fun c85 h => ?_)
      · skip
        refine a_bipush dX9_findRow_61 (by decide) ?_
        have hh := hK65 _ h
        exact a_sub [0, 1, 2] rfl hh
      · skip
        refine a_bipush dX9_findRow_56 (by decide) ?_
        refine a_goto 63 dX9_findRow_58 (by decide) ?_
        have hh := hK65 _ h
        exact a_sub [0, 1, 2] rfl hh

