/-! THE CLAIM OUT OF ONE WALK OF THE LAW'S BODY. Your part is whole_start (and what it stands on); all else here is the same for every law, but numbers. -/
def R_law : String := "CheeseFirstLaw"
def lw_P (b : Addr) (xs : List Int32) (args : Array Value) (s : State) : Prop := args = #[.ref b] ∧ s.IntsAt b xs ∧ xs.length ≤ 2560 ∧ (Jvm.Cond.and given_1 narrow_1).before args s = true
def lw_Q (_ : Array Value) (s : State) (o : Outcome) (t : State) : Prop := o = .returned (some (.int 1)) ∧ Framed s o t [] 600000 7302250
def lw_Z (below : List Frame) (a : Array Value) (s : State) : State → Prop := fun t => ∃ o, t.status = .running ∧ Ended t below o ∧ lw_Q a s o t
/-- the law's own end, with 1 on the stack, nothing written that was there before, its room as the claim has it -/
theorem lw_ret {p : Program} {l : Launch} {e : Env} {s : State} {m : MethodId} {below : List Frame} {meth : Method} {c : Code} {b : Nat} (hx : p.tables.exec = Jvm.exec) (hb : c.code = code) (hr : meth.sig.returnType = ret) (hlocks : meth.locks = false) {pc : Nat} {H : Heap} {ls : Array Slot} (hdg : decode code pc = .ok (.ireturn, 1)) : W p l e room_1 s m #[Value.ref b] below meth c H [] 600000 7302250 (lw_Z below #[Value.ref b] s) (F0 m pc ls [.int 1]) := by
  intro T hT X
  obtain ⟨fs, hret, hrun, hended, hW, hframe⟩ := X.leave (v := some (.int 1)) (hlocks := hlocks) (fun h => by rw [hr] at h; cases h)
  have hmeth' : T.vm.method? m = some meth := X.method'
  refine ⟨T.setFrames fs, ?_, .returned (some (.int 1)), hrun, hended, rfl, ⟨_, rfl⟩, hW, hframe⟩
  jvm_step X.here [X.here.top, hx, hb, hdg, hmeth', hr, ret, narrow_b1]
  (try refine ⟨rfl, ?_⟩); (try refine ⟨rfl, ?_⟩)
  first | (intro acts; rw [hret _ acts rfl rfl rfl]) | rw [hret _ _ rfl rfl rfl]
  exact Steps.refl _
/-- what holds at the law's entry: the machine, the code, the tables' words (any of lw_tbl by 'hts w (by decide +kernel)'), the script of L ints xs at the cell b, what the Statement gives of the start (any of its parts by flat_of_before) -/
def lw_At (p : Program) (s : State) (m : MethodId) (meth : Method) (c : Code) (b L : Nat) (xs : Nat → Int32) : Prop :=
  p.tables.exec = Jvm.exec ∧ c.code = code ∧ meth.sig.returnType = ret ∧ c.maxLocals = 4 ∧ s.vm.findClass R_law = some m.cls ∧ (∀ w ∈ lw_tbl, w.before #[Value.ref b] s = true) ∧ va_X b L xs s s.heap ∧ b < s.heap.size ∧ meth.locks = false ∧ (Jvm.Cond.and given_1 narrow_1).before #[Value.ref b] s = true
def lawQ : List Frame → Array Value → State → State → Prop := fun below args s => lw_Z below args s
def lawX (G : sG) (b Ls : Nat) (xs : Nat → Int32) : State → Array Value → Prop := fun s args => s.heap.size = gB G ∧ args = #[Value.ref b] ∧ va_X b Ls xs s s.heap ∧ b < s.heap.size
theorem law_len {q : qT} {x : List Nat} {σ : sM} (h : x.length ≤ 500 ∧ x.sum ≤ 950000) : (mkSh q x, σ).1.length ≤ 600 := by
  show (mkSh q x).length ≤ 600
  rw [mkSh_len]; omega
/-- how many slots the cells have, in the order of making, and told -/
def phZ : List Nat := [14, 400, 9, 4, 14, 14, 14, 14, 3, 3, 8, 8, 9, 4, 14, 14, 14, 14, 3, 3, 8, 8, 9, 401, 401, 401, 8, 8, 8, 9, 48, 0, 0, 0, 9, 48, 0, 0, 0, 16, 1, 4, 1, 4, 192, 9, 3, 8, 8, 1, 4, 4, 1, 4, 1, 4, 2, 38, 400, 2, 2, 2, 2, 112, 6, 6, 16, 16, 3, 3, 3, 3, 3, 9, 9, 9, 2, 4096, 4096, 4096, 4096, 216, 8, 8, 3, 3, 4, 8]
def loZ : List Nat := [14, 400, 9, 4, 14, 14, 14, 14, 3, 3, 8, 8, 9, 4, 14, 14, 14, 14, 3, 3, 8, 8, 9, 401, 401, 401, 8, 8, 8, 9, 0, 0, 0, 9, 0, 0, 0, 16, 1, 4, 1, 4, 192, 9, 3, 8, 8, 1, 4, 4, 1, 4, 1, 4, 2, 38, 400, 2, 2, 2, 2, 112, 6, 6, 16, 16, 3, 3, 3, 3, 3, 9, 9, 9, 2, 4096, 4096, 4096, 4096, 216, 8, 8, 3, 3, 4, 8, 48, 48]
def lgA (k : Nat) : Nat := if k < 30 ∨ 88 ≤ k then k else if k = 30 then 86 else if k = 35 then 87 else if k < 35 then k - 1 else k - 2
theorem pm_lg (k : Nat) : pmT (lgA k) = k := by
  unfold lgA pmT
  repeat' split
  all_goals omega
theorem lg_lt {k : Nat} (h : k < 88) : lgA k < 88 := by
  unfold lgA
  repeat' split
  all_goals omega
theorem loZ_ph : ∀ i, i < 88 → loZ[lgA i]? = phZ[i]? := by decide +kernel
theorem mkSh_szs (q : qT) (x : List Nat) : (mkSh q x).map szE = loZ ++ x := by
  unfold mkSh
  rw [List.map_append, List.map_map]
  have e : (szE ∘ fun n => (Sum.inr (FieldType.long, n, gN) : sE)) = id := funext fun _ => rfl
  rw [e, List.map_id]
  rfl
theorem law_zl (q : qT) (x : List Nat) {σ : sM} : (phZ ++ x).length = (mkSh q x, σ).1.length := by
  show (phZ ++ x).length = (mkSh q x).length
  rw [mkSh_len, List.length_append]; rfl
theorem law_z {G : sG} (hG : gF G = true) (q : qT) (x : List Nat) {σ : sM} : ∀ i, i < (mkSh q x, σ).1.length → ∃ k9, gP G k9 = gB G + i ∧ ((mkSh q x, σ).1[k9]?).map szE = (phZ ++ x)[i]? := by
  intro i hi
  have e : ∀ k9 : Nat, ((mkSh q x, σ).1[k9]?).map szE = (loZ ++ x)[k9]? := fun k9 => by rw [← mkSh_szs q x, List.getElem?_map]
  have l1 : loZ.length = 88 := rfl
  have l2 : phZ.length = 88 := rfl
  by_cases h : i < 88
  · refine ⟨lgA i, ?_, ?_⟩
    · unfold gP; rw [hG]; show gB G + pmT (lgA i) = _; rw [pm_lg]
    · rw [e, List.getElem?_append_left (by rw [l1]; exact lg_lt h), List.getElem?_append_left (by rw [l2]; exact h), loZ_ph i h]
  · refine ⟨i, gP_b G (by omega), ?_⟩
    rw [e, List.getElem?_append_right (by rw [l1]; omega), List.getElem?_append_right (by rw [l2]; omega), l1, l2]
theorem law_sum {x : List Nat} (h : x.length ≤ 500 ∧ x.sum ≤ 950000) : (phZ ++ x).sum ≤ 1000000 := by
  rw [List.sum_append, show phZ.sum = 19493 by decide +kernel]; omega
section LAWR
variable {G : sG} {mn_0 : String} {b Ls : Nat} {xs : Nat → Int32} {k n : Nat} {S : sS} {L : List (Nat × Value)} {pc : Nat} {st : List Value}
theorem a_scr {x x' : Int} (hd : decode cL_law pc = .ok (.iaload, 1)) (hx : wi x = x') (hb : 0 ≤ x' ∧ x' < (Ls : Int)) (kk : aW G cL_law RL mn_0 4 (some .boolean) room_1 lawQ (lawX G b Ls xs) k n S L (pc + 1) (vI (xs x'.toNat).toInt :: st)) : aW G cL_law RL mn_0 4 (some .boolean) room_1 lawQ (lawX G b Ls xs) k n S L pc (vI x :: .ref b :: st) := by
  intro p e s m args below meth c C H locs ls hH hS hl
  obtain ⟨h1, h2, h3, h4⟩ := C.2.2.2.2.2.2.2.2.2.2.2
  refine va_sld C.1 C.2.1 h3 h4 (by show ¬ gB G ≤ b; omega) hS (vp_in_iff.mpr (by show 0 ≤ wi x ∧ wi x < (Ls : Int); rw [hx]; exact hb)) hd ?_
  have h9 := kk p e s m args below meth c C H locs ls hH hS hl
  have e9 : vI (xs x'.toNat).toInt = Value.int (xs x'.toNat) := congrArg Value.int (oi_ti _)
  rw [e9] at h9
  rw [oi_cl, hx]
  exact h9
theorem a_scl (hd : decode cL_law pc = .ok (.arraylength, 1)) (kk : aW G cL_law RL mn_0 4 (some .boolean) room_1 lawQ (lawX G b Ls xs) k n S L (pc + 1) (vI (Ls : Int) :: st)) : aW G cL_law RL mn_0 4 (some .boolean) room_1 lawQ (lawX G b Ls xs) k n S L pc (.ref b :: st) := by
  intro p e s m args below meth c C H locs ls hH hS hl
  obtain ⟨h1, h2, h3, h4⟩ := C.2.2.2.2.2.2.2.2.2.2.2
  exact va_slen C.1 C.2.1 h3 h4 (by show ¬ gB G ≤ b; omega) hS hd (kk p e s m args below meth c C H locs ls hH hS hl)
theorem law_ret (hd : decode cL_law pc = .ok (.ireturn, 1)) : aW G cL_law RL mn_0 4 (some .boolean) room_1 lawQ (lawX G b Ls xs) 600000 7302250 S L pc [vI 1] := by
  intro p e s m args below meth c C H locs ls hH hS hl
  obtain ⟨h1, h2, h3, h4⟩ := C.2.2.2.2.2.2.2.2.2.2.2
  subst h2
  refine va_forget (fun q hq => by rw [h1]; exact hS.2.2 q hq) ?_
  exact lw_ret C.1 C.2.1 C.2.2.1 C.2.2.2.2.2.2.1 hd
end LAWR
def L_law (F : Nat) (xs : Nat → Int32) (Ls : Nat) (q_0 : qT) (x_0 : List Nat) (σ : sM) : Option Unit := lp (fun K2 (q1 : (qT × List Nat × sM) × Int) => if q1.1.2.1.length ≤ 500 ∧ q1.1.2.1.sum ≤ 950000 then if wi ((Ls : Int) - 5) < wi q1.2 then some () else if 0 ≤ wi q1.2 ∧ wi q1.2 < (Ls : Int) then jn (fun q6 : (qT × List Nat × sM) => K2 ((q6.1, q6.2.1, q6.2.2), q1.2 + 5)) (fun K7 => if wi (q_and ((xs (wi q1.2).toNat).toInt) 31) = 0 then if 0 ≤ wi (q1.2 + 1) ∧ wi (q1.2 + 1) < (Ls : Int) then if 0 ≤ wi (q1.2 + 2) ∧ wi (q1.2 + 2) < (Ls : Int) then if 0 ≤ wi (q1.2 + 3) ∧ wi (q1.2 + 3) < (Ls : Int) then bn (X8_type F q1.1.2.2 (q_lor (q_lshl (wi ((xs (wi (q1.2 + 1)).toNat).toInt)) 32) (q_land (wi ((xs (wi (q1.2 + 2)).toNat).toInt)) 4294967295)) ((xs (wi (q1.2 + 3)).toNat).toInt)) (fun r12 σ14 => if 0 ≤ wi (q1.2 + 1) ∧ wi (q1.2 + 1) < (Ls : Int) then if 0 ≤ wi (q1.2 + 2) ∧ wi (q1.2 + 2) < (Ls : Int) then if 0 ≤ wi (q1.2 + 3) ∧ wi (q1.2 + 3) < (Ls : Int) then bn (X9_type F σ14 (q_lor (q_lshl (wi ((xs (wi (q1.2 + 1)).toNat).toInt)) 32) (q_land (wi ((xs (wi (q1.2 + 2)).toNat).toInt)) 4294967295)) ((xs (wi (q1.2 + 3)).toNat).toInt)) (fun r18 σ20 => if wi r12 = wi r18 then K7 (q1.1.1, q1.1.2.1, σ20) else none) else none else none else none) else none else none else none else if wi (q_and ((xs (wi q1.2).toNat).toInt) 31) = 1 then bn (X8_clear q1.1.2.2) (fun r23 σ25 => bn (X9_clear σ25) (fun r26 σ28 => if wi r23 = wi r26 then K7 (q1.1.1, q1.1.2.1, σ28) else none)) else if wi (q_and ((xs (wi q1.2).toNat).toInt) 31) = 2 then bn (X8_cellar F q1.1.2.2) (fun r31 σ33 => bn (X9_cellar F σ33) (fun r34 σ36 => if wi r31 = wi r34 then K7 (q1.1.1, q1.1.2.1, σ36) else none)) else if wi (q_and ((xs (wi q1.2).toNat).toInt) 31) = 3 then if 0 ≤ wi (q1.2 + 1) ∧ wi (q1.2 + 1) < (Ls : Int) then if 0 ≤ wi (q1.2 + 2) ∧ wi (q1.2 + 2) < (Ls : Int) then bp (X8_sort q1.1.2.2 ((xs (wi (q1.2 + 1)).toNat).toInt) ((xs (wi (q1.2 + 2)).toNat).toInt)) (fun r41 => if 0 ≤ wi (q1.2 + 1) ∧ wi (q1.2 + 1) < (Ls : Int) then if 0 ≤ wi (q1.2 + 2) ∧ wi (q1.2 + 2) < (Ls : Int) then bp (X9_sort q1.1.2.2 ((xs (wi (q1.2 + 1)).toNat).toInt) ((xs (wi (q1.2 + 2)).toNat).toInt)) (fun r45 => if wi r41 = wi r45 then K7 (q1.1.1, q1.1.2.1, q1.1.2.2) else none) else none else none) else none else none else if wi (q_and ((xs (wi q1.2).toNat).toInt) 31) = 4 then if 0 ≤ wi (q1.2 + 1) ∧ wi (q1.2 + 1) < (Ls : Int) then if 0 ≤ wi (q1.2 + 2) ∧ wi (q1.2 + 2) < (Ls : Int) then bp (X8_wheel q1.1.2.2 ((xs (wi (q1.2 + 1)).toNat).toInt) ((xs (wi (q1.2 + 2)).toNat).toInt)) (fun r51 => if 0 ≤ wi (q1.2 + 1) ∧ wi (q1.2 + 1) < (Ls : Int) then if 0 ≤ wi (q1.2 + 2) ∧ wi (q1.2 + 2) < (Ls : Int) then bp (X9_wheel q1.1.2.2 ((xs (wi (q1.2 + 1)).toNat).toInt) ((xs (wi (q1.2 + 2)).toNat).toInt)) (fun r55 => if wi r51 = wi r55 then K7 (q1.1.1, q1.1.2.1, q1.1.2.2) else none) else none else none) else none else none else if wi (q_and ((xs (wi q1.2).toNat).toInt) 31) = 5 then if 0 ≤ wi (q1.2 + 1) ∧ wi (q1.2 + 1) < (Ls : Int) then if 0 ≤ wi (q1.2 + 2) ∧ wi (q1.2 + 2) < (Ls : Int) then bp (X8_week q1.1.2.2 ((xs (wi (q1.2 + 1)).toNat).toInt) ((xs (wi (q1.2 + 2)).toNat).toInt)) (fun r61 => if 0 ≤ wi (q1.2 + 1) ∧ wi (q1.2 + 1) < (Ls : Int) then if 0 ≤ wi (q1.2 + 2) ∧ wi (q1.2 + 2) < (Ls : Int) then bp (X9_week q1.1.2.2 ((xs (wi (q1.2 + 1)).toNat).toInt) ((xs (wi (q1.2 + 2)).toNat).toInt)) (fun r65 => if wi r61 = wi r65 then K7 (q1.1.1, q1.1.2.1, q1.1.2.2) else none) else none else none) else none else none else if wi (q_and ((xs (wi q1.2).toNat).toInt) 31) = 6 then if 0 ≤ wi (q1.2 + 1) ∧ wi (q1.2 + 1) < (Ls : Int) then if 0 ≤ wi (q1.2 + 2) ∧ wi (q1.2 + 2) < (Ls : Int) then if 0 ≤ wi (q1.2 + 3) ∧ wi (q1.2 + 3) < (Ls : Int) then bn (X8_place q1.1.2.2 ((xs (wi (q1.2 + 1)).toNat).toInt) ((xs (wi (q1.2 + 2)).toNat).toInt) ((xs (wi (q1.2 + 3)).toNat).toInt)) (fun r72 σ74 => if 0 ≤ wi (q1.2 + 1) ∧ wi (q1.2 + 1) < (Ls : Int) then if 0 ≤ wi (q1.2 + 2) ∧ wi (q1.2 + 2) < (Ls : Int) then if 0 ≤ wi (q1.2 + 3) ∧ wi (q1.2 + 3) < (Ls : Int) then bn (X9_place σ74 ((xs (wi (q1.2 + 1)).toNat).toInt) ((xs (wi (q1.2 + 2)).toNat).toInt) ((xs (wi (q1.2 + 3)).toNat).toInt)) (fun r78 σ80 => if wi r72 = wi r78 then K7 (q1.1.1, q1.1.2.1, σ80) else none) else none else none else none) else none else none else none else if wi (q_and ((xs (wi q1.2).toNat).toInt) 31) = 7 then if 0 ≤ wi (q1.2 + 1) ∧ wi (q1.2 + 1) < (Ls : Int) then bn (X8_eat F q1.1.2.2 ((xs (wi (q1.2 + 1)).toNat).toInt)) (fun r84 σ86 => if 0 ≤ wi (q1.2 + 1) ∧ wi (q1.2 + 1) < (Ls : Int) then bn (X9_eat F σ86 ((xs (wi (q1.2 + 1)).toNat).toInt)) (fun r88 σ90 => if wi r84 = wi r88 then K7 (q1.1.1, q1.1.2.1, σ90) else none) else none) else none else if wi (q_and ((xs (wi q1.2).toNat).toInt) 31) = 8 then if 0 ≤ wi (q1.2 + 1) ∧ wi (q1.2 + 1) < (Ls : Int) then bn (X8_sell F q1.1.2.2 ((xs (wi (q1.2 + 1)).toNat).toInt)) (fun r94 σ96 => if 0 ≤ wi (q1.2 + 1) ∧ wi (q1.2 + 1) < (Ls : Int) then bn (X9_sell F σ96 ((xs (wi (q1.2 + 1)).toNat).toInt)) (fun r98 σ100 => if wi r94 = wi r98 then K7 (q1.1.1, q1.1.2.1, σ100) else none) else none) else none else if wi (q_and ((xs (wi q1.2).toNat).toInt) 31) = 9 then if 0 ≤ wi (q1.2 + 1) ∧ wi (q1.2 + 1) < (Ls : Int) then bn (X8_stop q1.1.2.2 ((xs (wi (q1.2 + 1)).toNat).toInt)) (fun r104 σ106 => if 0 ≤ wi (q1.2 + 1) ∧ wi (q1.2 + 1) < (Ls : Int) then bn (X9_stop σ106 ((xs (wi (q1.2 + 1)).toNat).toInt)) (fun r108 σ110 => if wi r104 = wi r108 then K7 (q1.1.1, q1.1.2.1, σ110) else none) else none) else none else if wi (q_and ((xs (wi q1.2).toNat).toInt) 31) = 10 then bn (X8_next F q1.1.2.2) (fun r113 σ115 => bn (X9_next F σ115) (fun r116 σ118 => if wi r113 = wi r116 then K7 (q1.1.1, q1.1.2.1, σ118) else none)) else if wi (q_and ((xs (wi q1.2).toNat).toInt) 31) = 11 then if 0 ≤ wi (q1.2 + 1) ∧ wi (q1.2 + 1) < (Ls : Int) then bp (X8_now F q1.1.2.2 ((xs (wi (q1.2 + 1)).toNat).toInt)) (fun r122 => if 0 ≤ wi (q1.2 + 1) ∧ wi (q1.2 + 1) < (Ls : Int) then bp (X9_now F q1.1.2.2 ((xs (wi (q1.2 + 1)).toNat).toInt)) (fun r125 => if wi r122 = wi r125 then K7 (q1.1.1, q1.1.2.1, q1.1.2.2) else none) else none) else none else if wi (q_and ((xs (wi q1.2).toNat).toInt) 31) = 12 then if 0 ≤ wi (q1.2 + 1) ∧ wi (q1.2 + 1) < (Ls : Int) then bn (X8_lot q1.1.2.2 ((xs (wi (q1.2 + 1)).toNat).toInt)) (fun r130 σ132 => if 0 ≤ wi (q1.2 + 1) ∧ wi (q1.2 + 1) < (Ls : Int) then bn (X9_lot σ132 ((xs (wi (q1.2 + 1)).toNat).toInt)) (fun r134 σ136 => if wi r130 = wi r134 then K7 (q1.1.1, q1.1.2.1, σ136) else none) else none) else none else if wi (q_and ((xs (wi q1.2).toNat).toInt) 31) = 13 then if 0 ≤ wi (q1.2 + 1) ∧ wi (q1.2 + 1) < (Ls : Int) then bn (X8_value F q1.1.1 q1.1.2.1 q1.1.2.2 ((xs (wi (q1.2 + 1)).toNat).toInt)) (fun r140 σ142 => if 0 ≤ wi (q1.2 + 1) ∧ wi (q1.2 + 1) < (Ls : Int) then bn (X9_value F σ142.2.2 ((xs (wi (q1.2 + 1)).toNat).toInt)) (fun r144 σ146 => if wi r140 = wi r144 then K7 (σ142.1, σ142.2.1, σ146) else none) else none) else none else if wi (q_and ((xs (wi q1.2).toNat).toInt) 31) = 14 then if 0 ≤ wi (q1.2 + 1) ∧ wi (q1.2 + 1) < (Ls : Int) then bn (X8_left F q1.1.1 q1.1.2.1 q1.1.2.2 ((xs (wi (q1.2 + 1)).toNat).toInt)) (fun r150 σ152 => if 0 ≤ wi (q1.2 + 1) ∧ wi (q1.2 + 1) < (Ls : Int) then bn (X9_left F σ152.2.2 ((xs (wi (q1.2 + 1)).toNat).toInt)) (fun r154 σ156 => if wi r150 = wi r154 then K7 (σ152.1, σ152.2.1, σ156) else none) else none) else none else if wi (q_and ((xs (wi q1.2).toNat).toInt) 31) = 15 then if 0 ≤ wi (q1.2 + 1) ∧ wi (q1.2 + 1) < (Ls : Int) then bn (X8_choice F q1.1.1 q1.1.2.1 q1.1.2.2 ((xs (wi (q1.2 + 1)).toNat).toInt)) (fun r160 σ162 => if 0 ≤ wi (q1.2 + 1) ∧ wi (q1.2 + 1) < (Ls : Int) then bn (X9_choice F σ162.2.2 ((xs (wi (q1.2 + 1)).toNat).toInt)) (fun r164 σ166 => if wi r160 = wi r164 then K7 (σ162.1, σ162.2.1, σ166) else none) else none) else none else if wi (q_and ((xs (wi q1.2).toNat).toInt) 31) = 16 then if 0 ≤ wi (q1.2 + 1) ∧ wi (q1.2 + 1) < (Ls : Int) then bn (X8_brings F q1.1.1 q1.1.2.1 q1.1.2.2 ((xs (wi (q1.2 + 1)).toNat).toInt)) (fun r170 σ172 => if 0 ≤ wi (q1.2 + 1) ∧ wi (q1.2 + 1) < (Ls : Int) then bn (X9_brings F σ172.2.2 ((xs (wi (q1.2 + 1)).toNat).toInt)) (fun r174 σ176 => if wi r170 = wi r174 then K7 (σ172.1, σ172.2.1, σ176) else none) else none) else none else if wi (q_and ((xs (wi q1.2).toNat).toInt) 31) = 17 then if 0 ≤ wi (q1.2 + 1) ∧ wi (q1.2 + 1) < (Ls : Int) then bn (X8_play F q1.1.1 q1.1.2.1 q1.1.2.2 ((xs (wi (q1.2 + 1)).toNat).toInt)) (fun r180 σ182 => if 0 ≤ wi (q1.2 + 1) ∧ wi (q1.2 + 1) < (Ls : Int) then bn (X9_play F σ182.2.2 ((xs (wi (q1.2 + 1)).toNat).toInt)) (fun r184 σ186 => if wi r180 = wi r184 then K7 (σ182.1, σ182.2.1, σ186) else none) else none) else none else if wi (q_and ((xs (wi q1.2).toNat).toInt) 31) = 18 then if 0 ≤ wi (q1.2 + 1) ∧ wi (q1.2 + 1) < (Ls : Int) then bn (X8_blind F q1.1.2.2 ((xs (wi (q1.2 + 1)).toNat).toInt)) (fun r190 σ192 => if 0 ≤ wi (q1.2 + 1) ∧ wi (q1.2 + 1) < (Ls : Int) then bn (X9_blind F σ192 ((xs (wi (q1.2 + 1)).toNat).toInt)) (fun r194 σ196 => if wi r190 = wi r194 then K7 (q1.1.1, q1.1.2.1, σ196) else none) else none) else none else if wi (q_and ((xs (wi q1.2).toNat).toInt) 31) = 19 then bn (X8_know F q1.1.1 q1.1.2.1 q1.1.2.2) (fun r199 σ201 => bn (X9_know F σ201.2.2) (fun r202 σ204 => if wi r199 = wi r202 then K7 (σ201.1, σ201.2.1, σ204) else none)) else if wi (q_and ((xs (wi q1.2).toNat).toInt) 31) = 20 then if 0 ≤ wi (q1.2 + 1) ∧ wi (q1.2 + 1) < (Ls : Int) then bn (X8_spare F q1.1.1 q1.1.2.1 q1.1.2.2 ((xs (wi (q1.2 + 1)).toNat).toInt)) (fun r208 σ210 => if 0 ≤ wi (q1.2 + 1) ∧ wi (q1.2 + 1) < (Ls : Int) then bn (X9_spare F σ210.2.2 ((xs (wi (q1.2 + 1)).toNat).toInt)) (fun r212 σ214 => if wi r208 = wi r212 then K7 (σ210.1, σ210.2.1, σ214) else none) else none) else none else if wi (q_and ((xs (wi q1.2).toNat).toInt) 31) = 21 then if 0 ≤ wi (q1.2 + 1) ∧ wi (q1.2 + 1) < (Ls : Int) then if 0 ≤ wi (q1.2 + 2) ∧ wi (q1.2 + 2) < (Ls : Int) then if 0 ≤ wi (q1.2 + 3) ∧ wi (q1.2 + 3) < (Ls : Int) then if 0 ≤ wi (q1.2 + 4) ∧ wi (q1.2 + 4) < (Ls : Int) then bn (X8_stands F q1.1.2.2 ((xs (wi (q1.2 + 1)).toNat).toInt) ((xs (wi (q1.2 + 2)).toNat).toInt) ((xs (wi (q1.2 + 3)).toNat).toInt) ((xs (wi (q1.2 + 4)).toNat).toInt)) (fun r221 σ223 => if 0 ≤ wi (q1.2 + 1) ∧ wi (q1.2 + 1) < (Ls : Int) then if 0 ≤ wi (q1.2 + 2) ∧ wi (q1.2 + 2) < (Ls : Int) then if 0 ≤ wi (q1.2 + 3) ∧ wi (q1.2 + 3) < (Ls : Int) then if 0 ≤ wi (q1.2 + 4) ∧ wi (q1.2 + 4) < (Ls : Int) then bn (X9_stands F σ223 ((xs (wi (q1.2 + 1)).toNat).toInt) ((xs (wi (q1.2 + 2)).toNat).toInt) ((xs (wi (q1.2 + 3)).toNat).toInt) ((xs (wi (q1.2 + 4)).toNat).toInt)) (fun r228 σ230 => if wi (q_lcmp r221 r228) = 0 then K7 (q1.1.1, q1.1.2.1, σ230) else none) else none else none else none else none) else none else none else none else none else if wi (q_and ((xs (wi q1.2).toNat).toInt) 31) = 22 then if 0 ≤ wi (q1.2 + 1) ∧ wi (q1.2 + 1) < (Ls : Int) then bn (X8_thought F q1.1.2.2 ((xs (wi (q1.2 + 1)).toNat).toInt)) (fun r234 σ236 => if 0 ≤ wi (q1.2 + 1) ∧ wi (q1.2 + 1) < (Ls : Int) then bn (X9_thought F σ236 ((xs (wi (q1.2 + 1)).toNat).toInt)) (fun r238 σ240 => if wi r234 = wi r238 then K7 (q1.1.1, q1.1.2.1, σ240) else none) else none) else none else if wi (q_and ((xs (wi q1.2).toNat).toInt) 31) = 23 then bn (X8_aged F q1.1.2.2) (fun r243 σ245 => bn (X9_aged F σ245) (fun r246 σ248 => if wi r243 = wi r246 then K7 (q1.1.1, q1.1.2.1, σ248) else none)) else if wi (q_and ((xs (wi q1.2).toNat).toInt) 31) = 24 then if 0 ≤ wi (q1.2 + 1) ∧ wi (q1.2 + 1) < (Ls : Int) then bn (X8_shown F q1.1.2.2 ((xs (wi (q1.2 + 1)).toNat).toInt)) (fun r252 σ254 => if 0 ≤ wi (q1.2 + 1) ∧ wi (q1.2 + 1) < (Ls : Int) then bn (X9_shown F σ254 ((xs (wi (q1.2 + 1)).toNat).toInt)) (fun r256 σ258 => if wi r252 = wi r256 then K7 (q1.1.1, q1.1.2.1, σ258) else none) else none) else none else if wi (q_and ((xs (wi q1.2).toNat).toInt) 31) = 25 then if 0 ≤ wi (q1.2 + 1) ∧ wi (q1.2 + 1) < (Ls : Int) then if 0 ≤ wi (q1.2 + 2) ∧ wi (q1.2 + 2) < (Ls : Int) then bp (X8_thinks F q1.1.2.2 ((xs (wi (q1.2 + 1)).toNat).toInt) ((xs (wi (q1.2 + 2)).toNat).toInt)) (fun r263 => if 0 ≤ wi (q1.2 + 1) ∧ wi (q1.2 + 1) < (Ls : Int) then if 0 ≤ wi (q1.2 + 2) ∧ wi (q1.2 + 2) < (Ls : Int) then bp (X9_thinks F q1.1.2.2 ((xs (wi (q1.2 + 1)).toNat).toInt) ((xs (wi (q1.2 + 2)).toNat).toInt)) (fun r267 => if wi (q_lcmp r263 r267) = 0 then K7 (q1.1.1, q1.1.2.1, q1.1.2.2) else none) else none else none) else none else none else if wi (q_and ((xs (wi q1.2).toNat).toInt) 31) = 26 then if 0 ≤ wi (q1.2 + 1) ∧ wi (q1.2 + 1) < (Ls : Int) then if 0 ≤ wi (q1.2 + 2) ∧ wi (q1.2 + 2) < (Ls : Int) then bn (X8_note q1.1.2.2 ((xs (wi (q1.2 + 1)).toNat).toInt) ((xs (wi (q1.2 + 2)).toNat).toInt)) (fun r273 σ275 => if 0 ≤ wi (q1.2 + 1) ∧ wi (q1.2 + 1) < (Ls : Int) then if 0 ≤ wi (q1.2 + 2) ∧ wi (q1.2 + 2) < (Ls : Int) then bn (X9_note σ275 ((xs (wi (q1.2 + 1)).toNat).toInt) ((xs (wi (q1.2 + 2)).toNat).toInt)) (fun r278 σ280 => if wi r273 = wi r278 then K7 (q1.1.1, q1.1.2.1, σ280) else none) else none else none) else none else none else if wi (q_and ((xs (wi q1.2).toNat).toInt) 31) = 27 then if 0 ≤ wi (q1.2 + 1) ∧ wi (q1.2 + 1) < (Ls : Int) then bn (X8_keep q1.1.2.2 ((xs (wi (q1.2 + 1)).toNat).toInt)) (fun r284 σ286 => if 0 ≤ wi (q1.2 + 1) ∧ wi (q1.2 + 1) < (Ls : Int) then bn (X9_keep F σ286 ((xs (wi (q1.2 + 1)).toNat).toInt)) (fun r288 σ290 => if wi r284 = wi r288 then K7 (q1.1.1, q1.1.2.1, σ290) else none) else none) else none else if wi (q_and ((xs (wi q1.2).toNat).toInt) 31) = 28 then if 0 ≤ wi (q1.2 + 1) ∧ wi (q1.2 + 1) < (Ls : Int) then bn (X8_back q1.1.2.2 ((xs (wi (q1.2 + 1)).toNat).toInt)) (fun r294 σ296 => if 0 ≤ wi (q1.2 + 1) ∧ wi (q1.2 + 1) < (Ls : Int) then bn (X9_back F σ296 ((xs (wi (q1.2 + 1)).toNat).toInt)) (fun r298 σ300 => if wi r294 = wi r298 then K7 (q1.1.1, q1.1.2.1, σ300) else none) else none) else none else if wi (q_and ((xs (wi q1.2).toNat).toInt) 31) = 29 then if 0 ≤ wi (q1.2 + 1) ∧ wi (q1.2 + 1) < (Ls : Int) then bp (X8_count q1.1.2.2 ((xs (wi (q1.2 + 1)).toNat).toInt)) (fun r304 => if 0 ≤ wi (q1.2 + 1) ∧ wi (q1.2 + 1) < (Ls : Int) then bp (X9_count q1.1.2.2 ((xs (wi (q1.2 + 1)).toNat).toInt)) (fun r307 => if wi r304 = wi r307 then K7 (q1.1.1, q1.1.2.1, q1.1.2.2) else none) else none) else none else if wi (q_and ((xs (wi q1.2).toNat).toInt) 31) = 30 then bp (X8_trace q1.1.2.2) (fun r311 => bp (X9_trace q1.1.2.2) (fun r313 => if wi (q_lcmp r311 r313) = 0 then K7 (q1.1.1, q1.1.2.1, q1.1.2.2) else none)) else K7 (q1.1.1, q1.1.2.1, q1.1.2.2)) else none else none) F ((q_0, x_0, σ), 0)
set_option maxRecDepth 100000 in
set_option maxHeartbeats 4000000 in
theorem T_L_law {G : sG} (hG : gF G = true) {mn_0 : String} {b_0 Ls F : Nat} {xs : Nat → Int32} {q_0 : qT} {x_0 : List Nat} {σ : sM} (h : L_law F xs Ls q_0 x_0 σ = some ()) : aW G cL_law RL mn_0 4 (some .boolean) room_1 lawQ (lawX G b_0 Ls xs) 600 1000000 (mkSh q_0 x_0, σ) [(2, .ref (gP G 55)), (1, .ref (gP G 0)), (0, .ref b_0)] 16 [] := by
  unfold L_law at h
  refine a_iconst dL_law_16 ?_
  refine a_istore_n (L' := [(3, vI 0), (2, .ref (gP G 55)), (1, .ref (gP G 0)), (0, .ref b_0)]) dL_law_17 (by decide) rfl ?_
  refine a_widen (k' := 500000) (n' := 7000000) (by omega) (by omega) ?_
  refine a_sub (L' := [(0, .ref b_0), (1, .ref (gP G 0)), (2, .ref (gP G 55)), (3, vI 0)]) [3, 2, 1, 0] rfl (lp_s (x := ((q_0, x_0, σ), 0)) (fun q1 : (qT × List Nat × sM) × Int => aW G cL_law RL mn_0 4 (some .boolean) room_1 lawQ (lawX G b_0 Ls xs) 500000 7000000 (mkSh q1.1.1 q1.1.2.1, q1.1.2.2) [(0, .ref b_0), (1, .ref (gP G 0)), (2, .ref (gP G 55)), (3, vI q1.2)] 18 []) h (fun K2 hK2 q1 h => ?_))
  refine a_gd h (fun c3 h => ?_)
  refine a_tight (k' := 600) (n' := 1000000) (fun _ _ hx => hx.1) (Zs := phZ ++ q1.1.2.1) (law_zl _ _) (law_z hG _ _) (law_len c3) (law_sum c3) ?_
  refine a_iload_n 3 dL_law_18 rfl ?_
  refine a_aload_n 0 dL_law_19 rfl ?_
  refine a_scl dL_law_20 ?_
  refine a_iconst dL_law_21 ?_
  refine a_isub dL_law_22 ?_
  refine a_icmp_gt 974 dL_law_23 (by decide) rfl rfl h (fun c4 h => ?_) (fun c4 h => ?_)
  · skip
    refine a_iconst dL_law_974 ?_
    refine a_widen (k' := 600000) (n' := 7302250) (by omega) (by omega) ?_
    exact law_ret dL_law_975
  · skip
    refine a_aload_n 0 dL_law_26 rfl ?_
    refine a_iload_n 3 dL_law_27 rfl ?_
    refine a_gd h (fun c5 h => ?_)
    refine a_scr (x' := wi q1.2) dL_law_28 rfl c5 ?_
    refine a_bipush dL_law_29 (by decide) ?_
    refine a_iand dL_law_31 ?_
    refine jn_s (fun q6 : (qT × List Nat × sM) => aW G cL_law RL mn_0 4 (some .boolean) room_1 lawQ (lawX G b_0 Ls xs) 500000 7000000 (mkSh q6.1 q6.2.1, q6.2.2) [(0, .ref b_0), (1, .ref (gP G 0)), (2, .ref (gP G 55)), (3, vI q1.2)] 968 []) h (fun q6 h => ?_) (fun K7 hK7 h => ?_)
    · skip
      refine a_iinc (L' := [(3, vI (q1.2 + 5)), (0, .ref b_0), (1, .ref (gP G 0)), (2, .ref (gP G 55))]) 3 dL_law_968 rfl (by decide) rfl ?_
      refine a_goto 18 dL_law_971 (by decide) ?_
      refine a_widen (k' := 500000) (n' := 7000000) (by omega) (by omega) ?_
      have hh := hK2 _ h
      exact a_sub [1, 2, 3, 0] rfl hh
    · skip
      refine a_if h (fun c8 h => ?_) (fun c8 h => ?_)
      · skip
        refine a_tsIn (off := 140) 172 dL_law_32 c8 (by decide) (by decide) (by decide) ?_
        refine a_aload_n 1 dL_law_172 rfl ?_
        refine a_aload_n 0 dL_law_173 rfl ?_
        refine a_iload_n 3 dL_law_174 rfl ?_
        refine a_iconst dL_law_175 ?_
        refine a_iadd dL_law_176 ?_
        refine a_gd h (fun c9 h => ?_)
        refine a_scr (x' := wi (q1.2 + 1)) dL_law_177 rfl c9 ?_
        refine a_i2l dL_law_178 ?_
        refine a_bipush dL_law_179 (by decide) ?_
        refine a_lshl dL_law_181 ?_
        refine a_aload_n 0 dL_law_182 rfl ?_
        refine a_iload_n 3 dL_law_183 rfl ?_
        refine a_iconst dL_law_184 ?_
        refine a_iadd dL_law_185 ?_
        refine a_gd h (fun c10 h => ?_)
        refine a_scr (x' := wi (q1.2 + 2)) dL_law_186 rfl c10 ?_
        refine a_i2l dL_law_187 ?_
        refine a_ldc2 (z := 4294967295) dL_law_188 kc_RL_13 (by decide) ?_
        refine a_land dL_law_191 ?_
        refine a_lor dL_law_192 ?_
        refine a_aload_n 0 dL_law_193 rfl ?_
        refine a_iload_n 3 dL_law_194 rfl ?_
        refine a_iconst dL_law_195 ?_
        refine a_iadd dL_law_196 ?_
        refine a_gd h (fun c11 h => ?_)
        refine a_scr (x' := wi (q1.2 + 3)) dL_law_197 rfl c11 ?_
        refine bn_s h (fun r12 σ14 e13 h => ?_)
        refine a_callVI dL_law_198 mX8_type KX8 rfl kv_X8_type ks_X8_type rfl km_RL_15 rfl (T_X8_type e13) (fun _ => rfl) rfl (Nat.le_of_ble_eq_true rfl) (Nat.le_of_ble_eq_true rfl) ⟨show 600 + 0 ≤ 600000 by omega, show 1000000 + 0 ≤ 7302250 by omega⟩ (Nat.le_of_ble_eq_true rfl) ?_
        refine a_aload_n 2 dL_law_201 rfl ?_
        refine a_aload_n 0 dL_law_202 rfl ?_
        refine a_iload_n 3 dL_law_203 rfl ?_
        refine a_iconst dL_law_204 ?_
        refine a_iadd dL_law_205 ?_
        refine a_gd h (fun c15 h => ?_)
        refine a_scr (x' := wi (q1.2 + 1)) dL_law_206 rfl c15 ?_
        refine a_i2l dL_law_207 ?_
        refine a_bipush dL_law_208 (by decide) ?_
        refine a_lshl dL_law_210 ?_
        refine a_aload_n 0 dL_law_211 rfl ?_
        refine a_iload_n 3 dL_law_212 rfl ?_
        refine a_iconst dL_law_213 ?_
        refine a_iadd dL_law_214 ?_
        refine a_gd h (fun c16 h => ?_)
        refine a_scr (x' := wi (q1.2 + 2)) dL_law_215 rfl c16 ?_
        refine a_i2l dL_law_216 ?_
        refine a_ldc2 (z := 4294967295) dL_law_217 kc_RL_13 (by decide) ?_
        refine a_land dL_law_220 ?_
        refine a_lor dL_law_221 ?_
        refine a_aload_n 0 dL_law_222 rfl ?_
        refine a_iload_n 3 dL_law_223 rfl ?_
        refine a_iconst dL_law_224 ?_
        refine a_iadd dL_law_225 ?_
        refine a_gd h (fun c17 h => ?_)
        refine a_scr (x' := wi (q1.2 + 3)) dL_law_226 rfl c17 ?_
        refine bn_s h (fun r18 σ20 e19 h => ?_)
        refine a_callVI dL_law_227 mX9_type KX9 rfl kv_X9_type ks_X9_type rfl km_RL_19 rfl (T_X9_type e19) (fun _ => rfl) rfl (Nat.le_of_ble_eq_true rfl) (Nat.le_of_ble_eq_true rfl) ⟨show 600 + 0 + 0 ≤ 600000 by omega, show 1000000 + 0 + 0 ≤ 7302250 by omega⟩ (Nat.le_of_ble_eq_true rfl) ?_
        refine a_icmp_eq 968 dL_law_230 (by decide) rfl rfl h (fun c21 h => ?_) (fun c21 h => ?_)
        · skip
          refine a_widen (k' := 500000) (n' := 7000000) (by omega) (by omega) ?_
          have hh := hK7 _ h
          exact a_sub [0, 1, 2, 3] rfl hh
        · skip
          refine a_iconst dL_law_233 ?_
          cases h
      · skip
        refine a_if h (fun c22 h => ?_) (fun c22 h => ?_)
        · skip
          refine a_tsIn (off := 203) 235 dL_law_32 c22 (by decide) (by decide) (by decide) ?_
          refine a_aload_n 1 dL_law_235 rfl ?_
          refine bn_s h (fun r23 σ25 e24 h => ?_)
          refine a_callVI dL_law_236 mX8_clear KX8 rfl kv_X8_clear ks_X8_clear rfl km_RL_20 rfl (T_X8_clear e24) (fun _ => rfl) rfl (Nat.le_of_ble_eq_true rfl) (Nat.le_of_ble_eq_true rfl) ⟨show 600 + 0 ≤ 600000 by omega, show 1000000 + 0 ≤ 7302250 by omega⟩ (Nat.le_of_ble_eq_true rfl) ?_
          refine a_aload_n 2 dL_law_239 rfl ?_
          refine bn_s h (fun r26 σ28 e27 h => ?_)
          refine a_callVI dL_law_240 mX9_clear KX9 rfl kv_X9_clear ks_X9_clear rfl km_RL_24 rfl (T_X9_clear e27) (fun _ => rfl) rfl (Nat.le_of_ble_eq_true rfl) (Nat.le_of_ble_eq_true rfl) ⟨show 600 + 0 + 0 ≤ 600000 by omega, show 1000000 + 0 + 0 ≤ 7302250 by omega⟩ (Nat.le_of_ble_eq_true rfl) ?_
          refine a_icmp_eq 968 dL_law_243 (by decide) rfl rfl h (fun c29 h => ?_) (fun c29 h => ?_)
          · skip
            refine a_widen (k' := 500000) (n' := 7000000) (by omega) (by omega) ?_
            have hh := hK7 _ h
            exact a_sub [0, 1, 2, 3] rfl hh
          · skip
            refine a_iconst dL_law_246 ?_
            cases h
        · skip
          refine a_if h (fun c30 h => ?_) (fun c30 h => ?_)
          · skip
            refine a_tsIn (off := 216) 248 dL_law_32 c30 (by decide) (by decide) (by decide) ?_
            refine a_aload_n 1 dL_law_248 rfl ?_
            refine bn_s h (fun r31 σ33 e32 h => ?_)
            refine a_callVI dL_law_249 mX8_cellar KX8 rfl kv_X8_cellar ks_X8_cellar rfl km_RL_25 rfl (T_X8_cellar e32) (fun _ => rfl) rfl (Nat.le_of_ble_eq_true rfl) (Nat.le_of_ble_eq_true rfl) ⟨show 600 + 0 ≤ 600000 by omega, show 1000000 + 0 ≤ 7302250 by omega⟩ (Nat.le_of_ble_eq_true rfl) ?_
            refine a_aload_n 2 dL_law_252 rfl ?_
            refine bn_s h (fun r34 σ36 e35 h => ?_)
            refine a_callVI dL_law_253 mX9_cellar KX9 rfl kv_X9_cellar ks_X9_cellar rfl km_RL_28 rfl (T_X9_cellar e35) (fun _ => rfl) rfl (Nat.le_of_ble_eq_true rfl) (Nat.le_of_ble_eq_true rfl) ⟨show 600 + 0 + 0 ≤ 600000 by omega, show 1000000 + 0 + 0 ≤ 7302250 by omega⟩ (Nat.le_of_ble_eq_true rfl) ?_
            refine a_icmp_eq 968 dL_law_256 (by decide) rfl rfl h (fun c37 h => ?_) (fun c37 h => ?_)
            · skip
              refine a_widen (k' := 500000) (n' := 7000000) (by omega) (by omega) ?_
              have hh := hK7 _ h
              exact a_sub [0, 1, 2, 3] rfl hh
            · skip
              refine a_iconst dL_law_259 ?_
              cases h
          · skip
            refine a_if h (fun c38 h => ?_) (fun c38 h => ?_)
            · skip
              refine a_tsIn (off := 229) 261 dL_law_32 c38 (by decide) (by decide) (by decide) ?_
              refine a_aload_n 1 dL_law_261 rfl ?_
              refine a_aload_n 0 dL_law_262 rfl ?_
              refine a_iload_n 3 dL_law_263 rfl ?_
              refine a_iconst dL_law_264 ?_
              refine a_iadd dL_law_265 ?_
              refine a_gd h (fun c39 h => ?_)
              refine a_scr (x' := wi (q1.2 + 1)) dL_law_266 rfl c39 ?_
              refine a_aload_n 0 dL_law_267 rfl ?_
              refine a_iload_n 3 dL_law_268 rfl ?_
              refine a_iconst dL_law_269 ?_
              refine a_iadd dL_law_270 ?_
              refine a_gd h (fun c40 h => ?_)
              refine a_scr (x' := wi (q1.2 + 2)) dL_law_271 rfl c40 ?_
              refine bp_s h (fun r41 e42 h => ?_)
              refine a_callVI dL_law_272 mX8_sort KX8 rfl kv_X8_sort ks_X8_sort rfl km_RL_29 rfl (T_X8_sort e42) (fun _ => rfl) rfl (Nat.le_of_ble_eq_true rfl) (Nat.le_of_ble_eq_true rfl) ⟨show 600 + 0 ≤ 600000 by omega, show 1000000 + 0 ≤ 7302250 by omega⟩ (Nat.le_of_ble_eq_true rfl) ?_
              refine a_aload_n 2 dL_law_275 rfl ?_
              refine a_aload_n 0 dL_law_276 rfl ?_
              refine a_iload_n 3 dL_law_277 rfl ?_
              refine a_iconst dL_law_278 ?_
              refine a_iadd dL_law_279 ?_
              refine a_gd h (fun c43 h => ?_)
              refine a_scr (x' := wi (q1.2 + 1)) dL_law_280 rfl c43 ?_
              refine a_aload_n 0 dL_law_281 rfl ?_
              refine a_iload_n 3 dL_law_282 rfl ?_
              refine a_iconst dL_law_283 ?_
              refine a_iadd dL_law_284 ?_
              refine a_gd h (fun c44 h => ?_)
              refine a_scr (x' := wi (q1.2 + 2)) dL_law_285 rfl c44 ?_
              refine bp_s h (fun r45 e46 h => ?_)
              refine a_callVI dL_law_286 mX9_sort KX9 rfl kv_X9_sort ks_X9_sort rfl km_RL_33 rfl (T_X9_sort e46) (fun _ => rfl) rfl (Nat.le_of_ble_eq_true rfl) (Nat.le_of_ble_eq_true rfl) ⟨show 600 + 0 + 0 ≤ 600000 by omega, show 1000000 + 0 + 0 ≤ 7302250 by omega⟩ (Nat.le_of_ble_eq_true rfl) ?_
              refine a_icmp_eq 968 dL_law_289 (by decide) rfl rfl h (fun c47 h => ?_) (fun c47 h => ?_)
              · skip
                refine a_widen (k' := 500000) (n' := 7000000) (by omega) (by omega) ?_
                have hh := hK7 _ h
                exact a_sub [0, 1, 2, 3] rfl hh
              · skip
                refine a_iconst dL_law_292 ?_
                cases h
            · skip
              refine a_if h (fun c48 h => ?_) (fun c48 h => ?_)
              · skip
                refine a_tsIn (off := 262) 294 dL_law_32 c48 (by decide) (by decide) (by decide) ?_
                refine a_aload_n 1 dL_law_294 rfl ?_
                refine a_aload_n 0 dL_law_295 rfl ?_
                refine a_iload_n 3 dL_law_296 rfl ?_
                refine a_iconst dL_law_297 ?_
                refine a_iadd dL_law_298 ?_
                refine a_gd h (fun c49 h => ?_)
                refine a_scr (x' := wi (q1.2 + 1)) dL_law_299 rfl c49 ?_
                refine a_aload_n 0 dL_law_300 rfl ?_
                refine a_iload_n 3 dL_law_301 rfl ?_
                refine a_iconst dL_law_302 ?_
                refine a_iadd dL_law_303 ?_
                refine a_gd h (fun c50 h => ?_)
                refine a_scr (x' := wi (q1.2 + 2)) dL_law_304 rfl c50 ?_
                refine bp_s h (fun r51 e52 h => ?_)
                refine a_callVI dL_law_305 mX8_wheel KX8 rfl kv_X8_wheel ks_X8_wheel rfl km_RL_34 rfl (T_X8_wheel e52) (fun _ => rfl) rfl (Nat.le_of_ble_eq_true rfl) (Nat.le_of_ble_eq_true rfl) ⟨show 600 + 0 ≤ 600000 by omega, show 1000000 + 0 ≤ 7302250 by omega⟩ (Nat.le_of_ble_eq_true rfl) ?_
                refine a_aload_n 2 dL_law_308 rfl ?_
                refine a_aload_n 0 dL_law_309 rfl ?_
                refine a_iload_n 3 dL_law_310 rfl ?_
                refine a_iconst dL_law_311 ?_
                refine a_iadd dL_law_312 ?_
                refine a_gd h (fun c53 h => ?_)
                refine a_scr (x' := wi (q1.2 + 1)) dL_law_313 rfl c53 ?_
                refine a_aload_n 0 dL_law_314 rfl ?_
                refine a_iload_n 3 dL_law_315 rfl ?_
                refine a_iconst dL_law_316 ?_
                refine a_iadd dL_law_317 ?_
                refine a_gd h (fun c54 h => ?_)
                refine a_scr (x' := wi (q1.2 + 2)) dL_law_318 rfl c54 ?_
                refine bp_s h (fun r55 e56 h => ?_)
                refine a_callVI dL_law_319 mX9_wheel KX9 rfl kv_X9_wheel ks_X9_wheel rfl km_RL_37 rfl (T_X9_wheel e56) (fun _ => rfl) rfl (Nat.le_of_ble_eq_true rfl) (Nat.le_of_ble_eq_true rfl) ⟨show 600 + 0 + 0 ≤ 600000 by omega, show 1000000 + 0 + 0 ≤ 7302250 by omega⟩ (Nat.le_of_ble_eq_true rfl) ?_
                refine a_icmp_eq 968 dL_law_322 (by decide) rfl rfl h (fun c57 h => ?_) (fun c57 h => ?_)
                · skip
                  refine a_widen (k' := 500000) (n' := 7000000) (by omega) (by omega) ?_
                  have hh := hK7 _ h
                  exact a_sub [0, 1, 2, 3] rfl hh
                · skip
                  refine a_iconst dL_law_325 ?_
                  cases h
              · skip
                refine a_if h (fun c58 h => ?_) (fun c58 h => ?_)
                · skip
                  refine a_tsIn (off := 295) 327 dL_law_32 c58 (by decide) (by decide) (by decide) ?_
                  refine a_aload_n 1 dL_law_327 rfl ?_
                  refine a_aload_n 0 dL_law_328 rfl ?_
                  refine a_iload_n 3 dL_law_329 rfl ?_
                  refine a_iconst dL_law_330 ?_
                  refine a_iadd dL_law_331 ?_
                  refine a_gd h (fun c59 h => ?_)
                  refine a_scr (x' := wi (q1.2 + 1)) dL_law_332 rfl c59 ?_
                  refine a_aload_n 0 dL_law_333 rfl ?_
                  refine a_iload_n 3 dL_law_334 rfl ?_
                  refine a_iconst dL_law_335 ?_
                  refine a_iadd dL_law_336 ?_
                  refine a_gd h (fun c60 h => ?_)
                  refine a_scr (x' := wi (q1.2 + 2)) dL_law_337 rfl c60 ?_
                  refine bp_s h (fun r61 e62 h => ?_)
                  refine a_callVI dL_law_338 mX8_week KX8 rfl kv_X8_week ks_X8_week rfl km_RL_38 rfl (T_X8_week e62) (fun _ => rfl) rfl (Nat.le_of_ble_eq_true rfl) (Nat.le_of_ble_eq_true rfl) ⟨show 600 + 0 ≤ 600000 by omega, show 1000000 + 0 ≤ 7302250 by omega⟩ (Nat.le_of_ble_eq_true rfl) ?_
                  refine a_aload_n 2 dL_law_341 rfl ?_
                  refine a_aload_n 0 dL_law_342 rfl ?_
                  refine a_iload_n 3 dL_law_343 rfl ?_
                  refine a_iconst dL_law_344 ?_
                  refine a_iadd dL_law_345 ?_
                  refine a_gd h (fun c63 h => ?_)
                  refine a_scr (x' := wi (q1.2 + 1)) dL_law_346 rfl c63 ?_
                  refine a_aload_n 0 dL_law_347 rfl ?_
                  refine a_iload_n 3 dL_law_348 rfl ?_
                  refine a_iconst dL_law_349 ?_
                  refine a_iadd dL_law_350 ?_
                  refine a_gd h (fun c64 h => ?_)
                  refine a_scr (x' := wi (q1.2 + 2)) dL_law_351 rfl c64 ?_
                  refine bp_s h (fun r65 e66 h => ?_)
                  refine a_callVI dL_law_352 mX9_week KX9 rfl kv_X9_week ks_X9_week rfl km_RL_41 rfl (T_X9_week e66) (fun _ => rfl) rfl (Nat.le_of_ble_eq_true rfl) (Nat.le_of_ble_eq_true rfl) ⟨show 600 + 0 + 0 ≤ 600000 by omega, show 1000000 + 0 + 0 ≤ 7302250 by omega⟩ (Nat.le_of_ble_eq_true rfl) ?_
                  refine a_icmp_eq 968 dL_law_355 (by decide) rfl rfl h (fun c67 h => ?_) (fun c67 h => ?_)
                  · skip
                    refine a_widen (k' := 500000) (n' := 7000000) (by omega) (by omega) ?_
                    have hh := hK7 _ h
                    exact a_sub [0, 1, 2, 3] rfl hh
                  · skip
                    refine a_iconst dL_law_358 ?_
                    cases h
                · skip
                  refine a_if h (fun c68 h => ?_) (fun c68 h => ?_)
                  · skip
                    refine a_tsIn (off := 328) 360 dL_law_32 c68 (by decide) (by decide) (by decide) ?_
                    refine a_aload_n 1 dL_law_360 rfl ?_
                    refine a_aload_n 0 dL_law_361 rfl ?_
                    refine a_iload_n 3 dL_law_362 rfl ?_
                    refine a_iconst dL_law_363 ?_
                    refine a_iadd dL_law_364 ?_
                    refine a_gd h (fun c69 h => ?_)
                    refine a_scr (x' := wi (q1.2 + 1)) dL_law_365 rfl c69 ?_
                    refine a_aload_n 0 dL_law_366 rfl ?_
                    refine a_iload_n 3 dL_law_367 rfl ?_
                    refine a_iconst dL_law_368 ?_
                    refine a_iadd dL_law_369 ?_
                    refine a_gd h (fun c70 h => ?_)
                    refine a_scr (x' := wi (q1.2 + 2)) dL_law_370 rfl c70 ?_
                    refine a_aload_n 0 dL_law_371 rfl ?_
                    refine a_iload_n 3 dL_law_372 rfl ?_
                    refine a_iconst dL_law_373 ?_
                    refine a_iadd dL_law_374 ?_
                    refine a_gd h (fun c71 h => ?_)
                    refine a_scr (x' := wi (q1.2 + 3)) dL_law_375 rfl c71 ?_
                    refine bn_s h (fun r72 σ74 e73 h => ?_)
                    refine a_callVI dL_law_376 mX8_place KX8 rfl kv_X8_place ks_X8_place rfl km_RL_42 rfl (T_X8_place e73) (fun _ => rfl) rfl (Nat.le_of_ble_eq_true rfl) (Nat.le_of_ble_eq_true rfl) ⟨show 600 + 0 ≤ 600000 by omega, show 1000000 + 0 ≤ 7302250 by omega⟩ (Nat.le_of_ble_eq_true rfl) ?_
                    refine a_aload_n 2 dL_law_379 rfl ?_
                    refine a_aload_n 0 dL_law_380 rfl ?_
                    refine a_iload_n 3 dL_law_381 rfl ?_
                    refine a_iconst dL_law_382 ?_
                    refine a_iadd dL_law_383 ?_
                    refine a_gd h (fun c75 h => ?_)
                    refine a_scr (x' := wi (q1.2 + 1)) dL_law_384 rfl c75 ?_
                    refine a_aload_n 0 dL_law_385 rfl ?_
                    refine a_iload_n 3 dL_law_386 rfl ?_
                    refine a_iconst dL_law_387 ?_
                    refine a_iadd dL_law_388 ?_
                    refine a_gd h (fun c76 h => ?_)
                    refine a_scr (x' := wi (q1.2 + 2)) dL_law_389 rfl c76 ?_
                    refine a_aload_n 0 dL_law_390 rfl ?_
                    refine a_iload_n 3 dL_law_391 rfl ?_
                    refine a_iconst dL_law_392 ?_
                    refine a_iadd dL_law_393 ?_
                    refine a_gd h (fun c77 h => ?_)
                    refine a_scr (x' := wi (q1.2 + 3)) dL_law_394 rfl c77 ?_
                    refine bn_s h (fun r78 σ80 e79 h => ?_)
                    refine a_callVI dL_law_395 mX9_place KX9 rfl kv_X9_place ks_X9_place rfl km_RL_46 rfl (T_X9_place e79) (fun _ => rfl) rfl (Nat.le_of_ble_eq_true rfl) (Nat.le_of_ble_eq_true rfl) ⟨show 600 + 0 + 0 ≤ 600000 by omega, show 1000000 + 0 + 0 ≤ 7302250 by omega⟩ (Nat.le_of_ble_eq_true rfl) ?_
                    refine a_icmp_eq 968 dL_law_398 (by decide) rfl rfl h (fun c81 h => ?_) (fun c81 h => ?_)
                    · skip
                      refine a_widen (k' := 500000) (n' := 7000000) (by omega) (by omega) ?_
                      have hh := hK7 _ h
                      exact a_sub [0, 1, 2, 3] rfl hh
                    · skip
                      refine a_iconst dL_law_401 ?_
                      cases h
                  · skip
                    refine a_if h (fun c82 h => ?_) (fun c82 h => ?_)
                    · skip
                      refine a_tsIn (off := 371) 403 dL_law_32 c82 (by decide) (by decide) (by decide) ?_
                      refine a_aload_n 1 dL_law_403 rfl ?_
                      refine a_aload_n 0 dL_law_404 rfl ?_
                      refine a_iload_n 3 dL_law_405 rfl ?_
                      refine a_iconst dL_law_406 ?_
                      refine a_iadd dL_law_407 ?_
                      refine a_gd h (fun c83 h => ?_)
                      refine a_scr (x' := wi (q1.2 + 1)) dL_law_408 rfl c83 ?_
                      refine bn_s h (fun r84 σ86 e85 h => ?_)
                      refine a_callVI dL_law_409 mX8_eat KX8 rfl kv_X8_eat ks_X8_eat rfl km_RL_47 rfl (T_X8_eat e85) (fun _ => rfl) rfl (Nat.le_of_ble_eq_true rfl) (Nat.le_of_ble_eq_true rfl) ⟨show 600 + 0 ≤ 600000 by omega, show 1000000 + 0 ≤ 7302250 by omega⟩ (Nat.le_of_ble_eq_true rfl) ?_
                      refine a_aload_n 2 dL_law_412 rfl ?_
                      refine a_aload_n 0 dL_law_413 rfl ?_
                      refine a_iload_n 3 dL_law_414 rfl ?_
                      refine a_iconst dL_law_415 ?_
                      refine a_iadd dL_law_416 ?_
                      refine a_gd h (fun c87 h => ?_)
                      refine a_scr (x' := wi (q1.2 + 1)) dL_law_417 rfl c87 ?_
                      refine bn_s h (fun r88 σ90 e89 h => ?_)
                      refine a_callVI dL_law_418 mX9_eat KX9 rfl kv_X9_eat ks_X9_eat rfl km_RL_51 rfl (T_X9_eat e89) (fun _ => rfl) rfl (Nat.le_of_ble_eq_true rfl) (Nat.le_of_ble_eq_true rfl) ⟨show 600 + 0 + 0 ≤ 600000 by omega, show 1000000 + 0 + 0 ≤ 7302250 by omega⟩ (Nat.le_of_ble_eq_true rfl) ?_
                      refine a_icmp_eq 968 dL_law_421 (by decide) rfl rfl h (fun c91 h => ?_) (fun c91 h => ?_)
                      · skip
                        refine a_widen (k' := 500000) (n' := 7000000) (by omega) (by omega) ?_
                        have hh := hK7 _ h
                        exact a_sub [0, 1, 2, 3] rfl hh
                      · skip
                        refine a_iconst dL_law_424 ?_
                        cases h
                    · skip
                      refine a_if h (fun c92 h => ?_) (fun c92 h => ?_)
                      · skip
                        refine a_tsIn (off := 394) 426 dL_law_32 c92 (by decide) (by decide) (by decide) ?_
                        refine a_aload_n 1 dL_law_426 rfl ?_
                        refine a_aload_n 0 dL_law_427 rfl ?_
                        refine a_iload_n 3 dL_law_428 rfl ?_
                        refine a_iconst dL_law_429 ?_
                        refine a_iadd dL_law_430 ?_
                        refine a_gd h (fun c93 h => ?_)
                        refine a_scr (x' := wi (q1.2 + 1)) dL_law_431 rfl c93 ?_
                        refine bn_s h (fun r94 σ96 e95 h => ?_)
                        refine a_callVI dL_law_432 mX8_sell KX8 rfl kv_X8_sell ks_X8_sell rfl km_RL_52 rfl (T_X8_sell e95) (fun _ => rfl) rfl (Nat.le_of_ble_eq_true rfl) (Nat.le_of_ble_eq_true rfl) ⟨show 600 + 0 ≤ 600000 by omega, show 1000000 + 0 ≤ 7302250 by omega⟩ (Nat.le_of_ble_eq_true rfl) ?_
                        refine a_aload_n 2 dL_law_435 rfl ?_
                        refine a_aload_n 0 dL_law_436 rfl ?_
                        refine a_iload_n 3 dL_law_437 rfl ?_
                        refine a_iconst dL_law_438 ?_
                        refine a_iadd dL_law_439 ?_
                        refine a_gd h (fun c97 h => ?_)
                        refine a_scr (x' := wi (q1.2 + 1)) dL_law_440 rfl c97 ?_
                        refine bn_s h (fun r98 σ100 e99 h => ?_)
                        refine a_callVI dL_law_441 mX9_sell KX9 rfl kv_X9_sell ks_X9_sell rfl km_RL_55 rfl (T_X9_sell e99) (fun _ => rfl) rfl (Nat.le_of_ble_eq_true rfl) (Nat.le_of_ble_eq_true rfl) ⟨show 600 + 0 + 0 ≤ 600000 by omega, show 1000000 + 0 + 0 ≤ 7302250 by omega⟩ (Nat.le_of_ble_eq_true rfl) ?_
                        refine a_icmp_eq 968 dL_law_444 (by decide) rfl rfl h (fun c101 h => ?_) (fun c101 h => ?_)
                        · skip
                          refine a_widen (k' := 500000) (n' := 7000000) (by omega) (by omega) ?_
                          have hh := hK7 _ h
                          exact a_sub [0, 1, 2, 3] rfl hh
                        · skip
                          refine a_iconst dL_law_447 ?_
                          cases h
                      · skip
                        refine a_if h (fun c102 h => ?_) (fun c102 h => ?_)
                        · skip
                          refine a_tsIn (off := 417) 449 dL_law_32 c102 (by decide) (by decide) (by decide) ?_
                          refine a_aload_n 1 dL_law_449 rfl ?_
                          refine a_aload_n 0 dL_law_450 rfl ?_
                          refine a_iload_n 3 dL_law_451 rfl ?_
                          refine a_iconst dL_law_452 ?_
                          refine a_iadd dL_law_453 ?_
                          refine a_gd h (fun c103 h => ?_)
                          refine a_scr (x' := wi (q1.2 + 1)) dL_law_454 rfl c103 ?_
                          refine bn_s h (fun r104 σ106 e105 h => ?_)
                          refine a_callVI dL_law_455 mX8_stop KX8 rfl kv_X8_stop ks_X8_stop rfl km_RL_56 rfl (T_X8_stop e105) (fun _ => rfl) rfl (Nat.le_of_ble_eq_true rfl) (Nat.le_of_ble_eq_true rfl) ⟨show 600 + 0 ≤ 600000 by omega, show 1000000 + 0 ≤ 7302250 by omega⟩ (Nat.le_of_ble_eq_true rfl) ?_
                          refine a_aload_n 2 dL_law_458 rfl ?_
                          refine a_aload_n 0 dL_law_459 rfl ?_
                          refine a_iload_n 3 dL_law_460 rfl ?_
                          refine a_iconst dL_law_461 ?_
                          refine a_iadd dL_law_462 ?_
                          refine a_gd h (fun c107 h => ?_)
                          refine a_scr (x' := wi (q1.2 + 1)) dL_law_463 rfl c107 ?_
                          refine bn_s h (fun r108 σ110 e109 h => ?_)
                          refine a_callVI dL_law_464 mX9_stop KX9 rfl kv_X9_stop ks_X9_stop rfl km_RL_59 rfl (T_X9_stop e109) (fun _ => rfl) rfl (Nat.le_of_ble_eq_true rfl) (Nat.le_of_ble_eq_true rfl) ⟨show 600 + 0 + 0 ≤ 600000 by omega, show 1000000 + 0 + 0 ≤ 7302250 by omega⟩ (Nat.le_of_ble_eq_true rfl) ?_
                          refine a_icmp_eq 968 dL_law_467 (by decide) rfl rfl h (fun c111 h => ?_) (fun c111 h => ?_)
                          · skip
                            refine a_widen (k' := 500000) (n' := 7000000) (by omega) (by omega) ?_
                            have hh := hK7 _ h
                            exact a_sub [0, 1, 2, 3] rfl hh
                          · skip
                            refine a_iconst dL_law_470 ?_
                            cases h
                        · skip
                          refine a_if h (fun c112 h => ?_) (fun c112 h => ?_)
                          · skip
                            refine a_tsIn (off := 440) 472 dL_law_32 c112 (by decide) (by decide) (by decide) ?_
                            refine a_aload_n 1 dL_law_472 rfl ?_
                            refine bn_s h (fun r113 σ115 e114 h => ?_)
                            refine a_callVI dL_law_473 mX8_next KX8 rfl kv_X8_next ks_X8_next rfl km_RL_60 rfl (T_X8_next e114) (fun _ => rfl) rfl (Nat.le_of_ble_eq_true rfl) (Nat.le_of_ble_eq_true rfl) ⟨show 600 + 0 ≤ 600000 by omega, show 1000000 + 0 ≤ 7302250 by omega⟩ (Nat.le_of_ble_eq_true rfl) ?_
                            refine a_aload_n 2 dL_law_476 rfl ?_
                            refine bn_s h (fun r116 σ118 e117 h => ?_)
                            refine a_callVI dL_law_477 mX9_next KX9 rfl kv_X9_next ks_X9_next rfl km_RL_63 rfl (T_X9_next e117) (fun _ => rfl) rfl (Nat.le_of_ble_eq_true rfl) (Nat.le_of_ble_eq_true rfl) ⟨show 600 + 0 + 0 ≤ 600000 by omega, show 1000000 + 0 + 0 ≤ 7302250 by omega⟩ (Nat.le_of_ble_eq_true rfl) ?_
                            refine a_icmp_eq 968 dL_law_480 (by decide) rfl rfl h (fun c119 h => ?_) (fun c119 h => ?_)
                            · skip
                              refine a_widen (k' := 500000) (n' := 7000000) (by omega) (by omega) ?_
                              have hh := hK7 _ h
                              exact a_sub [0, 1, 2, 3] rfl hh
                            · skip
                              refine a_iconst dL_law_483 ?_
                              cases h
                          · skip
                            refine a_if h (fun c120 h => ?_) (fun c120 h => ?_)
                            · skip
                              refine a_tsIn (off := 453) 485 dL_law_32 c120 (by decide) (by decide) (by decide) ?_
                              refine a_aload_n 1 dL_law_485 rfl ?_
                              refine a_aload_n 0 dL_law_486 rfl ?_
                              refine a_iload_n 3 dL_law_487 rfl ?_
                              refine a_iconst dL_law_488 ?_
                              refine a_iadd dL_law_489 ?_
                              refine a_gd h (fun c121 h => ?_)
                              refine a_scr (x' := wi (q1.2 + 1)) dL_law_490 rfl c121 ?_
                              refine bp_s h (fun r122 e123 h => ?_)
                              refine a_callVI dL_law_491 mX8_now KX8 rfl kv_X8_now ks_X8_now rfl km_RL_64 rfl (T_X8_now e123) (fun _ => rfl) rfl (Nat.le_of_ble_eq_true rfl) (Nat.le_of_ble_eq_true rfl) ⟨show 600 + 0 ≤ 600000 by omega, show 1000000 + 0 ≤ 7302250 by omega⟩ (Nat.le_of_ble_eq_true rfl) ?_
                              refine a_aload_n 2 dL_law_494 rfl ?_
                              refine a_aload_n 0 dL_law_495 rfl ?_
                              refine a_iload_n 3 dL_law_496 rfl ?_
                              refine a_iconst dL_law_497 ?_
                              refine a_iadd dL_law_498 ?_
                              refine a_gd h (fun c124 h => ?_)
                              refine a_scr (x' := wi (q1.2 + 1)) dL_law_499 rfl c124 ?_
                              refine bp_s h (fun r125 e126 h => ?_)
                              refine a_callVI dL_law_500 mX9_now KX9 rfl kv_X9_now ks_X9_now rfl km_RL_67 rfl (T_X9_now e126) (fun _ => rfl) rfl (Nat.le_of_ble_eq_true rfl) (Nat.le_of_ble_eq_true rfl) ⟨show 600 + 0 + 0 ≤ 600000 by omega, show 1000000 + 0 + 0 ≤ 7302250 by omega⟩ (Nat.le_of_ble_eq_true rfl) ?_
                              refine a_icmp_eq 968 dL_law_503 (by decide) rfl rfl h (fun c127 h => ?_) (fun c127 h => ?_)
                              · skip
                                refine a_widen (k' := 500000) (n' := 7000000) (by omega) (by omega) ?_
                                have hh := hK7 _ h
                                exact a_sub [0, 1, 2, 3] rfl hh
                              · skip
                                refine a_iconst dL_law_506 ?_
                                cases h
                            · skip
                              refine a_if h (fun c128 h => ?_) (fun c128 h => ?_)
                              · skip
                                refine a_tsIn (off := 476) 508 dL_law_32 c128 (by decide) (by decide) (by decide) ?_
                                refine a_aload_n 1 dL_law_508 rfl ?_
                                refine a_aload_n 0 dL_law_509 rfl ?_
                                refine a_iload_n 3 dL_law_510 rfl ?_
                                refine a_iconst dL_law_511 ?_
                                refine a_iadd dL_law_512 ?_
                                refine a_gd h (fun c129 h => ?_)
                                refine a_scr (x' := wi (q1.2 + 1)) dL_law_513 rfl c129 ?_
                                refine bn_s h (fun r130 σ132 e131 h => ?_)
                                refine a_callVI dL_law_514 mX8_lot KX8 rfl kv_X8_lot ks_X8_lot rfl km_RL_68 rfl (T_X8_lot e131) (fun _ => rfl) rfl (Nat.le_of_ble_eq_true rfl) (Nat.le_of_ble_eq_true rfl) ⟨show 600 + 0 ≤ 600000 by omega, show 1000000 + 0 ≤ 7302250 by omega⟩ (Nat.le_of_ble_eq_true rfl) ?_
                                refine a_aload_n 2 dL_law_517 rfl ?_
                                refine a_aload_n 0 dL_law_518 rfl ?_
                                refine a_iload_n 3 dL_law_519 rfl ?_
                                refine a_iconst dL_law_520 ?_
                                refine a_iadd dL_law_521 ?_
                                refine a_gd h (fun c133 h => ?_)
                                refine a_scr (x' := wi (q1.2 + 1)) dL_law_522 rfl c133 ?_
                                refine bn_s h (fun r134 σ136 e135 h => ?_)
                                refine a_callVI dL_law_523 mX9_lot KX9 rfl kv_X9_lot ks_X9_lot rfl km_RL_71 rfl (T_X9_lot e135) (fun _ => rfl) rfl (Nat.le_of_ble_eq_true rfl) (Nat.le_of_ble_eq_true rfl) ⟨show 600 + 0 + 0 ≤ 600000 by omega, show 1000000 + 0 + 0 ≤ 7302250 by omega⟩ (Nat.le_of_ble_eq_true rfl) ?_
                                refine a_icmp_eq 968 dL_law_526 (by decide) rfl rfl h (fun c137 h => ?_) (fun c137 h => ?_)
                                · skip
                                  refine a_widen (k' := 500000) (n' := 7000000) (by omega) (by omega) ?_
                                  have hh := hK7 _ h
                                  exact a_sub [0, 1, 2, 3] rfl hh
                                · skip
                                  refine a_iconst dL_law_529 ?_
                                  cases h
                              · skip
                                refine a_if h (fun c138 h => ?_) (fun c138 h => ?_)
                                · skip
                                  refine a_tsIn (off := 499) 531 dL_law_32 c138 (by decide) (by decide) (by decide) ?_
                                  refine a_aload_n 1 dL_law_531 rfl ?_
                                  refine a_aload_n 0 dL_law_532 rfl ?_
                                  refine a_iload_n 3 dL_law_533 rfl ?_
                                  refine a_iconst dL_law_534 ?_
                                  refine a_iadd dL_law_535 ?_
                                  refine a_gd h (fun c139 h => ?_)
                                  refine a_scr (x' := wi (q1.2 + 1)) dL_law_536 rfl c139 ?_
                                  refine bn_s h (fun r140 σ142 e141 h => ?_)
                                  refine a_callVI dL_law_537 mX8_value KX8 rfl kv_X8_value ks_X8_value rfl km_RL_72 rfl (T_X8_value e141) (fun _ => rfl) rfl (Nat.le_of_ble_eq_true rfl) (Nat.le_of_ble_eq_true rfl) ⟨show 600 + 3 ≤ 600000 by omega, show 1000000 + 98304 ≤ 7302250 by omega⟩ (Nat.le_of_ble_eq_true rfl) ?_
                                  refine a_aload_n 2 dL_law_540 rfl ?_
                                  refine a_aload_n 0 dL_law_541 rfl ?_
                                  refine a_iload_n 3 dL_law_542 rfl ?_
                                  refine a_iconst dL_law_543 ?_
                                  refine a_iadd dL_law_544 ?_
                                  refine a_gd h (fun c143 h => ?_)
                                  refine a_scr (x' := wi (q1.2 + 1)) dL_law_545 rfl c143 ?_
                                  refine bn_s h (fun r144 σ146 e145 h => ?_)
                                  refine a_callVI dL_law_546 mX9_value KX9 rfl kv_X9_value ks_X9_value rfl km_RL_75 rfl (T_X9_value e145) (fun _ => rfl) rfl (Nat.le_of_ble_eq_true rfl) (Nat.le_of_ble_eq_true rfl) ⟨show 600 + 3 + 0 ≤ 600000 by omega, show 1000000 + 98304 + 0 ≤ 7302250 by omega⟩ (Nat.le_of_ble_eq_true rfl) ?_
                                  refine a_icmp_eq 968 dL_law_549 (by decide) rfl rfl h (fun c147 h => ?_) (fun c147 h => ?_)
                                  · skip
                                    refine a_widen (k' := 500000) (n' := 7000000) (by omega) (by omega) ?_
                                    have hh := hK7 _ h
                                    exact a_sub [0, 1, 2, 3] rfl hh
                                  · skip
                                    refine a_iconst dL_law_552 ?_
                                    cases h
                                · skip
                                  refine a_if h (fun c148 h => ?_) (fun c148 h => ?_)
                                  · skip
                                    refine a_tsIn (off := 522) 554 dL_law_32 c148 (by decide) (by decide) (by decide) ?_
                                    refine a_aload_n 1 dL_law_554 rfl ?_
                                    refine a_aload_n 0 dL_law_555 rfl ?_
                                    refine a_iload_n 3 dL_law_556 rfl ?_
                                    refine a_iconst dL_law_557 ?_
                                    refine a_iadd dL_law_558 ?_
                                    refine a_gd h (fun c149 h => ?_)
                                    refine a_scr (x' := wi (q1.2 + 1)) dL_law_559 rfl c149 ?_
                                    refine bn_s h (fun r150 σ152 e151 h => ?_)
                                    refine a_callVI dL_law_560 mX8_left KX8 rfl kv_X8_left ks_X8_left rfl km_RL_76 rfl (T_X8_left e151) (fun _ => rfl) rfl (Nat.le_of_ble_eq_true rfl) (Nat.le_of_ble_eq_true rfl) ⟨show 600 + 3 ≤ 600000 by omega, show 1000000 + 98304 ≤ 7302250 by omega⟩ (Nat.le_of_ble_eq_true rfl) ?_
                                    refine a_aload_n 2 dL_law_563 rfl ?_
                                    refine a_aload_n 0 dL_law_564 rfl ?_
                                    refine a_iload_n 3 dL_law_565 rfl ?_
                                    refine a_iconst dL_law_566 ?_
                                    refine a_iadd dL_law_567 ?_
                                    refine a_gd h (fun c153 h => ?_)
                                    refine a_scr (x' := wi (q1.2 + 1)) dL_law_568 rfl c153 ?_
                                    refine bn_s h (fun r154 σ156 e155 h => ?_)
                                    refine a_callVI dL_law_569 mX9_left KX9 rfl kv_X9_left ks_X9_left rfl km_RL_79 rfl (T_X9_left e155) (fun _ => rfl) rfl (Nat.le_of_ble_eq_true rfl) (Nat.le_of_ble_eq_true rfl) ⟨show 600 + 3 + 0 ≤ 600000 by omega, show 1000000 + 98304 + 0 ≤ 7302250 by omega⟩ (Nat.le_of_ble_eq_true rfl) ?_
                                    refine a_icmp_eq 968 dL_law_572 (by decide) rfl rfl h (fun c157 h => ?_) (fun c157 h => ?_)
                                    · skip
                                      refine a_widen (k' := 500000) (n' := 7000000) (by omega) (by omega) ?_
                                      have hh := hK7 _ h
                                      exact a_sub [0, 1, 2, 3] rfl hh
                                    · skip
                                      refine a_iconst dL_law_575 ?_
                                      cases h
                                  · skip
                                    refine a_if h (fun c158 h => ?_) (fun c158 h => ?_)
                                    · skip
                                      refine a_tsIn (off := 545) 577 dL_law_32 c158 (by decide) (by decide) (by decide) ?_
                                      refine a_aload_n 1 dL_law_577 rfl ?_
                                      refine a_aload_n 0 dL_law_578 rfl ?_
                                      refine a_iload_n 3 dL_law_579 rfl ?_
                                      refine a_iconst dL_law_580 ?_
                                      refine a_iadd dL_law_581 ?_
                                      refine a_gd h (fun c159 h => ?_)
                                      refine a_scr (x' := wi (q1.2 + 1)) dL_law_582 rfl c159 ?_
                                      refine bn_s h (fun r160 σ162 e161 h => ?_)
                                      refine a_callVI dL_law_583 mX8_choice KX8 rfl kv_X8_choice ks_X8_choice rfl km_RL_80 rfl (T_X8_choice e161) (fun _ => rfl) rfl (Nat.le_of_ble_eq_true rfl) (Nat.le_of_ble_eq_true rfl) ⟨show 600 + 3 ≤ 600000 by omega, show 1000000 + 98304 ≤ 7302250 by omega⟩ (Nat.le_of_ble_eq_true rfl) ?_
                                      refine a_aload_n 2 dL_law_586 rfl ?_
                                      refine a_aload_n 0 dL_law_587 rfl ?_
                                      refine a_iload_n 3 dL_law_588 rfl ?_
                                      refine a_iconst dL_law_589 ?_
                                      refine a_iadd dL_law_590 ?_
                                      refine a_gd h (fun c163 h => ?_)
                                      refine a_scr (x' := wi (q1.2 + 1)) dL_law_591 rfl c163 ?_
                                      refine bn_s h (fun r164 σ166 e165 h => ?_)
                                      refine a_callVI dL_law_592 mX9_choice KX9 rfl kv_X9_choice ks_X9_choice rfl km_RL_83 rfl (T_X9_choice e165) (fun _ => rfl) rfl (Nat.le_of_ble_eq_true rfl) (Nat.le_of_ble_eq_true rfl) ⟨show 600 + 3 + 0 ≤ 600000 by omega, show 1000000 + 98304 + 0 ≤ 7302250 by omega⟩ (Nat.le_of_ble_eq_true rfl) ?_
                                      refine a_icmp_eq 968 dL_law_595 (by decide) rfl rfl h (fun c167 h => ?_) (fun c167 h => ?_)
                                      · skip
                                        refine a_widen (k' := 500000) (n' := 7000000) (by omega) (by omega) ?_
                                        have hh := hK7 _ h
                                        exact a_sub [0, 1, 2, 3] rfl hh
                                      · skip
                                        refine a_iconst dL_law_598 ?_
                                        cases h
                                    · skip
                                      refine a_if h (fun c168 h => ?_) (fun c168 h => ?_)
                                      · skip
                                        refine a_tsIn (off := 568) 600 dL_law_32 c168 (by decide) (by decide) (by decide) ?_
                                        refine a_aload_n 1 dL_law_600 rfl ?_
                                        refine a_aload_n 0 dL_law_601 rfl ?_
                                        refine a_iload_n 3 dL_law_602 rfl ?_
                                        refine a_iconst dL_law_603 ?_
                                        refine a_iadd dL_law_604 ?_
                                        refine a_gd h (fun c169 h => ?_)
                                        refine a_scr (x' := wi (q1.2 + 1)) dL_law_605 rfl c169 ?_
                                        refine bn_s h (fun r170 σ172 e171 h => ?_)
                                        refine a_callVI dL_law_606 mX8_brings KX8 rfl kv_X8_brings ks_X8_brings rfl km_RL_84 rfl (T_X8_brings e171) (fun _ => rfl) rfl (Nat.le_of_ble_eq_true rfl) (Nat.le_of_ble_eq_true rfl) ⟨show 600 + 3 ≤ 600000 by omega, show 1000000 + 98304 ≤ 7302250 by omega⟩ (Nat.le_of_ble_eq_true rfl) ?_
                                        refine a_aload_n 2 dL_law_609 rfl ?_
                                        refine a_aload_n 0 dL_law_610 rfl ?_
                                        refine a_iload_n 3 dL_law_611 rfl ?_
                                        refine a_iconst dL_law_612 ?_
                                        refine a_iadd dL_law_613 ?_
                                        refine a_gd h (fun c173 h => ?_)
                                        refine a_scr (x' := wi (q1.2 + 1)) dL_law_614 rfl c173 ?_
                                        refine bn_s h (fun r174 σ176 e175 h => ?_)
                                        refine a_callVI dL_law_615 mX9_brings KX9 rfl kv_X9_brings ks_X9_brings rfl km_RL_87 rfl (T_X9_brings e175) (fun _ => rfl) rfl (Nat.le_of_ble_eq_true rfl) (Nat.le_of_ble_eq_true rfl) ⟨show 600 + 3 + 0 ≤ 600000 by omega, show 1000000 + 98304 + 0 ≤ 7302250 by omega⟩ (Nat.le_of_ble_eq_true rfl) ?_
                                        refine a_icmp_eq 968 dL_law_618 (by decide) rfl rfl h (fun c177 h => ?_) (fun c177 h => ?_)
                                        · skip
                                          refine a_widen (k' := 500000) (n' := 7000000) (by omega) (by omega) ?_
                                          have hh := hK7 _ h
                                          exact a_sub [0, 1, 2, 3] rfl hh
                                        · skip
                                          refine a_iconst dL_law_621 ?_
                                          cases h
                                      · skip
                                        refine a_if h (fun c178 h => ?_) (fun c178 h => ?_)
                                        · skip
                                          refine a_tsIn (off := 591) 623 dL_law_32 c178 (by decide) (by decide) (by decide) ?_
                                          refine a_aload_n 1 dL_law_623 rfl ?_
                                          refine a_aload_n 0 dL_law_624 rfl ?_
                                          refine a_iload_n 3 dL_law_625 rfl ?_
                                          refine a_iconst dL_law_626 ?_
                                          refine a_iadd dL_law_627 ?_
                                          refine a_gd h (fun c179 h => ?_)
                                          refine a_scr (x' := wi (q1.2 + 1)) dL_law_628 rfl c179 ?_
                                          refine bn_s h (fun r180 σ182 e181 h => ?_)
                                          refine a_callVI dL_law_629 mX8_play KX8 rfl kv_X8_play ks_X8_play rfl km_RL_88 rfl (T_X8_play e181) (fun _ => rfl) rfl (Nat.le_of_ble_eq_true rfl) (Nat.le_of_ble_eq_true rfl) ⟨show 600 + 24 ≤ 600000 by omega, show 1000000 + 786432 ≤ 7302250 by omega⟩ (Nat.le_of_ble_eq_true rfl) ?_
                                          refine a_aload_n 2 dL_law_632 rfl ?_
                                          refine a_aload_n 0 dL_law_633 rfl ?_
                                          refine a_iload_n 3 dL_law_634 rfl ?_
                                          refine a_iconst dL_law_635 ?_
                                          refine a_iadd dL_law_636 ?_
                                          refine a_gd h (fun c183 h => ?_)
                                          refine a_scr (x' := wi (q1.2 + 1)) dL_law_637 rfl c183 ?_
                                          refine bn_s h (fun r184 σ186 e185 h => ?_)
                                          refine a_callVI dL_law_638 mX9_play KX9 rfl kv_X9_play ks_X9_play rfl km_RL_91 rfl (T_X9_play e185) (fun _ => rfl) rfl (Nat.le_of_ble_eq_true rfl) (Nat.le_of_ble_eq_true rfl) ⟨show 600 + 24 + 0 ≤ 600000 by omega, show 1000000 + 786432 + 0 ≤ 7302250 by omega⟩ (Nat.le_of_ble_eq_true rfl) ?_
                                          refine a_icmp_eq 968 dL_law_641 (by decide) rfl rfl h (fun c187 h => ?_) (fun c187 h => ?_)
                                          · skip
                                            refine a_widen (k' := 500000) (n' := 7000000) (by omega) (by omega) ?_
                                            have hh := hK7 _ h
                                            exact a_sub [0, 1, 2, 3] rfl hh
                                          · skip
                                            refine a_iconst dL_law_644 ?_
                                            cases h
                                        · skip
                                          refine a_if h (fun c188 h => ?_) (fun c188 h => ?_)
                                          · skip
                                            refine a_tsIn (off := 614) 646 dL_law_32 c188 (by decide) (by decide) (by decide) ?_
                                            refine a_aload_n 1 dL_law_646 rfl ?_
                                            refine a_aload_n 0 dL_law_647 rfl ?_
                                            refine a_iload_n 3 dL_law_648 rfl ?_
                                            refine a_iconst dL_law_649 ?_
                                            refine a_iadd dL_law_650 ?_
                                            refine a_gd h (fun c189 h => ?_)
                                            refine a_scr (x' := wi (q1.2 + 1)) dL_law_651 rfl c189 ?_
                                            refine bn_s h (fun r190 σ192 e191 h => ?_)
                                            refine a_callVI dL_law_652 mX8_blind KX8 rfl kv_X8_blind ks_X8_blind rfl km_RL_92 rfl (T_X8_blind e191) (fun _ => rfl) rfl (Nat.le_of_ble_eq_true rfl) (Nat.le_of_ble_eq_true rfl) ⟨show 600 + 0 ≤ 600000 by omega, show 1000000 + 0 ≤ 7302250 by omega⟩ (Nat.le_of_ble_eq_true rfl) ?_
                                            refine a_aload_n 2 dL_law_655 rfl ?_
                                            refine a_aload_n 0 dL_law_656 rfl ?_
                                            refine a_iload_n 3 dL_law_657 rfl ?_
                                            refine a_iconst dL_law_658 ?_
                                            refine a_iadd dL_law_659 ?_
                                            refine a_gd h (fun c193 h => ?_)
                                            refine a_scr (x' := wi (q1.2 + 1)) dL_law_660 rfl c193 ?_
                                            refine bn_s h (fun r194 σ196 e195 h => ?_)
                                            refine a_callVI dL_law_661 mX9_blind KX9 rfl kv_X9_blind ks_X9_blind rfl km_RL_95 rfl (T_X9_blind e195) (fun _ => rfl) rfl (Nat.le_of_ble_eq_true rfl) (Nat.le_of_ble_eq_true rfl) ⟨show 600 + 0 + 0 ≤ 600000 by omega, show 1000000 + 0 + 0 ≤ 7302250 by omega⟩ (Nat.le_of_ble_eq_true rfl) ?_
                                            refine a_icmp_eq 968 dL_law_664 (by decide) rfl rfl h (fun c197 h => ?_) (fun c197 h => ?_)
                                            · skip
                                              refine a_widen (k' := 500000) (n' := 7000000) (by omega) (by omega) ?_
                                              have hh := hK7 _ h
                                              exact a_sub [0, 1, 2, 3] rfl hh
                                            · skip
                                              refine a_iconst dL_law_667 ?_
                                              cases h
                                          · skip
                                            refine a_if h (fun c198 h => ?_) (fun c198 h => ?_)
                                            · skip
                                              refine a_tsIn (off := 637) 669 dL_law_32 c198 (by decide) (by decide) (by decide) ?_
                                              refine a_aload_n 1 dL_law_669 rfl ?_
                                              refine bn_s h (fun r199 σ201 e200 h => ?_)
                                              refine a_callVI dL_law_670 mX8_know KX8 rfl kv_X8_know ks_X8_know rfl km_RL_96 rfl (T_X8_know e200) (fun _ => rfl) rfl (Nat.le_of_ble_eq_true rfl) (Nat.le_of_ble_eq_true rfl) ⟨show 600 + 3 ≤ 600000 by omega, show 1000000 + 98304 ≤ 7302250 by omega⟩ (Nat.le_of_ble_eq_true rfl) ?_
                                              refine a_aload_n 2 dL_law_673 rfl ?_
                                              refine bn_s h (fun r202 σ204 e203 h => ?_)
                                              refine a_callVI dL_law_674 mX9_know KX9 rfl kv_X9_know ks_X9_know rfl km_RL_99 rfl (T_X9_know e203) (fun _ => rfl) rfl (Nat.le_of_ble_eq_true rfl) (Nat.le_of_ble_eq_true rfl) ⟨show 600 + 3 + 0 ≤ 600000 by omega, show 1000000 + 98304 + 0 ≤ 7302250 by omega⟩ (Nat.le_of_ble_eq_true rfl) ?_
                                              refine a_icmp_eq 968 dL_law_677 (by decide) rfl rfl h (fun c205 h => ?_) (fun c205 h => ?_)
                                              · skip
                                                refine a_widen (k' := 500000) (n' := 7000000) (by omega) (by omega) ?_
                                                have hh := hK7 _ h
                                                exact a_sub [0, 1, 2, 3] rfl hh
                                              · skip
                                                refine a_iconst dL_law_680 ?_
                                                cases h
                                            · skip
                                              refine a_if h (fun c206 h => ?_) (fun c206 h => ?_)
                                              · skip
                                                refine a_tsIn (off := 650) 682 dL_law_32 c206 (by decide) (by decide) (by decide) ?_
                                                refine a_aload_n 1 dL_law_682 rfl ?_
                                                refine a_aload_n 0 dL_law_683 rfl ?_
                                                refine a_iload_n 3 dL_law_684 rfl ?_
                                                refine a_iconst dL_law_685 ?_
                                                refine a_iadd dL_law_686 ?_
                                                refine a_gd h (fun c207 h => ?_)
                                                refine a_scr (x' := wi (q1.2 + 1)) dL_law_687 rfl c207 ?_
                                                refine bn_s h (fun r208 σ210 e209 h => ?_)
                                                refine a_callVI dL_law_688 mX8_spare KX8 rfl kv_X8_spare ks_X8_spare rfl km_RL_100 rfl (T_X8_spare e209) (fun _ => rfl) rfl (Nat.le_of_ble_eq_true rfl) (Nat.le_of_ble_eq_true rfl) ⟨show 600 + 6 ≤ 600000 by omega, show 1000000 + 196608 ≤ 7302250 by omega⟩ (Nat.le_of_ble_eq_true rfl) ?_
                                                refine a_aload_n 2 dL_law_691 rfl ?_
                                                refine a_aload_n 0 dL_law_692 rfl ?_
                                                refine a_iload_n 3 dL_law_693 rfl ?_
                                                refine a_iconst dL_law_694 ?_
                                                refine a_iadd dL_law_695 ?_
                                                refine a_gd h (fun c211 h => ?_)
                                                refine a_scr (x' := wi (q1.2 + 1)) dL_law_696 rfl c211 ?_
                                                refine bn_s h (fun r212 σ214 e213 h => ?_)
                                                refine a_callVI dL_law_697 mX9_spare KX9 rfl kv_X9_spare ks_X9_spare rfl km_RL_103 rfl (T_X9_spare e213) (fun _ => rfl) rfl (Nat.le_of_ble_eq_true rfl) (Nat.le_of_ble_eq_true rfl) ⟨show 600 + 6 + 0 ≤ 600000 by omega, show 1000000 + 196608 + 0 ≤ 7302250 by omega⟩ (Nat.le_of_ble_eq_true rfl) ?_
                                                refine a_icmp_eq 968 dL_law_700 (by decide) rfl rfl h (fun c215 h => ?_) (fun c215 h => ?_)
                                                · skip
                                                  refine a_widen (k' := 500000) (n' := 7000000) (by omega) (by omega) ?_
                                                  have hh := hK7 _ h
                                                  exact a_sub [0, 1, 2, 3] rfl hh
                                                · skip
                                                  refine a_iconst dL_law_703 ?_
                                                  cases h
                                              · skip
                                                refine a_if h (fun c216 h => ?_) (fun c216 h => ?_)
                                                · skip
                                                  refine a_tsIn (off := 673) 705 dL_law_32 c216 (by decide) (by decide) (by decide) ?_
                                                  refine a_aload_n 1 dL_law_705 rfl ?_
                                                  refine a_aload_n 0 dL_law_706 rfl ?_
                                                  refine a_iload_n 3 dL_law_707 rfl ?_
                                                  refine a_iconst dL_law_708 ?_
                                                  refine a_iadd dL_law_709 ?_
                                                  refine a_gd h (fun c217 h => ?_)
                                                  refine a_scr (x' := wi (q1.2 + 1)) dL_law_710 rfl c217 ?_
                                                  refine a_aload_n 0 dL_law_711 rfl ?_
                                                  refine a_iload_n 3 dL_law_712 rfl ?_
                                                  refine a_iconst dL_law_713 ?_
                                                  refine a_iadd dL_law_714 ?_
                                                  refine a_gd h (fun c218 h => ?_)
                                                  refine a_scr (x' := wi (q1.2 + 2)) dL_law_715 rfl c218 ?_
                                                  refine a_aload_n 0 dL_law_716 rfl ?_
                                                  refine a_iload_n 3 dL_law_717 rfl ?_
                                                  refine a_iconst dL_law_718 ?_
                                                  refine a_iadd dL_law_719 ?_
                                                  refine a_gd h (fun c219 h => ?_)
                                                  refine a_scr (x' := wi (q1.2 + 3)) dL_law_720 rfl c219 ?_
                                                  refine a_aload_n 0 dL_law_721 rfl ?_
                                                  refine a_iload_n 3 dL_law_722 rfl ?_
                                                  refine a_iconst dL_law_723 ?_
                                                  refine a_iadd dL_law_724 ?_
                                                  refine a_gd h (fun c220 h => ?_)
                                                  refine a_scr (x' := wi (q1.2 + 4)) dL_law_725 rfl c220 ?_
                                                  refine bn_s h (fun r221 σ223 e222 h => ?_)
                                                  refine a_callVL dL_law_726 mX8_stands KX8 rfl kv_X8_stands ks_X8_stands rfl km_RL_104 rfl (T_X8_stands e222) (fun _ => rfl) rfl (Nat.le_of_ble_eq_true rfl) (Nat.le_of_ble_eq_true rfl) ⟨show 600 + 0 ≤ 600000 by omega, show 1000000 + 0 ≤ 7302250 by omega⟩ (Nat.le_of_ble_eq_true rfl) ?_
                                                  refine a_aload_n 2 dL_law_729 rfl ?_
                                                  refine a_aload_n 0 dL_law_730 rfl ?_
                                                  refine a_iload_n 3 dL_law_731 rfl ?_
                                                  refine a_iconst dL_law_732 ?_
                                                  refine a_iadd dL_law_733 ?_
                                                  refine a_gd h (fun c224 h => ?_)
                                                  refine a_scr (x' := wi (q1.2 + 1)) dL_law_734 rfl c224 ?_
                                                  refine a_aload_n 0 dL_law_735 rfl ?_
                                                  refine a_iload_n 3 dL_law_736 rfl ?_
                                                  refine a_iconst dL_law_737 ?_
                                                  refine a_iadd dL_law_738 ?_
                                                  refine a_gd h (fun c225 h => ?_)
                                                  refine a_scr (x' := wi (q1.2 + 2)) dL_law_739 rfl c225 ?_
                                                  refine a_aload_n 0 dL_law_740 rfl ?_
                                                  refine a_iload_n 3 dL_law_741 rfl ?_
                                                  refine a_iconst dL_law_742 ?_
                                                  refine a_iadd dL_law_743 ?_
                                                  refine a_gd h (fun c226 h => ?_)
                                                  refine a_scr (x' := wi (q1.2 + 3)) dL_law_744 rfl c226 ?_
                                                  refine a_aload_n 0 dL_law_745 rfl ?_
                                                  refine a_iload_n 3 dL_law_746 rfl ?_
                                                  refine a_iconst dL_law_747 ?_
                                                  refine a_iadd dL_law_748 ?_
                                                  refine a_gd h (fun c227 h => ?_)
                                                  refine a_scr (x' := wi (q1.2 + 4)) dL_law_749 rfl c227 ?_
                                                  refine bn_s h (fun r228 σ230 e229 h => ?_)
                                                  refine a_callVL dL_law_750 mX9_stands KX9 rfl kv_X9_stands ks_X9_stands rfl km_RL_108 rfl (T_X9_stands e229) (fun _ => rfl) rfl (Nat.le_of_ble_eq_true rfl) (Nat.le_of_ble_eq_true rfl) ⟨show 600 + 0 + 0 ≤ 600000 by omega, show 1000000 + 0 + 0 ≤ 7302250 by omega⟩ (Nat.le_of_ble_eq_true rfl) ?_
                                                  refine a_lcmp dL_law_753 ?_
                                                  refine a_if_eq 968 dL_law_754 (by decide) rfl h (fun c231 h => ?_) (fun c231 h => ?_)
                                                  · skip
                                                    refine a_widen (k' := 500000) (n' := 7000000) (by omega) (by omega) ?_
                                                    have hh := hK7 _ h
                                                    exact a_sub [0, 1, 2, 3] rfl hh
                                                  · skip
                                                    refine a_iconst dL_law_757 ?_
                                                    cases h
                                                · skip
                                                  refine a_if h (fun c232 h => ?_) (fun c232 h => ?_)
                                                  · skip
                                                    refine a_tsIn (off := 727) 759 dL_law_32 c232 (by decide) (by decide) (by decide) ?_
                                                    refine a_aload_n 1 dL_law_759 rfl ?_
                                                    refine a_aload_n 0 dL_law_760 rfl ?_
                                                    refine a_iload_n 3 dL_law_761 rfl ?_
                                                    refine a_iconst dL_law_762 ?_
                                                    refine a_iadd dL_law_763 ?_
                                                    refine a_gd h (fun c233 h => ?_)
                                                    refine a_scr (x' := wi (q1.2 + 1)) dL_law_764 rfl c233 ?_
                                                    refine bn_s h (fun r234 σ236 e235 h => ?_)
                                                    refine a_callVI dL_law_765 mX8_thought KX8 rfl kv_X8_thought ks_X8_thought rfl km_RL_109 rfl (T_X8_thought e235) (fun _ => rfl) rfl (Nat.le_of_ble_eq_true rfl) (Nat.le_of_ble_eq_true rfl) ⟨show 600 + 0 ≤ 600000 by omega, show 1000000 + 0 ≤ 7302250 by omega⟩ (Nat.le_of_ble_eq_true rfl) ?_
                                                    refine a_aload_n 2 dL_law_768 rfl ?_
                                                    refine a_aload_n 0 dL_law_769 rfl ?_
                                                    refine a_iload_n 3 dL_law_770 rfl ?_
                                                    refine a_iconst dL_law_771 ?_
                                                    refine a_iadd dL_law_772 ?_
                                                    refine a_gd h (fun c237 h => ?_)
                                                    refine a_scr (x' := wi (q1.2 + 1)) dL_law_773 rfl c237 ?_
                                                    refine bn_s h (fun r238 σ240 e239 h => ?_)
                                                    refine a_callVI dL_law_774 mX9_thought KX9 rfl kv_X9_thought ks_X9_thought rfl km_RL_112 rfl (T_X9_thought e239) (fun _ => rfl) rfl (Nat.le_of_ble_eq_true rfl) (Nat.le_of_ble_eq_true rfl) ⟨show 600 + 0 + 0 ≤ 600000 by omega, show 1000000 + 0 + 0 ≤ 7302250 by omega⟩ (Nat.le_of_ble_eq_true rfl) ?_
                                                    refine a_icmp_eq 968 dL_law_777 (by decide) rfl rfl h (fun c241 h => ?_) (fun c241 h => ?_)
                                                    · skip
                                                      refine a_widen (k' := 500000) (n' := 7000000) (by omega) (by omega) ?_
                                                      have hh := hK7 _ h
                                                      exact a_sub [0, 1, 2, 3] rfl hh
                                                    · skip
                                                      refine a_iconst dL_law_780 ?_
                                                      cases h
                                                  · skip
                                                    refine a_if h (fun c242 h => ?_) (fun c242 h => ?_)
                                                    · skip
                                                      refine a_tsIn (off := 750) 782 dL_law_32 c242 (by decide) (by decide) (by decide) ?_
                                                      refine a_aload_n 1 dL_law_782 rfl ?_
                                                      refine bn_s h (fun r243 σ245 e244 h => ?_)
                                                      refine a_callVI dL_law_783 mX8_aged KX8 rfl kv_X8_aged ks_X8_aged rfl km_RL_113 rfl (T_X8_aged e244) (fun _ => rfl) rfl (Nat.le_of_ble_eq_true rfl) (Nat.le_of_ble_eq_true rfl) ⟨show 600 + 0 ≤ 600000 by omega, show 1000000 + 0 ≤ 7302250 by omega⟩ (Nat.le_of_ble_eq_true rfl) ?_
                                                      refine a_aload_n 2 dL_law_786 rfl ?_
                                                      refine bn_s h (fun r246 σ248 e247 h => ?_)
                                                      refine a_callVI dL_law_787 mX9_aged KX9 rfl kv_X9_aged ks_X9_aged rfl km_RL_116 rfl (T_X9_aged e247) (fun _ => rfl) rfl (Nat.le_of_ble_eq_true rfl) (Nat.le_of_ble_eq_true rfl) ⟨show 600 + 0 + 0 ≤ 600000 by omega, show 1000000 + 0 + 0 ≤ 7302250 by omega⟩ (Nat.le_of_ble_eq_true rfl) ?_
                                                      refine a_icmp_eq 968 dL_law_790 (by decide) rfl rfl h (fun c249 h => ?_) (fun c249 h => ?_)
                                                      · skip
                                                        refine a_widen (k' := 500000) (n' := 7000000) (by omega) (by omega) ?_
                                                        have hh := hK7 _ h
                                                        exact a_sub [0, 1, 2, 3] rfl hh
                                                      · skip
                                                        refine a_iconst dL_law_793 ?_
                                                        cases h
                                                    · skip
                                                      refine a_if h (fun c250 h => ?_) (fun c250 h => ?_)
                                                      · skip
                                                        refine a_tsIn (off := 763) 795 dL_law_32 c250 (by decide) (by decide) (by decide) ?_
                                                        refine a_aload_n 1 dL_law_795 rfl ?_
                                                        refine a_aload_n 0 dL_law_796 rfl ?_
                                                        refine a_iload_n 3 dL_law_797 rfl ?_
                                                        refine a_iconst dL_law_798 ?_
                                                        refine a_iadd dL_law_799 ?_
                                                        refine a_gd h (fun c251 h => ?_)
                                                        refine a_scr (x' := wi (q1.2 + 1)) dL_law_800 rfl c251 ?_
                                                        refine bn_s h (fun r252 σ254 e253 h => ?_)
                                                        refine a_callVI dL_law_801 mX8_shown KX8 rfl kv_X8_shown ks_X8_shown rfl km_RL_117 rfl (T_X8_shown e253) (fun _ => rfl) rfl (Nat.le_of_ble_eq_true rfl) (Nat.le_of_ble_eq_true rfl) ⟨show 600 + 0 ≤ 600000 by omega, show 1000000 + 0 ≤ 7302250 by omega⟩ (Nat.le_of_ble_eq_true rfl) ?_
                                                        refine a_aload_n 2 dL_law_804 rfl ?_
                                                        refine a_aload_n 0 dL_law_805 rfl ?_
                                                        refine a_iload_n 3 dL_law_806 rfl ?_
                                                        refine a_iconst dL_law_807 ?_
                                                        refine a_iadd dL_law_808 ?_
                                                        refine a_gd h (fun c255 h => ?_)
                                                        refine a_scr (x' := wi (q1.2 + 1)) dL_law_809 rfl c255 ?_
                                                        refine bn_s h (fun r256 σ258 e257 h => ?_)
                                                        refine a_callVI dL_law_810 mX9_shown KX9 rfl kv_X9_shown ks_X9_shown rfl km_RL_120 rfl (T_X9_shown e257) (fun _ => rfl) rfl (Nat.le_of_ble_eq_true rfl) (Nat.le_of_ble_eq_true rfl) ⟨show 600 + 0 + 0 ≤ 600000 by omega, show 1000000 + 0 + 0 ≤ 7302250 by omega⟩ (Nat.le_of_ble_eq_true rfl) ?_
                                                        refine a_icmp_eq 968 dL_law_813 (by decide) rfl rfl h (fun c259 h => ?_) (fun c259 h => ?_)
                                                        · skip
                                                          refine a_widen (k' := 500000) (n' := 7000000) (by omega) (by omega) ?_
                                                          have hh := hK7 _ h
                                                          exact a_sub [0, 1, 2, 3] rfl hh
                                                        · skip
                                                          refine a_iconst dL_law_816 ?_
                                                          cases h
                                                      · skip
                                                        refine a_if h (fun c260 h => ?_) (fun c260 h => ?_)
                                                        · skip
                                                          refine a_tsIn (off := 786) 818 dL_law_32 c260 (by decide) (by decide) (by decide) ?_
                                                          refine a_aload_n 1 dL_law_818 rfl ?_
                                                          refine a_aload_n 0 dL_law_819 rfl ?_
                                                          refine a_iload_n 3 dL_law_820 rfl ?_
                                                          refine a_iconst dL_law_821 ?_
                                                          refine a_iadd dL_law_822 ?_
                                                          refine a_gd h (fun c261 h => ?_)
                                                          refine a_scr (x' := wi (q1.2 + 1)) dL_law_823 rfl c261 ?_
                                                          refine a_aload_n 0 dL_law_824 rfl ?_
                                                          refine a_iload_n 3 dL_law_825 rfl ?_
                                                          refine a_iconst dL_law_826 ?_
                                                          refine a_iadd dL_law_827 ?_
                                                          refine a_gd h (fun c262 h => ?_)
                                                          refine a_scr (x' := wi (q1.2 + 2)) dL_law_828 rfl c262 ?_
                                                          refine bp_s h (fun r263 e264 h => ?_)
                                                          refine a_callVL dL_law_829 mX8_thinks KX8 rfl kv_X8_thinks ks_X8_thinks rfl km_RL_121 rfl (T_X8_thinks e264) (fun _ => rfl) rfl (Nat.le_of_ble_eq_true rfl) (Nat.le_of_ble_eq_true rfl) ⟨show 600 + 0 ≤ 600000 by omega, show 1000000 + 0 ≤ 7302250 by omega⟩ (Nat.le_of_ble_eq_true rfl) ?_
                                                          refine a_aload_n 2 dL_law_832 rfl ?_
                                                          refine a_aload_n 0 dL_law_833 rfl ?_
                                                          refine a_iload_n 3 dL_law_834 rfl ?_
                                                          refine a_iconst dL_law_835 ?_
                                                          refine a_iadd dL_law_836 ?_
                                                          refine a_gd h (fun c265 h => ?_)
                                                          refine a_scr (x' := wi (q1.2 + 1)) dL_law_837 rfl c265 ?_
                                                          refine a_aload_n 0 dL_law_838 rfl ?_
                                                          refine a_iload_n 3 dL_law_839 rfl ?_
                                                          refine a_iconst dL_law_840 ?_
                                                          refine a_iadd dL_law_841 ?_
                                                          refine a_gd h (fun c266 h => ?_)
                                                          refine a_scr (x' := wi (q1.2 + 2)) dL_law_842 rfl c266 ?_
                                                          refine bp_s h (fun r267 e268 h => ?_)
                                                          refine a_callVL dL_law_843 mX9_thinks KX9 rfl kv_X9_thinks ks_X9_thinks rfl km_RL_125 rfl (T_X9_thinks e268) (fun _ => rfl) rfl (Nat.le_of_ble_eq_true rfl) (Nat.le_of_ble_eq_true rfl) ⟨show 600 + 0 + 0 ≤ 600000 by omega, show 1000000 + 0 + 0 ≤ 7302250 by omega⟩ (Nat.le_of_ble_eq_true rfl) ?_
                                                          refine a_lcmp dL_law_846 ?_
                                                          refine a_if_eq 968 dL_law_847 (by decide) rfl h (fun c269 h => ?_) (fun c269 h => ?_)
                                                          · skip
                                                            refine a_widen (k' := 500000) (n' := 7000000) (by omega) (by omega) ?_
                                                            have hh := hK7 _ h
                                                            exact a_sub [0, 1, 2, 3] rfl hh
                                                          · skip
                                                            refine a_iconst dL_law_850 ?_
                                                            cases h
                                                        · skip
                                                          refine a_if h (fun c270 h => ?_) (fun c270 h => ?_)
                                                          · skip
                                                            refine a_tsIn (off := 820) 852 dL_law_32 c270 (by decide) (by decide) (by decide) ?_
                                                            refine a_aload_n 1 dL_law_852 rfl ?_
                                                            refine a_aload_n 0 dL_law_853 rfl ?_
                                                            refine a_iload_n 3 dL_law_854 rfl ?_
                                                            refine a_iconst dL_law_855 ?_
                                                            refine a_iadd dL_law_856 ?_
                                                            refine a_gd h (fun c271 h => ?_)
                                                            refine a_scr (x' := wi (q1.2 + 1)) dL_law_857 rfl c271 ?_
                                                            refine a_aload_n 0 dL_law_858 rfl ?_
                                                            refine a_iload_n 3 dL_law_859 rfl ?_
                                                            refine a_iconst dL_law_860 ?_
                                                            refine a_iadd dL_law_861 ?_
                                                            refine a_gd h (fun c272 h => ?_)
                                                            refine a_scr (x' := wi (q1.2 + 2)) dL_law_862 rfl c272 ?_
                                                            refine bn_s h (fun r273 σ275 e274 h => ?_)
                                                            refine a_callVI dL_law_863 mX8_note KX8 rfl kv_X8_note ks_X8_note rfl km_RL_126 rfl (T_X8_note e274) (fun _ => rfl) rfl (Nat.le_of_ble_eq_true rfl) (Nat.le_of_ble_eq_true rfl) ⟨show 600 + 0 ≤ 600000 by omega, show 1000000 + 0 ≤ 7302250 by omega⟩ (Nat.le_of_ble_eq_true rfl) ?_
                                                            refine a_aload_n 2 dL_law_866 rfl ?_
                                                            refine a_aload_n 0 dL_law_867 rfl ?_
                                                            refine a_iload_n 3 dL_law_868 rfl ?_
                                                            refine a_iconst dL_law_869 ?_
                                                            refine a_iadd dL_law_870 ?_
                                                            refine a_gd h (fun c276 h => ?_)
                                                            refine a_scr (x' := wi (q1.2 + 1)) dL_law_871 rfl c276 ?_
                                                            refine a_aload_n 0 dL_law_872 rfl ?_
                                                            refine a_iload_n 3 dL_law_873 rfl ?_
                                                            refine a_iconst dL_law_874 ?_
                                                            refine a_iadd dL_law_875 ?_
                                                            refine a_gd h (fun c277 h => ?_)
                                                            refine a_scr (x' := wi (q1.2 + 2)) dL_law_876 rfl c277 ?_
                                                            refine bn_s h (fun r278 σ280 e279 h => ?_)
                                                            refine a_callVI dL_law_877 mX9_note KX9 rfl kv_X9_note ks_X9_note rfl km_RL_129 rfl (T_X9_note e279) (fun _ => rfl) rfl (Nat.le_of_ble_eq_true rfl) (Nat.le_of_ble_eq_true rfl) ⟨show 600 + 0 + 0 ≤ 600000 by omega, show 1000000 + 0 + 0 ≤ 7302250 by omega⟩ (Nat.le_of_ble_eq_true rfl) ?_
                                                            refine a_icmp_eq 968 dL_law_880 (by decide) rfl rfl h (fun c281 h => ?_) (fun c281 h => ?_)
                                                            · skip
                                                              refine a_widen (k' := 500000) (n' := 7000000) (by omega) (by omega) ?_
                                                              have hh := hK7 _ h
                                                              exact a_sub [0, 1, 2, 3] rfl hh
                                                            · skip
                                                              refine a_iconst dL_law_883 ?_
                                                              cases h
                                                          · skip
                                                            refine a_if h (fun c282 h => ?_) (fun c282 h => ?_)
                                                            · skip
                                                              refine a_tsIn (off := 853) 885 dL_law_32 c282 (by decide) (by decide) (by decide) ?_
                                                              refine a_aload_n 1 dL_law_885 rfl ?_
                                                              refine a_aload_n 0 dL_law_886 rfl ?_
                                                              refine a_iload_n 3 dL_law_887 rfl ?_
                                                              refine a_iconst dL_law_888 ?_
                                                              refine a_iadd dL_law_889 ?_
                                                              refine a_gd h (fun c283 h => ?_)
                                                              refine a_scr (x' := wi (q1.2 + 1)) dL_law_890 rfl c283 ?_
                                                              refine bn_s h (fun r284 σ286 e285 h => ?_)
                                                              refine a_callVI dL_law_891 mX8_keep KX8 rfl kv_X8_keep ks_X8_keep rfl km_RL_130 rfl (T_X8_keep e285) (fun _ => rfl) rfl (Nat.le_of_ble_eq_true rfl) (Nat.le_of_ble_eq_true rfl) ⟨show 600 + 0 ≤ 600000 by omega, show 1000000 + 0 ≤ 7302250 by omega⟩ (Nat.le_of_ble_eq_true rfl) ?_
                                                              refine a_aload_n 2 dL_law_894 rfl ?_
                                                              refine a_aload_n 0 dL_law_895 rfl ?_
                                                              refine a_iload_n 3 dL_law_896 rfl ?_
                                                              refine a_iconst dL_law_897 ?_
                                                              refine a_iadd dL_law_898 ?_
                                                              refine a_gd h (fun c287 h => ?_)
                                                              refine a_scr (x' := wi (q1.2 + 1)) dL_law_899 rfl c287 ?_
                                                              refine bn_s h (fun r288 σ290 e289 h => ?_)
                                                              refine a_callVI dL_law_900 mX9_keep KX9 rfl kv_X9_keep ks_X9_keep rfl km_RL_133 rfl (T_X9_keep e289) (fun _ => rfl) rfl (Nat.le_of_ble_eq_true rfl) (Nat.le_of_ble_eq_true rfl) ⟨show 600 + 0 + 0 ≤ 600000 by omega, show 1000000 + 0 + 0 ≤ 7302250 by omega⟩ (Nat.le_of_ble_eq_true rfl) ?_
                                                              refine a_icmp_eq 968 dL_law_903 (by decide) rfl rfl h (fun c291 h => ?_) (fun c291 h => ?_)
                                                              · skip
                                                                refine a_widen (k' := 500000) (n' := 7000000) (by omega) (by omega) ?_
                                                                have hh := hK7 _ h
                                                                exact a_sub [0, 1, 2, 3] rfl hh
                                                              · skip
                                                                refine a_iconst dL_law_906 ?_
                                                                cases h
                                                            · skip
                                                              refine a_if h (fun c292 h => ?_) (fun c292 h => ?_)
                                                              · skip
                                                                refine a_tsIn (off := 876) 908 dL_law_32 c292 (by decide) (by decide) (by decide) ?_
                                                                refine a_aload_n 1 dL_law_908 rfl ?_
                                                                refine a_aload_n 0 dL_law_909 rfl ?_
                                                                refine a_iload_n 3 dL_law_910 rfl ?_
                                                                refine a_iconst dL_law_911 ?_
                                                                refine a_iadd dL_law_912 ?_
                                                                refine a_gd h (fun c293 h => ?_)
                                                                refine a_scr (x' := wi (q1.2 + 1)) dL_law_913 rfl c293 ?_
                                                                refine bn_s h (fun r294 σ296 e295 h => ?_)
                                                                refine a_callVI dL_law_914 mX8_back KX8 rfl kv_X8_back ks_X8_back rfl km_RL_134 rfl (T_X8_back e295) (fun _ => rfl) rfl (Nat.le_of_ble_eq_true rfl) (Nat.le_of_ble_eq_true rfl) ⟨show 600 + 0 ≤ 600000 by omega, show 1000000 + 0 ≤ 7302250 by omega⟩ (Nat.le_of_ble_eq_true rfl) ?_
                                                                refine a_aload_n 2 dL_law_917 rfl ?_
                                                                refine a_aload_n 0 dL_law_918 rfl ?_
                                                                refine a_iload_n 3 dL_law_919 rfl ?_
                                                                refine a_iconst dL_law_920 ?_
                                                                refine a_iadd dL_law_921 ?_
                                                                refine a_gd h (fun c297 h => ?_)
                                                                refine a_scr (x' := wi (q1.2 + 1)) dL_law_922 rfl c297 ?_
                                                                refine bn_s h (fun r298 σ300 e299 h => ?_)
                                                                refine a_callVI dL_law_923 mX9_back KX9 rfl kv_X9_back ks_X9_back rfl km_RL_137 rfl (T_X9_back e299) (fun _ => rfl) rfl (Nat.le_of_ble_eq_true rfl) (Nat.le_of_ble_eq_true rfl) ⟨show 600 + 0 + 0 ≤ 600000 by omega, show 1000000 + 0 + 0 ≤ 7302250 by omega⟩ (Nat.le_of_ble_eq_true rfl) ?_
                                                                refine a_icmp_eq 968 dL_law_926 (by decide) rfl rfl h (fun c301 h => ?_) (fun c301 h => ?_)
                                                                · skip
                                                                  refine a_widen (k' := 500000) (n' := 7000000) (by omega) (by omega) ?_
                                                                  have hh := hK7 _ h
                                                                  exact a_sub [0, 1, 2, 3] rfl hh
                                                                · skip
                                                                  refine a_iconst dL_law_929 ?_
                                                                  cases h
                                                              · skip
                                                                refine a_if h (fun c302 h => ?_) (fun c302 h => ?_)
                                                                · skip
                                                                  refine a_tsIn (off := 899) 931 dL_law_32 c302 (by decide) (by decide) (by decide) ?_
                                                                  refine a_aload_n 1 dL_law_931 rfl ?_
                                                                  refine a_aload_n 0 dL_law_932 rfl ?_
                                                                  refine a_iload_n 3 dL_law_933 rfl ?_
                                                                  refine a_iconst dL_law_934 ?_
                                                                  refine a_iadd dL_law_935 ?_
                                                                  refine a_gd h (fun c303 h => ?_)
                                                                  refine a_scr (x' := wi (q1.2 + 1)) dL_law_936 rfl c303 ?_
                                                                  refine bp_s h (fun r304 e305 h => ?_)
                                                                  refine a_callVI dL_law_937 mX8_count KX8 rfl kv_X8_count ks_X8_count rfl km_RL_138 rfl (T_X8_count e305) (fun _ => rfl) rfl (Nat.le_of_ble_eq_true rfl) (Nat.le_of_ble_eq_true rfl) ⟨show 600 + 0 ≤ 600000 by omega, show 1000000 + 0 ≤ 7302250 by omega⟩ (Nat.le_of_ble_eq_true rfl) ?_
                                                                  refine a_aload_n 2 dL_law_940 rfl ?_
                                                                  refine a_aload_n 0 dL_law_941 rfl ?_
                                                                  refine a_iload_n 3 dL_law_942 rfl ?_
                                                                  refine a_iconst dL_law_943 ?_
                                                                  refine a_iadd dL_law_944 ?_
                                                                  refine a_gd h (fun c306 h => ?_)
                                                                  refine a_scr (x' := wi (q1.2 + 1)) dL_law_945 rfl c306 ?_
                                                                  refine bp_s h (fun r307 e308 h => ?_)
                                                                  refine a_callVI dL_law_946 mX9_count KX9 rfl kv_X9_count ks_X9_count rfl km_RL_141 rfl (T_X9_count e308) (fun _ => rfl) rfl (Nat.le_of_ble_eq_true rfl) (Nat.le_of_ble_eq_true rfl) ⟨show 600 + 0 + 0 ≤ 600000 by omega, show 1000000 + 0 + 0 ≤ 7302250 by omega⟩ (Nat.le_of_ble_eq_true rfl) ?_
                                                                  refine a_icmp_eq 968 dL_law_949 (by decide) rfl rfl h (fun c309 h => ?_) (fun c309 h => ?_)
                                                                  · skip
                                                                    refine a_widen (k' := 500000) (n' := 7000000) (by omega) (by omega) ?_
                                                                    have hh := hK7 _ h
                                                                    exact a_sub [0, 1, 2, 3] rfl hh
                                                                  · skip
                                                                    refine a_iconst dL_law_952 ?_
                                                                    cases h
                                                                · skip
                                                                  refine a_if h (fun c310 h => ?_) (fun c310 h => ?_)
                                                                  · skip
                                                                    refine a_tsIn (off := 922) 954 dL_law_32 c310 (by decide) (by decide) (by decide) ?_
                                                                    refine a_aload_n 1 dL_law_954 rfl ?_
                                                                    refine bp_s h (fun r311 e312 h => ?_)
                                                                    refine a_callVL dL_law_955 mX8_trace KX8 rfl kv_X8_trace ks_X8_trace rfl km_RL_142 rfl (T_X8_trace e312) (fun _ => rfl) rfl (Nat.le_of_ble_eq_true rfl) (Nat.le_of_ble_eq_true rfl) ⟨show 600 + 0 ≤ 600000 by omega, show 1000000 + 0 ≤ 7302250 by omega⟩ (Nat.le_of_ble_eq_true rfl) ?_
                                                                    refine a_aload_n 2 dL_law_958 rfl ?_
                                                                    refine bp_s h (fun r313 e314 h => ?_)
                                                                    refine a_callVL dL_law_959 mX9_trace KX9 rfl kv_X9_trace ks_X9_trace rfl km_RL_146 rfl (T_X9_trace e314) (fun _ => rfl) rfl (Nat.le_of_ble_eq_true rfl) (Nat.le_of_ble_eq_true rfl) ⟨show 600 + 0 + 0 ≤ 600000 by omega, show 1000000 + 0 + 0 ≤ 7302250 by omega⟩ (Nat.le_of_ble_eq_true rfl) ?_
                                                                    refine a_lcmp dL_law_962 ?_
                                                                    refine a_if_eq 968 dL_law_963 (by decide) rfl h (fun c315 h => ?_) (fun c315 h => ?_)
                                                                    · skip
                                                                      refine a_widen (k' := 500000) (n' := 7000000) (by omega) (by omega) ?_
                                                                      have hh := hK7 _ h
                                                                      exact a_sub [0, 1, 2, 3] rfl hh
                                                                    · skip
                                                                      refine a_iconst dL_law_966 ?_
                                                                      cases h
                                                                  · skip
                                                                    refine a_tsOut (v := wi (q_and ((xs (wi q1.2).toNat).toInt) 31)) 968 dL_law_32 rfl (by omega) (by decide) ?_
                                                                    refine a_widen (k' := 500000) (n' := 7000000) (by omega) (by omega) ?_
                                                                    have hh := hK7 _ h
                                                                    exact a_sub [0, 1, 2, 3] rfl hh
