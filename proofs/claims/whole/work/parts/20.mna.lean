theorem arrV_congr {c : ClassId} {N : Nat} {f g : Nat → Value} (h : ∀ j, j < N → f j = g j) : arrV c N f = arrV c N g := by
  unfold arrV
  have e : (fun j : Fin N => f j.val) = (fun j : Fin N => g j.val) := funext fun j => h j.val j.isLt
  rw [e]
theorem c_outer (c : ClassId) (N h0 : Nat) : ∀ i : Nat, Jvm.Free.Multi.outerC c N h0 i = arrV c N (fun j => va_rf (if j < i then some (h0 + 1 + j) else none))
  | 0 => by
    show ({ cls := c, slots := Array.replicate N .null, vm := .none } : Cell) = _
    rw [arrV_new]
    refine congrArg (arrV c N) (funext fun j => ?_)
    simp [va_rf]
  | i + 1 => by
    show (Jvm.Free.Multi.outerC c N h0 i).setSlot i (.ref (h0 + 1 + i)) = _
    rw [c_outer c N h0 i, arrV_store]
    refine congrArg (arrV c N) (funext fun j => ?_)
    by_cases e : j = i
    · subst e
      simp [updV, va_rf]
    · by_cases h : j < i
      · simp [updV, e, h, Nat.lt_succ_of_lt h]
      · simp [updV, e, h, show ¬ j < i + 1 by omega]
theorem sH_pushN {G : sG} (hG : gF G = false) {Sh : List sE} {σ : sM} {es : List sE} {H H1 : Heap} (hH : sH G (Sh, σ) H) (hz : H1.size = H.size + es.length) (ho : ∀ q : Nat, q < H.size → H1[q]? = H[q]?) (hc : ∀ (j : Nat) (e : sE), es[j]? = some e → ∃ cell, H1[H.size + j]? = some cell ∧ cell.slots.size = szE e ∧ va_at (gD G) vwCl (gP G (Sh.length + j), fillE (gP G) (gA G) e (fun _ => 0)) H1) : sH G (Sh ++ es, fun k j => if k < Sh.length then σ k j else 0) H1 := by
  have hsz : H.size = gB G + Sh.length := hH.2.1
  refine ⟨fun k q hk => ?_, ?_, fun k e hk => ?_⟩
  · rw [ws_at] at hk
    have hk1 : ((Sh ++ es)[k]?).map (fun e => (gP G k, fillE (gP G) (gA G) e (fun j => if k < Sh.length then σ k j else 0))) = some q := hk
    by_cases h : k < Sh.length
    · rw [List.getElem?_append_left h] at hk1
      cases hs : Sh[k]? with
      | none => rw [hs] at hk1; cases hk1
      | some e =>
        rw [hs] at hk1
        have hq : q = (gP G k, fillE (gP G) (gA G) e (σ k)) := by
          have := Option.some.inj hk1
          rw [← this]
          show (gP G k, fillE (gP G) (gA G) e (fun j => if k < Sh.length then σ k j else 0)) = _
          rw [show (fun j => if k < Sh.length then σ k j else 0) = σ k from funext fun j => if_pos h]
        have h2 := hH.1 k q (by rw [hq]; exact ws_some (S := (Sh, σ)) hs)
        exact h2.kept (ho q.1 h2.lt)
    · rw [List.getElem?_append_right (Nat.not_lt.mp h)] at hk1
      cases hs : es[k - Sh.length]? with
      | none => rw [hs] at hk1; cases hk1
      | some e =>
        rw [hs] at hk1
        obtain ⟨cell, -, -, h3⟩ := hc _ e hs
        have hq : q = (gP G (Sh.length + (k - Sh.length)), fillE (gP G) (gA G) e (fun _ => 0)) := by
          have := Option.some.inj hk1
          rw [← this]
          show (gP G k, fillE (gP G) (gA G) e (fun j => if k < Sh.length then σ k j else 0)) = _
          rw [show (fun j => if k < Sh.length then σ k j else 0) = (fun _ => 0) from funext fun j => if_neg h, show Sh.length + (k - Sh.length) = k by omega]
        rw [hq]; exact h3
  · rw [hz, hsz]; show gB G + Sh.length + es.length = gB G + (Sh ++ es).length; rw [List.length_append]; omega
  · have hk1 : (Sh ++ es)[k]? = some e := hk
    by_cases h : k < Sh.length
    · rw [List.getElem?_append_left h] at hk1
      rw [ho _ (by rw [gP_f hG]; omega)]
      exact hH.2.2 k e hk1
    · rw [List.getElem?_append_right (Nat.not_lt.mp h)] at hk1
      obtain ⟨cell, h1, h2, -⟩ := hc _ e hk1
      rw [show gP G k = H.size + (k - Sh.length) by rw [gP_f hG]; omega, h1]
      exact congrArg some h2
section MNA
variable {G : sG} {cc : ByteArray} {own mn : String} {nL : Nat} {ret : Option FieldType} {R : Room} {Q : List Frame → Array Value → State → State → Prop} {Xp : State → Array Value → Prop} {k n : Nat} {Sh : List sE} {σ : sM} {L : List (Nat × Value)} {pc : Nat} {st : List Value}
theorem a_mna (hG : gF G = false) {i : Nat} (hd : decode cc pc = .ok (.multianewarray i 2, 4)) (hcl : Cond.classLink own i "[[I" ∈ lw_good) (ha : Cond.arrayClass .int ∈ lw_good) (hk : k + 5 ≤ R.cells) (hn : n + 60 ≤ R.slots)
    (kk : aW G cc own mn nL ret R Q Xp (k + 5) (n + 60) (Sh ++ [.inr (.array .int, 4, fun j => some (Sh.length + 1 + j)), .inr (.int, 14, fun _ => none), .inr (.int, 14, fun _ => none), .inr (.int, 14, fun _ => none), .inr (.int, 14, fun _ => none)], fun k j => if k < Sh.length then σ k j else 0) L (pc + 4) (.ref (gP G Sh.length) :: st)) : aW G cc own mn nL ret R Q Xp k n (Sh, σ) L pc (vI 14 :: vI 4 :: st) := by
  intro p e s m args below meth c C H locs ls hH hS hl
  intro T hT Xs
  have hsz : H.size = gB G + Sh.length := hH.2.1
  obtain ⟨vm₁, cA, comp, -, fA, fC, hO, hI, X', step⟩ := Xs.multianewarray2F C.1 (ty := .int) C.2.2.2.2.1 (C.2.2.2.2.2.1 _ hcl) (show (Cond.arrayOver (.array .int)).before args s = true from C.2.2.2.2.2.2.2.2.1.1) (C.2.2.2.2.2.1 _ ha) (g := F0 m pc ls (vI 14 :: vI 4 :: st)) rfl (by rw [C.2.1]; exact hd) rfl (by decide) (by decide) (by decide) (by decide) (by decide) rfl rfl (by show k + (1 + 4) ≤ R.cells; omega) (by show n + (4 + 4 * 14) ≤ R.slots; omega)
  have eA : cA = gA G (.array .int) := Option.some.inj (fA.symm.trans (C.2.2.2.2.2.2.2.2.1.2.1.2 4 _ rfl).2)
  have eC : comp = gA G .int := Option.some.inj (fC.symm.trans (C.2.2.2.2.2.2.2.2.1.2.1.2 0 _ rfl).2)
  subst eA; subst eC
  have hn4 : (Int32.ofInt 4).toNatClampNeg = 4 := by decide
  have hk14 : (Int32.ofInt 14).toNatClampNeg = 14 := by decide
  rw [hn4, hk14] at X' step
  generalize hF : Jvm.Free.Multi.fill (T.setVm vm₁) (gA G (.array .int)) (gA G .int) 4 14 (defaultValue .int) 4 = F at X' step
  have hTh : (T.setVm vm₁).heap = H := hT
  obtain ⟨f1, f2, -, -⟩ := Jvm.Free.Multi.fill_facts (T.setVm vm₁) (gA G (.array .int)) (gA G .int) 4 14 (defaultValue .int) 4
  rw [hF, hTh] at f1 f2
  have hold : ∀ x : Nat, x < H.size → F.heap[x]? = H[x]? := fun x hx => by
    have := Jvm.Free.Multi.fill_old (T.setVm vm₁) (gA G (.array .int)) (gA G .int) 4 14 (defaultValue .int) (a := x) (by rw [hTh]; exact hx) 4
    rw [hF, hTh] at this
    exact this
  have hrow : ∀ j : Nat, j < 4 → F.heap[H.size + 1 + j]? = some (vp_cell (gA G .int) (14, .inl (fun _ => 0))) := fun j hj => by
    have := Jvm.Free.Multi.fill_inner (T.setVm vm₁) (gA G (.array .int)) (gA G .int) 4 14 (defaultValue .int) 4 j hj
    rw [hF, hTh] at this
    rw [this]
    exact congrArg some (arrV_new (gA G .int) 14 (.int 0))
  have hout : F.heap[H.size]? = some (vp_cell (gA G (.array .int)) (4, .inr (.inr (.inr (.inr (fun j => (some (Sh.length + 1 + j)).map (fun a => gP G a))))))) := by
    rw [f2, c_outer, vp_cell_q]
    refine congrArg some (arrV_congr (fun j hj => ?_))
    rw [if_pos hj, hsz]
    show Value.ref (gB G + Sh.length + 1 + j) = Value.ref (gP G (Sh.length + 1 + j))
    rw [show gB G + Sh.length + 1 + j = gP G (Sh.length + 1 + j) by rw [gP_f hG]; omega]
  have hsH : sH G (Sh ++ [.inr (.array .int, 4, fun j => some (Sh.length + 1 + j)), .inr (.int, 14, fun _ => none), .inr (.int, 14, fun _ => none), .inr (.int, 14, fun _ => none), .inr (.int, 14, fun _ => none)], fun k j => if k < Sh.length then σ k j else 0) F.heap := by
    refine sH_pushN hG hH (by rw [f1]; rfl) hold (fun j e he => ?_)
    match j, he with
    | 0, he =>
      cases he
      exact ⟨_, hout, arrV_size _ _ _, by show F.heap[gP G (Sh.length + 0)]? = _; rw [Nat.add_zero, gP_f hG, ← hsz]; exact hout⟩
    | j + 1, he =>
      have hj : j < 4 := by
        have := (List.getElem?_eq_some_iff.mp he).1
        simp at this; omega
      have he2 : e = .inr (.int, 14, fun _ => none) := by
        match j, hj, he with
        | 0, _, he => cases he; rfl
        | 1, _, he => cases he; rfl
        | 2, _, he => cases he; rfl
        | 3, _, he => cases he; rfl
      subst he2
      have hr := hrow j hj
      rw [show H.size + 1 + j = H.size + (j + 1) by omega] at hr
      refine ⟨_, hr, arrV_size _ _ _, ?_⟩
      show F.heap[gP G (Sh.length + (j + 1))]? = _
      rw [show gP G (Sh.length + (j + 1)) = H.size + (j + 1) by rw [gP_f hG]; omega]
      exact hr
  obtain ⟨t, a1, b1⟩ := kk p e s m args below meth c C F.heap locs ls hsH ⟨by rw [f1]; have := hS.1; omega, fun q h1 h2 => (hold q (Nat.lt_of_lt_of_le h1 hS.1)).trans (hS.2.1 q h1 h2), hS.2.2⟩ hl F rfl X'
  refine ⟨t, step t ?_, b1⟩
  have e9 : T.heap.size = H.size := by rw [hT]
  rw [e9, hsz, ← gP_f hG]
  exact a1
end MNA
