/-- a cell's shape: an object (number of its class, its fields: an int or long to be filled, or a reference), or an array (type, length, its references if it holds some) -/
abbrev sE : Type := (Nat × List Value) ⊕ (FieldType × Nat × (Nat → Option Nat))
/-- what the cells hold: cell, place -/
abbrev sM : Type := Nat → Nat → Int
abbrev sS : Type := List sE × sM
/-- launch, the first address, the classes, the arrays' classes, the places of the string constants, whether cells are told apart from the order in which they are made -/
abbrev sG : Type := Launch × Nat × va_G × (FieldType → ClassId) × (Nat → Nat) × (Nat → Nat) × Bool
abbrev gB (G : sG) : Nat := G.2.1
abbrev gD (G : sG) : va_G := G.2.2.1
abbrev gA (G : sG) : FieldType → ClassId := G.2.2.2.1
abbrev gK (G : sG) : Nat → Nat := G.2.2.2.2.1
abbrev gV (G : sG) : Nat → Nat := G.2.2.2.2.2.1
abbrev gF (G : sG) : Bool := G.2.2.2.2.2.2
/-- where a cell lies: in the order of making; or, told otherwise, the two rows of shares as cells 86 and 87 -/
def pmT (k : Nat) : Nat := if k < 30 ∨ 88 ≤ k then k else if k < 34 then k + 1 else if k < 86 then k + 2 else if k = 86 then 30 else 35
def pmA (f : Bool) (k : Nat) : Nat := match f with
  | false => k
  | true => pmT k
theorem pmA_inj {f : Bool} {i j : Nat} (h : pmA f i = pmA f j) : i = j := by
  cases f with
  | false => exact h
  | true =>
    have h2 : pmT i = pmT j := h
    unfold pmT at h2
    repeat' split at h2
    all_goals omega
theorem pmA_b (f : Bool) {k : Nat} (h : 88 ≤ k) : pmA f k = k := by
  cases f with
  | false => rfl
  | true => exact if_pos (Or.inr h)
def gP (G : sG) (k : Nat) : Nat := gB G + pmA (gF G) k
theorem gP_ge (G : sG) (k : Nat) : gB G ≤ gP G k := Nat.le_add_right _ _
theorem gP_inj {G : sG} {i j : Nat} (h : gP G i = gP G j) : i = j := pmA_inj (f := gF G) (by unfold gP at h; omega)
theorem gP_f {G : sG} (h : gF G = false) (k : Nat) : gP G k = gB G + k := by unfold gP; rw [h]; rfl
theorem gP_b (G : sG) {k : Nat} (h : 88 ≤ k) : gP G k = gB G + k := by unfold gP; rw [pmA_b _ h]
def fillV (b : Nat → Nat) (t : Value) (z : Int) : Value := match t with
  | .int _ => .int (Int32.ofInt z)
  | .long _ => .long (Int64.ofInt z)
  | .ref a => .ref (b a)
  | v => v
def fillE (b : Nat → Nat) (dA : FieldType → ClassId) (e : sE) (f : Nat → Int) : va_E := match e with
  | .inl o => .inr (o.1, o.2.mapIdx (fun j t => fillV b t (f j)))
  | .inr (.long, x) => .inl (dA .long, (x.1, .inr (.inl (fun j => Int64.ofInt (f j)))))
  | .inr (.array t, x) => .inl (dA (.array t), (x.1, .inr (.inr (.inr (.inr (fun j => (x.2 j).map (fun a => b a)))))))
  | .inr (t, x) => .inl (dA t, (x.1, .inl (fun j => Int32.ofInt (f j))))
def wsOf (b : Nat → Nat) (dA : FieldType → ClassId) (S : sS) : va_W := S.1.mapIdx (fun k e => (b k, fillE b dA e (S.2 k)))
theorem ws_at (b : Nat → Nat) (dA : FieldType → ClassId) (S : sS) (k : Nat) : (wsOf b dA S)[k]? = (S.1[k]?).map (fun e => (b k, fillE b dA e (S.2 k))) := by
  unfold wsOf
  rw [List.getElem?_mapIdx]
theorem ws_some {b : Nat → Nat} {dA : FieldType → ClassId} {S : sS} {k : Nat} {e : sE} (h : S.1[k]? = some e) : (wsOf b dA S)[k]? = some (b k, fillE b dA e (S.2 k)) := by
  rw [ws_at, h]; rfl
theorem ws_len (b : Nat → Nat) (dA : FieldType → ClassId) (S : sS) : (wsOf b dA S).length = S.1.length := by
  unfold wsOf; simp
def sA (G : sG) : Nat → Prop := fun q => gB G ≤ q
theorem ws_D (G : sG) (S : sS) : va_D (sA G) (wsOf (gP G) (gA G) S) := by
  have key : ∀ (k : Nat) (q : Nat × va_E), (wsOf (gP G) (gA G) S)[k]? = some q → q.1 = gP G k := by
    intro k q h
    rw [ws_at] at h
    cases hk : S.1[k]? with
    | none => rw [hk] at h; cases h
    | some e => rw [hk] at h; cases h; rfl
  refine ⟨fun i j p q hi hj hpq => ?_, fun k q hk => ?_⟩
  · have h1 := key i p hi; have h2 := key j q hj
    exact gP_inj (G := G) (by rw [← h1, ← h2]; exact hpq)
  · have := key k q hk
    show gB G ≤ q.1
    rw [this]; exact gP_ge G k
/-- one place anew -/
def sU (σ : sM) (k j : Nat) (v : Int) : sM := fun k' j' => if k' = k ∧ j' = j then v else σ k' j'
/-- a whole cell anew -/
def sUc (σ : sM) (k : Nat) (f : Nat → Int) : sM := fun k' j' => if k' = k then f j' else σ k' j'
theorem sU_ne {σ : sM} {k j k' : Nat} {v : Int} (h : k' ≠ k) : sU σ k j v k' = σ k' := by
  funext j'; unfold sU; rw [if_neg (fun z => h z.1)]
theorem sUc_ne {σ : sM} {k k' : Nat} {f : Nat → Int} (h : k' ≠ k) : sUc σ k f k' = σ k' := by
  funext j'; unfold sUc; rw [if_neg h]
theorem ws_set {b : Nat → Nat} {dA : FieldType → ClassId} {Sh : List sE} {σ σ' : sM} {k : Nat} {e : sE} (h : Sh[k]? = some e) (ho : ∀ k', k' ≠ k → σ' k' = σ k') : (wsOf b dA (Sh, σ)).set k (b k, fillE b dA e (σ' k)) = wsOf b dA (Sh, σ') := by
  apply List.ext_getElem?
  intro i
  by_cases hi : i = k
  · subst hi
    have hl : i < (wsOf b dA (Sh, σ)).length := by rw [ws_len]; exact (List.getElem?_eq_some_iff.mp h).1
    rw [List.getElem?_set_self hl, ws_some (S := (Sh, σ')) h]
  · rw [List.getElem?_set_ne (Ne.symm hi), ws_at, ws_at]
    cases hk : Sh[i]? with
    | none => rfl
    | some e' => show some (b i, fillE b dA e' (σ i)) = some (b i, fillE b dA e' (σ' i)); rw [ho i hi]
theorem fill_obj_set {b : Nat → Nat} {dA : FieldType → ClassId} {ci o j : Nat} {tm : List Value} {σ : sM} {z : Int} {t v : Value} (ht : tm[j]? = some t) (hv : fillV b t z = v) : fillE b dA (.inl (ci, tm)) (sU σ o j z o) = .inr (ci, (tm.mapIdx (fun j t => fillV b t (σ o j))).set j v) := by
  show Sum.inr (ci, tm.mapIdx (fun j' t => fillV b t (sU σ o j z o j'))) = _
  congr 2
  apply List.ext_getElem?
  intro i
  have hl : j < tm.length := (List.getElem?_eq_some_iff.mp ht).1
  by_cases hi : i = j
  · subst hi
    rw [List.getElem?_set_self (by simpa using hl), List.getElem?_mapIdx, ht]
    show some (fillV b t (sU σ o i z o i)) = some v
    unfold sU; rw [if_pos ⟨rfl, rfl⟩, hv]
  · rw [List.getElem?_set_ne (Ne.symm hi), List.getElem?_mapIdx, List.getElem?_mapIdx]
    cases tm[i]? with
    | none => rfl
    | some t' => show some (fillV b t' (sU σ o j z o i)) = some (fillV b t' (σ o i)); unfold sU; rw [if_neg (fun q => hi q.2)]
theorem upd_sU (σ : sM) (a i : Nat) (z : Int) : upd (fun j => Int32.ofInt (σ a j)) i (Int32.ofInt z) = fun j => Int32.ofInt (sU σ a i z a j) := by
  funext j; unfold upd sU
  by_cases h : j = i
  · rw [if_pos h, if_pos ⟨rfl, h⟩]
  · rw [if_neg h, if_neg (fun q => h q.2)]
theorem updL_sU (σ : sM) (a i : Nat) (z : Int) : vp_updL (fun j => Int64.ofInt (σ a j)) i (Int64.ofInt z) = fun j => Int64.ofInt (sU σ a i z a j) := by
  funext j; unfold vp_updL sU
  by_cases h : j = i
  · rw [if_pos h, if_pos ⟨rfl, h⟩]
  · rw [if_neg h, if_neg (fun q => h q.2)]
theorem q_b_n (z : Int) : narrow .byte (.int (Int32.ofInt z)) = Value.int (Int32.ofInt (q_b z)) := by unfold q_b; rw [oi_ti]; rfl
theorem q_z_n (z : Int) : narrow .boolean (.int (Int32.ofInt z)) = Value.int (Int32.ofInt (q_z z)) := by unfold q_z; rw [oi_ti]; rfl
/-- the words that every method takes with it -/
def lw_good : List Cond := lw_tbl.filter goodWord
def isNest : Cond → Bool
  | .fieldLinkNest .. => true
  | .methodLinkNest .. => true
  | _ => false
def lw_nest : List Cond := lw_tbl.filter isNest
theorem kw_in {w : Cond} (i : Nat) (h : lw_tbl[i]? = some w) (g : goodWord w = true) : w ∈ lw_good := List.mem_filter.mpr ⟨List.mem_of_getElem? h, g⟩
theorem kn_in {w : Cond} (i : Nat) (h : lw_tbl[i]? = some w) (g : isNest w = true) : w ∈ lw_nest := List.mem_filter.mpr ⟨List.mem_of_getElem? h, g⟩
def tysL (G : sG) : List (ClassId × FieldType) := [(gA G .int, .int), (gA G .byte, .byte), (gA G .boolean, .boolean), (gA G .long, .long), (gA G (.array .int), .array .int)]
/-- the string constants: own class and entry, text, length, bytes -/
def strK : List (Nat × String × Nat × List Int32) := [(141, "weeks", 5, [119, 101, 101, 107, 115]), (146, "sort", 4, [115, 111, 114, 116]), (148, "whole", 5, [119, 104, 111, 108, 101]), (150, "cut", 3, [99, 117, 116]), (152, "sign", 4, [115, 105, 103, 110]), (154, "wheel", 5, [119, 104, 101, 101, 108]), (156, "open", 4, [111, 112, 101, 110]), (158, "warm", 4, [119, 97, 114, 109]), (160, "price", 5, [112, 114, 105, 99, 101])]
def strL : List Nat := strK.map (fun q => q.2.2.1)
def strB : List (List Int32) := strK.map (fun q => q.2.2.2)
def sO (U : State) : Prop := (Cond.arrayOver (.array .int)).before #[] U = true
theorem sO.moved {u U : State} (hvm : u.vm.Alike U.vm) (h : sO u) : sO U := by
  have h1 : (Cond.arrayOver (.array .int)).before #[] (u.setVm U.vm) = true := by rw [Cond.arrayOver_setVmC hvm]; exact h
  unfold sO
  unfold Cond.before Cond.holds at h1 ⊢
  simp only [Cond.value] at h1 ⊢
  exact h1
def sX (G : sG) (U : State) : Prop := sO U ∧ va_K (gD G) vwCl (tysL G) U ∧ (∀ w ∈ lw_nest, va_Nw w U) ∧ ∀ (i : Nat) (q : Nat × String × Nat × List Int32), strK[i]? = some q → vk_R RX4 q.1 q.2.1 (gK G i) U
def sV (G : sG) (U : State) : Prop := vk_S 9 strL strB (gK G) (gV G) (sA G) U U.heap ∧ va_Z "java/lang/String" "COMPACT_STRINGS" "Z" (.int 1) (sA G) U U.heap ∧ va_Zq "jdk/internal/util/Preconditions" "SIOOBE_FORMATTER" "Ljava/util/function/BiFunction;" (sA G) U U.heap
theorem sV.step {G : sG} {s U : State} (hvm : s.vm.Alike U.vm) (hq : ∀ a : Nat, a < s.heap.size → ¬ sA G a → U.heap[a]? = s.heap[a]?) (h : sV G s) : sV G U := ⟨vk_S.kept (vk_S.moved hvm h.1) hq, va_Z.kept (va_Z.moved hvm h.2.1) hq, va_Zq.kept (va_Zq.moved hvm h.2.2) hq⟩
/-- how many slots a cell has -/
def szE (e : sE) : Nat := match e with
  | .inl o => o.2.length
  | .inr a => a.2.1
def sZ (G : sG) (S : sS) (H : Heap) : Prop := ∀ (k : Nat) (e : sE), S.1[k]? = some e → (H[gP G k]?).map (fun c => c.slots.size) = some (szE e)
theorem sZ.same {G : sG} {Sh : List sE} {σ σ' : sM} {H H1 : Heap} (h : sZ G (Sh, σ) H) (hz : ∀ q : Nat, (H1[q]?).map (fun c => c.slots.size) = (H[q]?).map (fun c => c.slots.size)) : sZ G (Sh, σ') H1 := fun k e hk => (hz _).trans (h k e hk)
def sH (G : sG) (S : sS) (H : Heap) : Prop := va_P (gD G) vwCl (wsOf (gP G) (gA G) S) H ∧ H.size = gB G + S.1.length ∧ sZ G S H
def sHU (G : sG) (S : sS) (U : State) : Prop := sX G U ∧ sV G U ∧ sH G S U.heap
theorem sX.warm {G : sG} {s U : State} (hW : s.WarmedH U.vm) (h : sX G s) : sX G U := by
  refine ⟨sO.moved hW.alike h.1, va_K.moved hW.alike h.2.1, fun w hw => ?_, fun i q hq => vk_R.warm hW (h.2.2.2 i q hq)⟩
  have h1 := h.2.2.1 w hw
  have h2 := (List.mem_filter.mp hw).2
  cases w <;> first | exact absurd (show (false : Bool) = true from h2) (by decide) | exact va_Nw.warmF hW h1 | exact va_Nw.warmM hW h1
theorem sX.same {G : sG} {s U : State} (hv : U.vm = s.vm) (h : sX G s) : sX G U := by
  refine ⟨sO.moved (by rw [hv]; exact Vm.Alike.refl _) h.1, va_K.moved (by rw [hv]; exact Vm.Alike.refl _) h.2.1, fun w hw => ?_, fun i q hq => vk_R.same hv (h.2.2.2 i q hq)⟩
  have h1 := h.2.2.1 w hw
  have h2 := (List.mem_filter.mp hw).2
  cases w <;> first | exact absurd (show (false : Bool) = true from h2) (by decide) | exact va_Nw.same rfl hv.symm h1
/-- the answer as the machine has it -/
def sRV (G : sG) (ret : Option FieldType) (r : Int) : Option Value := match ret with
  | none => none
  | some .long => some (.long (Int64.ofInt r))
  | some (.object _) => some (.ref (gP G r.toNat))
  | some _ => some (.int (Int32.ofInt r))
def sR (d mc ms : Nat) : Room := { frames := d, cells := mc, slots := ms, locals := 80 * d }
def sQ (G : sG) (ret : Option FieldType) (fin : Int × sS) : Array Value → State → Outcome → State → Prop := fun _ st o t => (o = .returned (sRV G ret fin.1) ∧ sH G fin.2 t.heap) ∧ va_F (sA G) st t
/-- the contract of a method: from these arguments and this state it returns fin -/
def aM (G : sG) (y : MethodName) (cc : ByteArray) (nL : Nat) (ret : Option FieldType) (d mc ms : Nat) (av : List Value) (S : sS) (fin : Int × sS) : Prop :=
  Met G.1 y (.code y cc nL ret :: lw_good) (sR d mc ms) (va_Pc av (sHU G S)) (sQ G ret fin) mc ms (sA G)
def aC (G : sG) (cc : ByteArray) (own mn : String) (nL : Nat) (ret : Option FieldType) (Xp : State → Array Value → Prop) (p : Program) (s : State) (m : MethodId) (args : Array Value) (meth : Method) (c : Code) : Prop :=
  p.tables.exec = Jvm.exec ∧ c.code = cc ∧ meth.sig.returnType = ret ∧ c.maxLocals = nL ∧ s.vm.findClass own = some m.cls ∧ (∀ w ∈ lw_good, w.before args s = true) ∧ meth.locks = false ∧ meth.name = mn ∧ sX G s ∧ sV G s ∧ gB G ≤ s.heap.size ∧ Xp s args
/-- from here the method comes to its end, with fin -/
def aW (G : sG) (cc : ByteArray) (own mn : String) (nL : Nat) (ret : Option FieldType) (R : Room) (Q : List Frame → Array Value → State → State → Prop) (Xp : State → Array Value → Prop) (k n : Nat) (S : sS) (L : List (Nat × Value)) (pc : Nat) (st : List Value) : Prop :=
  ∀ (p : Program) (e : Env) (s : State) (m : MethodId) (args : Array Value) (below : List Frame) (meth : Method) (c : Code), aC G cc own mn nL ret Xp p s m args meth c →
    ∀ (H : Heap) (locs : List Loc) (ls : Array Slot), sH G S H → va_S (sA G) s.heap H locs → lv_has ls nL L →
      W p G.1 e R s m args below meth c H locs k n (Q below args s) (F0 m pc ls st)
def aQ (G : sG) (ret : Option FieldType) (mc ms : Nat) (fin : Int × sS) : List Frame → Array Value → State → State → Prop := fun below args s => MQ below (sQ G ret fin) args s mc ms (sA G)
def aX : State → Array Value → Prop := fun _ _ => True
theorem aM_of {G : sG} {y : MethodName} {cc : ByteArray} {nL : Nat} {ret : Option FieldType} {d mc ms : Nat} {av : List Value} {S : sS} {fin : Int × sS} (hp : plainName y.cls = true) (hn : (lg_sl av).length ≤ nL)
    (h : aW G cc y.cls y.name nL ret (sR d mc ms) (aQ G ret mc ms fin) aX 0 0 S (lv_args 0 av) 0 []) : aM G y cc nL ret d mc ms av S fin := by
  refine Met.ofW (cc := cc) (maxL := nL) (ret := ret) hp rfl ?_
  intro p e s m args below meth c s₁ B hml hv
  obtain ⟨rfl, hX, hV, hH⟩ := hv
  have hts := atoms_spec (ws := .code y cc nL ret :: lw_good) B.pre
  rw [lg_entry_eq]
  exact h p e s m _ below meth c ⟨B.exec, B.bytes, B.returns, hml, findClass_of_methodNamed B.named, fun w hw => hts w (List.mem_cons_of_mem _ hw), B.notSynchronized, (name_of_methodNamed B.named B.method).1, hX, hV, by rw [hH.2.1]; exact Nat.le_add_right _ _, trivial⟩ s.heap [] _ hH va_S.rf (lv_entry av hn)
/-- the branches of the told function -/
theorem a_if {α : Type} {P : Prop} [Decidable P] {T F : Option α} {o : α} {X : Prop} (h : (if P then T else F) = some o) (a : P → T = some o → X) (b : ¬ P → F = some o → X) : X := by
  by_cases c : P
  · rw [if_pos c] at h; exact a c h
  · rw [if_neg c] at h; exact b c h
theorem a_gd {α : Type} {P : Prop} [Decidable P] {T : Option α} {o : α} {X : Prop} (h : (if P then T else none) = some o) (a : P → T = some o → X) : X := by
  by_cases c : P
  · rw [if_pos c] at h; exact a c h
  · rw [if_neg c] at h; cases h
/-- a call, a join, a loop in the told functions -/
def bn {α β : Type} (x : Option (Int × β)) (k : Int → β → Option α) : Option α := match x with
  | none => none
  | some q => k q.1 q.2
theorem bn_e {α β : Type} {x : Option (Int × β)} {k : Int → β → Option α} {r : Int} {s : β} (h : x = some (r, s)) : bn x k = k r s := by rw [h]; rfl
theorem bn_s {α β : Type} {x : Option (Int × β)} {k : Int → β → Option α} {o : α} {X : Prop} (h : bn x k = some o) (a : ∀ r s, x = some (r, s) → k r s = some o → X) : X := by
  cases x with
  | none => cases h
  | some q => exact a q.1 q.2 rfl h
def bp {α : Type} (x : Option Int) (k : Int → Option α) : Option α := match x with
  | none => none
  | some q => k q
theorem bp_e {α : Type} {x : Option Int} {k : Int → Option α} {r : Int} (h : x = some r) : bp x k = k r := by rw [h]; rfl
theorem bp_s {α : Type} {x : Option Int} {k : Int → Option α} {o : α} {X : Prop} (h : bp x k = some o) (a : ∀ r, x = some r → k r = some o → X) : X := by
  cases x with
  | none => cases h
  | some q => exact a q rfl h
def jn {α β : Type} (J : β → Option α) (B : (β → Option α) → Option α) : Option α := B J
theorem jn_s {α β : Type} {J : β → Option α} {B : (β → Option α) → Option α} {o : α} {X : Prop} (P : β → Prop) (h : jn J B = some o) (a : ∀ x, J x = some o → P x) (b : ∀ K : β → Option α, (∀ x, K x = some o → P x) → B K = some o → X) : X := b J a h
def lp {α β : Type} (B : (β → Option α) → β → Option α) : Nat → β → Option α
  | 0, _ => none
  | n + 1, x => B (lp B n) x
theorem lp_s {α β : Type} {B : (β → Option α) → β → Option α} {n : Nat} {x : β} {o : α} (P : β → Prop) (h : lp B n x = some o) (a : ∀ K : β → Option α, (∀ x, K x = some o → P x) → ∀ x, B K x = some o → P x) : P x := by
  induction n generalizing x with
  | zero => cases h
  | succ n ih => exact a (lp B n) (fun y hy => ih hy) x h
/-- what the rules ask of a class -/
def clK (ci : Nat) (C : String) (T : u_T) (N : Nat) (ty : Nat → FieldType) : Prop := vwCl[ci]? = some (C, T, N) ∧ (∀ w ∈ u_ws C T N, w ∈ lw_good) ∧ (∀ k, k < N → parseFieldDescriptor (T k).2.2.1 = some (ty k)) ∧ (∀ a, a < N → ∀ b, b < N → a ≠ b → (T a).2.1 ≠ (T b).2.1)
section AWR
variable {G : sG} {cc : ByteArray} {own mn : String} {nL : Nat} {ret : Option FieldType} {R : Room} {Q : List Frame → Array Value → State → State → Prop} {Xp : State → Array Value → Prop} {k n : Nat} {S : sS} {Sh : List sE} {σ : sM} {L : List (Nat × Value)} {pc : Nat} {st : List Value} {α : Type} {T F : Option α} {o : α}
theorem a_iconst {v : Int} (hd : decode cc pc = .ok (.iconst v, 1)) (kk : aW G cc own mn nL ret R Q Xp k n S L (pc + 1) (vI v :: st)) : aW G cc own mn nL ret R Q Xp k n S L pc st := by
  intro p e s m args below meth c C H locs ls hH hS hl
  exact lv_iconst C.1 C.2.1 hd rfl (kk p e s m args below meth c C H locs ls hH hS hl)
theorem a_bipush {v : Int} (hd : decode cc pc = .ok (.bipush v, 2)) (hv : (Int8.ofInt v).toInt32 = Int32.ofInt v) (kk : aW G cc own mn nL ret R Q Xp k n S L (pc + 2) (vI v :: st)) : aW G cc own mn nL ret R Q Xp k n S L pc st := by
  intro p e s m args below meth c C H locs ls hH hS hl
  exact lv_bipush C.1 C.2.1 hd hv (kk p e s m args below meth c C H locs ls hH hS hl)
theorem a_sipush {v : Int} (hd : decode cc pc = .ok (.sipush v, 3)) (hv : (Int16.ofInt v).toInt32 = Int32.ofInt v) (kk : aW G cc own mn nL ret R Q Xp k n S L (pc + 3) (vI v :: st)) : aW G cc own mn nL ret R Q Xp k n S L pc st := by
  intro p e s m args below meth c C H locs ls hH hS hl
  exact lv_sipush C.1 C.2.1 hd hv (kk p e s m args below meth c C H locs ls hH hS hl)
theorem a_lconst {v : Fin 2} {z : Int} (hd : decode cc pc = .ok (.lconst v, 1)) (hv : Int64.ofNat (v : Nat) = Int64.ofInt z) (kk : aW G cc own mn nL ret R Q Xp k n S L (pc + 1) (vL z :: st)) : aW G cc own mn nL ret R Q Xp k n S L pc st := by
  intro p e s m args below meth c C H locs ls hH hS hl
  exact lv_lconst C.1 C.2.1 hd hv (kk p e s m args below meth c C H locs ls hH hS hl)
theorem a_ldc {i : Nat} {v : Int32} {z : Int} (hd : decode cc pc = .ok (.ldc i, 2)) (hw : Cond.constant own i v ∈ lw_good) (hv : v = Int32.ofInt z) (kk : aW G cc own mn nL ret R Q Xp k n S L (pc + 2) (vI z :: st)) : aW G cc own mn nL ret R Q Xp k n S L pc st := by
  intro p e s m args below meth c C H locs ls hH hS hl
  exact lv_ldc C.1 C.2.1 C.2.2.2.2.1 (C.2.2.2.2.2.1 _ hw) hd (by rw [hv]; exact (kk p e s m args below meth c C H locs ls hH hS hl))
theorem a_ldc2 {i : Nat} {v : Int64} {z : Int} (hd : decode cc pc = .ok (.ldc2_w i, 3)) (hw : Cond.constantLong own i v ∈ lw_good) (hv : v = Int64.ofInt z) (kk : aW G cc own mn nL ret R Q Xp k n S L (pc + 3) (vL z :: st)) : aW G cc own mn nL ret R Q Xp k n S L pc st := by
  intro p e s m args below meth c C H locs ls hH hS hl
  exact lv_ldc2 C.1 C.2.1 C.2.2.2.2.1 (C.2.2.2.2.2.1 _ hw) hd (by rw [hv]; exact (kk p e s m args below meth c C H locs ls hH hS hl))
theorem a_iload_n {i : Fin 4} {x : Int} (q : Nat) (hd : decode cc pc = .ok (.iload_n i, 1)) (hq : L[q]? = some ((i : Nat), vI x)) (kk : aW G cc own mn nL ret R Q Xp k n S L (pc + 1) (vI x :: st)) : aW G cc own mn nL ret R Q Xp k n S L pc st := by
  intro p e s m args below meth c C H locs ls hH hS hl
  exact lv_iload_n C.1 C.2.1 hd rfl (lv_at hl q hq) (kk p e s m args below meth c C H locs ls hH hS hl)
theorem a_iload {i : Nat} {x : Int} (q : Nat) (hd : decode cc pc = .ok (.iload i, 2)) (hq : L[q]? = some (i, vI x)) (kk : aW G cc own mn nL ret R Q Xp k n S L (pc + 2) (vI x :: st)) : aW G cc own mn nL ret R Q Xp k n S L pc st := by
  intro p e s m args below meth c C H locs ls hH hS hl
  exact lv_iload C.1 C.2.1 hd (lv_at hl q hq) (kk p e s m args below meth c C H locs ls hH hS hl)
theorem a_lload_n {i : Fin 4} {x : Int} (q : Nat) (hd : decode cc pc = .ok (.lload_n i, 1)) (hq : L[q]? = some ((i : Nat), vL x)) (kk : aW G cc own mn nL ret R Q Xp k n S L (pc + 1) (vL x :: st)) : aW G cc own mn nL ret R Q Xp k n S L pc st := by
  intro p e s m args below meth c C H locs ls hH hS hl
  exact lv_lload_n C.1 C.2.1 hd rfl (lv_at hl q hq) (kk p e s m args below meth c C H locs ls hH hS hl)
theorem a_lload {i : Nat} {x : Int} (q : Nat) (hd : decode cc pc = .ok (.lload i, 2)) (hq : L[q]? = some (i, vL x)) (kk : aW G cc own mn nL ret R Q Xp k n S L (pc + 2) (vL x :: st)) : aW G cc own mn nL ret R Q Xp k n S L pc st := by
  intro p e s m args below meth c C H locs ls hH hS hl
  exact lv_lload C.1 C.2.1 hd (lv_at hl q hq) (kk p e s m args below meth c C H locs ls hH hS hl)
theorem a_aload_n {i : Fin 4} {x : Nat} (q : Nat) (hd : decode cc pc = .ok (.aload_n i, 1)) (hq : L[q]? = some ((i : Nat), .ref x)) (kk : aW G cc own mn nL ret R Q Xp k n S L (pc + 1) (.ref x :: st)) : aW G cc own mn nL ret R Q Xp k n S L pc st := by
  intro p e s m args below meth c C H locs ls hH hS hl
  exact lv_aload_n C.1 C.2.1 hd rfl (lv_at hl q hq) (kk p e s m args below meth c C H locs ls hH hS hl)
theorem a_aload {i : Nat} {x : Nat} (q : Nat) (hd : decode cc pc = .ok (.aload i, 2)) (hq : L[q]? = some (i, .ref x)) (kk : aW G cc own mn nL ret R Q Xp k n S L (pc + 2) (.ref x :: st)) : aW G cc own mn nL ret R Q Xp k n S L pc st := by
  intro p e s m args below meth c C H locs ls hH hS hl
  exact lv_aload C.1 C.2.1 hd (lv_at hl q hq) (kk p e s m args below meth c C H locs ls hH hS hl)
theorem a_istore_n {i : Fin 4} {x : Int} {L' : List (Nat × Value)} (hd : decode cc pc = .ok (.istore_n i, 1)) (hi : (i : Nat) < nL) (hL : (((i : Nat), (vI x : Value)) :: L.filter (fun q => !(q.1 == (i : Nat)) && !(q.1 + 1 == (i : Nat) && q.2.category == 2))) = L') (kk : aW G cc own mn nL ret R Q Xp k n S L' (pc + 1) st) : aW G cc own mn nL ret R Q Xp k n S L pc (vI x :: st) := by
  intro p e s m args below meth c C H locs ls hH hS hl
  exact lv_istore_n C.1 C.2.1 hd rfl hl hi hL (fun ls' hl' => (kk p e s m args below meth c C H locs ls' hH hS hl'))
theorem a_istore {i : Nat} {x : Int} {L' : List (Nat × Value)} (hd : decode cc pc = .ok (.istore i, 2)) (hi : i < nL) (hL : ((i, (vI x : Value)) :: L.filter (fun q => !(q.1 == i) && !(q.1 + 1 == i && q.2.category == 2))) = L') (kk : aW G cc own mn nL ret R Q Xp k n S L' (pc + 2) st) : aW G cc own mn nL ret R Q Xp k n S L pc (vI x :: st) := by
  intro p e s m args below meth c C H locs ls hH hS hl
  exact lv_istore C.1 C.2.1 hd hl hi hL (fun ls' hl' => (kk p e s m args below meth c C H locs ls' hH hS hl'))
theorem a_lstore_n {i : Fin 4} {x : Int} {L' : List (Nat × Value)} (hd : decode cc pc = .ok (.lstore_n i, 1)) (hi : (i : Nat) + 1 < nL) (hL : (((i : Nat), (vL x : Value)) :: L.filter (fun q => !(q.1 == (i : Nat)) && (!(q.1 == (i : Nat) + 1) && !(q.1 + 1 == (i : Nat) && q.2.category == 2)))) = L') (kk : aW G cc own mn nL ret R Q Xp k n S L' (pc + 1) st) : aW G cc own mn nL ret R Q Xp k n S L pc (vL x :: st) := by
  intro p e s m args below meth c C H locs ls hH hS hl
  exact lv_lstore_n C.1 C.2.1 hd rfl hl hi hL (fun ls' hl' => (kk p e s m args below meth c C H locs ls' hH hS hl'))
theorem a_lstore {i : Nat} {x : Int} {L' : List (Nat × Value)} (hd : decode cc pc = .ok (.lstore i, 2)) (hi : i + 1 < nL) (hL : ((i, (vL x : Value)) :: L.filter (fun q => !(q.1 == i) && (!(q.1 == i + 1) && !(q.1 + 1 == i && q.2.category == 2)))) = L') (kk : aW G cc own mn nL ret R Q Xp k n S L' (pc + 2) st) : aW G cc own mn nL ret R Q Xp k n S L pc (vL x :: st) := by
  intro p e s m args below meth c C H locs ls hH hS hl
  exact lv_lstore C.1 C.2.1 hd hl hi hL (fun ls' hl' => (kk p e s m args below meth c C H locs ls' hH hS hl'))
theorem a_astore_n {i : Fin 4} {x : Nat} {L' : List (Nat × Value)} (hd : decode cc pc = .ok (.astore_n i, 1)) (hi : (i : Nat) < nL) (hL : (((i : Nat), (.ref x : Value)) :: L.filter (fun q => !(q.1 == (i : Nat)) && !(q.1 + 1 == (i : Nat) && q.2.category == 2))) = L') (kk : aW G cc own mn nL ret R Q Xp k n S L' (pc + 1) st) : aW G cc own mn nL ret R Q Xp k n S L pc (.ref x :: st) := by
  intro p e s m args below meth c C H locs ls hH hS hl
  exact lv_astore_n C.1 C.2.1 hd rfl hl hi hL (fun ls' hl' => (kk p e s m args below meth c C H locs ls' hH hS hl'))
theorem a_astore {i : Nat} {x : Nat} {L' : List (Nat × Value)} (hd : decode cc pc = .ok (.astore i, 2)) (hi : i < nL) (hL : ((i, (.ref x : Value)) :: L.filter (fun q => !(q.1 == i) && !(q.1 + 1 == i && q.2.category == 2))) = L') (kk : aW G cc own mn nL ret R Q Xp k n S L' (pc + 2) st) : aW G cc own mn nL ret R Q Xp k n S L pc (.ref x :: st) := by
  intro p e s m args below meth c C H locs ls hH hS hl
  exact lv_astore C.1 C.2.1 hd hl hi hL (fun ls' hl' => (kk p e s m args below meth c C H locs ls' hH hS hl'))
theorem a_iinc {i : Nat} {x v : Int} {L' : List (Nat × Value)} (q : Nat) (hd : decode cc pc = .ok (.iinc i v, 3)) (hq : L[q]? = some (i, vI x)) (hi : i < nL) (hL : ((i, (vI (x + v) : Value)) :: L.filter (fun q => !(q.1 == i) && !(q.1 + 1 == i && q.2.category == 2))) = L') (kk : aW G cc own mn nL ret R Q Xp k n S L' (pc + 3) st) : aW G cc own mn nL ret R Q Xp k n S L pc st := by
  intro p e s m args below meth c C H locs ls hH hS hl
  exact lv_iinc C.1 C.2.1 hd hl hq (v := Int32.ofInt (x + v)) (Int32.ofInt_add x v).symm hi hL (fun ls' hl' => (kk p e s m args below meth c C H locs ls' hH hS hl'))
theorem a_sub {L' : List (Nat × Value)} (ks : List Nat) (hL : lv_pick L ks = L') (kk : aW G cc own mn nL ret R Q Xp k n S L' pc st) : aW G cc own mn nL ret R Q Xp k n S L pc st := by
  intro p e s m args below meth c C H locs ls hH hS hl
  exact (kk p e s m args below meth c C H locs ls hH hS (lv_sub hl ks hL))
theorem a_iadd {x y : Int} (hd : decode cc pc = .ok (.iadd, 1)) (kk : aW G cc own mn nL ret R Q Xp k n S L (pc + 1) (vI (x + y) :: st)) : aW G cc own mn nL ret R Q Xp k n S L pc (vI y :: vI x :: st) := by
  intro p e s m args below meth c C H locs ls hH hS hl
  exact lv_iadd C.1 C.2.1 hd (by rw [← Int32.ofInt_add]; exact (kk p e s m args below meth c C H locs ls hH hS hl))
theorem a_isub {x y : Int} (hd : decode cc pc = .ok (.isub, 1)) (kk : aW G cc own mn nL ret R Q Xp k n S L (pc + 1) (vI (x - y) :: st)) : aW G cc own mn nL ret R Q Xp k n S L pc (vI y :: vI x :: st) := by
  intro p e s m args below meth c C H locs ls hH hS hl
  exact lv_isub C.1 C.2.1 hd (by rw [← Int32.ofInt_sub]; exact (kk p e s m args below meth c C H locs ls hH hS hl))
theorem a_imul {x y : Int} (hd : decode cc pc = .ok (.imul, 1)) (kk : aW G cc own mn nL ret R Q Xp k n S L (pc + 1) (vI (x * y) :: st)) : aW G cc own mn nL ret R Q Xp k n S L pc (vI y :: vI x :: st) := by
  intro p e s m args below meth c C H locs ls hH hS hl
  exact lv_imul C.1 C.2.1 hd (by rw [← Int32.ofInt_mul]; exact (kk p e s m args below meth c C H locs ls hH hS hl))
theorem a_ladd {x y : Int} (hd : decode cc pc = .ok (.ladd, 1)) (kk : aW G cc own mn nL ret R Q Xp k n S L (pc + 1) (vL (x + y) :: st)) : aW G cc own mn nL ret R Q Xp k n S L pc (vL y :: vL x :: st) := by
  intro p e s m args below meth c C H locs ls hH hS hl
  exact lv_ladd C.1 C.2.1 hd (by rw [← Int64.ofInt_add]; exact (kk p e s m args below meth c C H locs ls hH hS hl))
theorem a_lsub {x y : Int} (hd : decode cc pc = .ok (.lsub, 1)) (kk : aW G cc own mn nL ret R Q Xp k n S L (pc + 1) (vL (x - y) :: st)) : aW G cc own mn nL ret R Q Xp k n S L pc (vL y :: vL x :: st) := by
  intro p e s m args below meth c C H locs ls hH hS hl
  exact lv_lsub C.1 C.2.1 hd (by rw [← Int64.ofInt_sub]; exact (kk p e s m args below meth c C H locs ls hH hS hl))
theorem a_lmul {x y : Int} (hd : decode cc pc = .ok (.lmul, 1)) (kk : aW G cc own mn nL ret R Q Xp k n S L (pc + 1) (vL (x * y) :: st)) : aW G cc own mn nL ret R Q Xp k n S L pc (vL y :: vL x :: st) := by
  intro p e s m args below meth c C H locs ls hH hS hl
  exact lv_lmul C.1 C.2.1 hd (by rw [← Int64.ofInt_mul]; exact (kk p e s m args below meth c C H locs ls hH hS hl))
theorem a_iand {x y : Int} (hd : decode cc pc = .ok (.iand, 1)) (kk : aW G cc own mn nL ret R Q Xp k n S L (pc + 1) (vI (q_and x y) :: st)) : aW G cc own mn nL ret R Q Xp k n S L pc (vI y :: vI x :: st) := by
  intro p e s m args below meth c C H locs ls hH hS hl
  have h : W p G.1 e R s m args below meth c H locs k n (Q below args s) (F0 m (pc + 1) ls (vI (q_and x y) :: st)) := kk p e s m args below meth c C H locs ls hH hS hl
  unfold vI q_and at h
  rw [oi_ti] at h
  exact lv_iand C.1 C.2.1 hd h
theorem a_ior {x y : Int} (hd : decode cc pc = .ok (.ior, 1)) (kk : aW G cc own mn nL ret R Q Xp k n S L (pc + 1) (vI (q_or x y) :: st)) : aW G cc own mn nL ret R Q Xp k n S L pc (vI y :: vI x :: st) := by
  intro p e s m args below meth c C H locs ls hH hS hl
  have h : W p G.1 e R s m args below meth c H locs k n (Q below args s) (F0 m (pc + 1) ls (vI (q_or x y) :: st)) := kk p e s m args below meth c C H locs ls hH hS hl
  unfold vI q_or at h
  rw [oi_ti] at h
  exact lv_ior C.1 C.2.1 hd h
theorem a_ixor {x y : Int} (hd : decode cc pc = .ok (.ixor, 1)) (kk : aW G cc own mn nL ret R Q Xp k n S L (pc + 1) (vI (q_xor x y) :: st)) : aW G cc own mn nL ret R Q Xp k n S L pc (vI y :: vI x :: st) := by
  intro p e s m args below meth c C H locs ls hH hS hl
  have h : W p G.1 e R s m args below meth c H locs k n (Q below args s) (F0 m (pc + 1) ls (vI (q_xor x y) :: st)) := kk p e s m args below meth c C H locs ls hH hS hl
  unfold vI q_xor at h
  rw [oi_ti] at h
  exact lv_ixor C.1 C.2.1 hd h
theorem a_ishl {x y : Int} (hd : decode cc pc = .ok (.ishl, 1)) (kk : aW G cc own mn nL ret R Q Xp k n S L (pc + 1) (vI (q_shl x y) :: st)) : aW G cc own mn nL ret R Q Xp k n S L pc (vI y :: vI x :: st) := by
  intro p e s m args below meth c C H locs ls hH hS hl
  have h : W p G.1 e R s m args below meth c H locs k n (Q below args s) (F0 m (pc + 1) ls (vI (q_shl x y) :: st)) := kk p e s m args below meth c C H locs ls hH hS hl
  unfold vI q_shl at h
  rw [oi_ti] at h
  exact lv_ishl C.1 C.2.1 hd h
theorem a_ishr {x y : Int} (hd : decode cc pc = .ok (.ishr, 1)) (kk : aW G cc own mn nL ret R Q Xp k n S L (pc + 1) (vI (q_shr x y) :: st)) : aW G cc own mn nL ret R Q Xp k n S L pc (vI y :: vI x :: st) := by
  intro p e s m args below meth c C H locs ls hH hS hl
  have h : W p G.1 e R s m args below meth c H locs k n (Q below args s) (F0 m (pc + 1) ls (vI (q_shr x y) :: st)) := kk p e s m args below meth c C H locs ls hH hS hl
  unfold vI q_shr at h
  rw [oi_ti] at h
  exact lv_ishr C.1 C.2.1 hd h
theorem a_iushr {x y : Int} (hd : decode cc pc = .ok (.iushr, 1)) (kk : aW G cc own mn nL ret R Q Xp k n S L (pc + 1) (vI (q_ushr x y) :: st)) : aW G cc own mn nL ret R Q Xp k n S L pc (vI y :: vI x :: st) := by
  intro p e s m args below meth c C H locs ls hH hS hl
  have h : W p G.1 e R s m args below meth c H locs k n (Q below args s) (F0 m (pc + 1) ls (vI (q_ushr x y) :: st)) := kk p e s m args below meth c C H locs ls hH hS hl
  unfold vI q_ushr at h
  rw [oi_ti] at h
  exact lv_iushr C.1 C.2.1 hd rfl h
theorem a_irem {x y : Int} (hd : decode cc pc = .ok (.irem, 1)) (hz : ¬ Int32.ofInt y = 0) (kk : aW G cc own mn nL ret R Q Xp k n S L (pc + 1) (vI (q_rem x y) :: st)) : aW G cc own mn nL ret R Q Xp k n S L pc (vI y :: vI x :: st) := by
  intro p e s m args below meth c C H locs ls hH hS hl
  have h : W p G.1 e R s m args below meth c H locs k n (Q below args s) (F0 m (pc + 1) ls (vI (q_rem x y) :: st)) := kk p e s m args below meth c C H locs ls hH hS hl
  unfold vI q_rem at h
  rw [oi_ti] at h
  exact lv_irem C.1 C.2.1 hd hz h
theorem a_land {x y : Int} (hd : decode cc pc = .ok (.land, 1)) (kk : aW G cc own mn nL ret R Q Xp k n S L (pc + 1) (vL (q_land x y) :: st)) : aW G cc own mn nL ret R Q Xp k n S L pc (vL y :: vL x :: st) := by
  intro p e s m args below meth c C H locs ls hH hS hl
  have h : W p G.1 e R s m args below meth c H locs k n (Q below args s) (F0 m (pc + 1) ls (vL (q_land x y) :: st)) := kk p e s m args below meth c C H locs ls hH hS hl
  unfold vL q_land at h
  rw [ol_ti] at h
  exact lv_land C.1 C.2.1 hd h
theorem a_lor {x y : Int} (hd : decode cc pc = .ok (.lor, 1)) (kk : aW G cc own mn nL ret R Q Xp k n S L (pc + 1) (vL (q_lor x y) :: st)) : aW G cc own mn nL ret R Q Xp k n S L pc (vL y :: vL x :: st) := by
  intro p e s m args below meth c C H locs ls hH hS hl
  have h : W p G.1 e R s m args below meth c H locs k n (Q below args s) (F0 m (pc + 1) ls (vL (q_lor x y) :: st)) := kk p e s m args below meth c C H locs ls hH hS hl
  unfold vL q_lor at h
  rw [ol_ti] at h
  exact lv_lor C.1 C.2.1 hd h
theorem a_lshl {x y : Int} (hd : decode cc pc = .ok (.lshl, 1)) (kk : aW G cc own mn nL ret R Q Xp k n S L (pc + 1) (vL (q_lshl x y) :: st)) : aW G cc own mn nL ret R Q Xp k n S L pc (vI y :: vL x :: st) := by
  intro p e s m args below meth c C H locs ls hH hS hl
  have h : W p G.1 e R s m args below meth c H locs k n (Q below args s) (F0 m (pc + 1) ls (vL (q_lshl x y) :: st)) := kk p e s m args below meth c C H locs ls hH hS hl
  unfold vL q_lshl at h
  rw [ol_ti] at h
  exact lv_lshl C.1 C.2.1 hd rfl h
theorem a_lshr {x y : Int} (hd : decode cc pc = .ok (.lshr, 1)) (kk : aW G cc own mn nL ret R Q Xp k n S L (pc + 1) (vL (q_lshr x y) :: st)) : aW G cc own mn nL ret R Q Xp k n S L pc (vI y :: vL x :: st) := by
  intro p e s m args below meth c C H locs ls hH hS hl
  have h : W p G.1 e R s m args below meth c H locs k n (Q below args s) (F0 m (pc + 1) ls (vL (q_lshr x y) :: st)) := kk p e s m args below meth c C H locs ls hH hS hl
  unfold vL q_lshr at h
  rw [ol_ti] at h
  exact lv_lshr C.1 C.2.1 hd rfl h
theorem a_lushr {x y : Int} (hd : decode cc pc = .ok (.lushr, 1)) (kk : aW G cc own mn nL ret R Q Xp k n S L (pc + 1) (vL (q_lushr x y) :: st)) : aW G cc own mn nL ret R Q Xp k n S L pc (vI y :: vL x :: st) := by
  intro p e s m args below meth c C H locs ls hH hS hl
  have h : W p G.1 e R s m args below meth c H locs k n (Q below args s) (F0 m (pc + 1) ls (vL (q_lushr x y) :: st)) := kk p e s m args below meth c C H locs ls hH hS hl
  unfold vL q_lushr at h
  rw [ol_ti] at h
  exact lv_lushr C.1 C.2.1 hd rfl h
theorem a_ldiv {x y : Int} (hd : decode cc pc = .ok (.ldiv, 1)) (hz : ¬ Int64.ofInt y = 0) (kk : aW G cc own mn nL ret R Q Xp k n S L (pc + 1) (vL (q_ldiv x y) :: st)) : aW G cc own mn nL ret R Q Xp k n S L pc (vL y :: vL x :: st) := by
  intro p e s m args below meth c C H locs ls hH hS hl
  have h : W p G.1 e R s m args below meth c H locs k n (Q below args s) (F0 m (pc + 1) ls (vL (q_ldiv x y) :: st)) := kk p e s m args below meth c C H locs ls hH hS hl
  unfold vL q_ldiv at h
  rw [ol_ti] at h
  exact lv_ldiv C.1 C.2.1 hd hz h
theorem a_lrem {x y : Int} (hd : decode cc pc = .ok (.lrem, 1)) (hz : ¬ Int64.ofInt y = 0) (kk : aW G cc own mn nL ret R Q Xp k n S L (pc + 1) (vL (q_lrem x y) :: st)) : aW G cc own mn nL ret R Q Xp k n S L pc (vL y :: vL x :: st) := by
  intro p e s m args below meth c C H locs ls hH hS hl
  have h : W p G.1 e R s m args below meth c H locs k n (Q below args s) (F0 m (pc + 1) ls (vL (q_lrem x y) :: st)) := kk p e s m args below meth c C H locs ls hH hS hl
  unfold vL q_lrem at h
  rw [ol_ti] at h
  exact lv_lrem C.1 C.2.1 hd hz h
theorem a_lcmp {x y : Int} (hd : decode cc pc = .ok (.lcmp, 1)) (kk : aW G cc own mn nL ret R Q Xp k n S L (pc + 1) (vI (q_lcmp x y) :: st)) : aW G cc own mn nL ret R Q Xp k n S L pc (vL y :: vL x :: st) := by
  intro p e s m args below meth c C H locs ls hH hS hl
  exact W.lcmp C.1 C.2.1 hd (by rw [q_lcmp_e]; exact (kk p e s m args below meth c C H locs ls hH hS hl))
theorem a_ineg {x : Int} (hd : decode cc pc = .ok (.ineg, 1)) (kk : aW G cc own mn nL ret R Q Xp k n S L (pc + 1) (vI (-x) :: st)) : aW G cc own mn nL ret R Q Xp k n S L pc (vI x :: st) := by
  intro p e s m args below meth c C H locs ls hH hS hl
  exact lv_ineg C.1 C.2.1 hd (by rw [← Int32.ofInt_neg]; exact (kk p e s m args below meth c C H locs ls hH hS hl))
theorem a_i2l {x : Int} (hd : decode cc pc = .ok (.i2l, 1)) (kk : aW G cc own mn nL ret R Q Xp k n S L (pc + 1) (vL (wi x) :: st)) : aW G cc own mn nL ret R Q Xp k n S L pc (vI x :: st) := by
  intro p e s m args below meth c C H locs ls hH hS hl
  exact lv_i2l C.1 C.2.1 hd (oi_i2l x) (kk p e s m args below meth c C H locs ls hH hS hl)
theorem a_l2i {x : Int} (hd : decode cc pc = .ok (.l2i, 1)) (kk : aW G cc own mn nL ret R Q Xp k n S L (pc + 1) (vI x :: st)) : aW G cc own mn nL ret R Q Xp k n S L pc (vL x :: st) := by
  intro p e s m args below meth c C H locs ls hH hS hl
  exact lv_l2i C.1 C.2.1 hd (ol_l2i x) (kk p e s m args below meth c C H locs ls hH hS hl)
theorem a_i2b {x : Int} (hd : decode cc pc = .ok (.i2b, 1)) (kk : aW G cc own mn nL ret R Q Xp k n S L (pc + 1) (vI (q_b x) :: st)) : aW G cc own mn nL ret R Q Xp k n S L pc (vI x :: st) := by
  intro p e s m args below meth c C H locs ls hH hS hl
  exact lv_i2b C.1 C.2.1 hd (oi_ti _).symm (kk p e s m args below meth c C H locs ls hH hS hl)
theorem a_dupI {x : Int} (hd : decode cc pc = .ok (.dup, 1)) (kk : aW G cc own mn nL ret R Q Xp k n S L (pc + 1) (vI x :: vI x :: st)) : aW G cc own mn nL ret R Q Xp k n S L pc (vI x :: st) := by
  intro p e s m args below meth c C H locs ls hH hS hl
  exact lv_dup C.1 C.2.1 hd rfl (kk p e s m args below meth c C H locs ls hH hS hl)
theorem a_dupR {x : Nat} (hd : decode cc pc = .ok (.dup, 1)) (kk : aW G cc own mn nL ret R Q Xp k n S L (pc + 1) (.ref x :: .ref x :: st)) : aW G cc own mn nL ret R Q Xp k n S L pc (.ref x :: st) := by
  intro p e s m args below meth c C H locs ls hH hS hl
  exact lv_dup C.1 C.2.1 hd rfl (kk p e s m args below meth c C H locs ls hH hS hl)
theorem a_dup2 {x : Int} {r : Nat} (hd : decode cc pc = .ok (.dup2, 1)) (kk : aW G cc own mn nL ret R Q Xp k n S L (pc + 1) (vI x :: .ref r :: vI x :: .ref r :: st)) : aW G cc own mn nL ret R Q Xp k n S L pc (vI x :: .ref r :: st) := by
  intro p e s m args below meth c C H locs ls hH hS hl
  exact lv_dup2_11 C.1 C.2.1 hd rfl rfl (kk p e s m args below meth c C H locs ls hH hS hl)
theorem a_popI {x : Int} (hd : decode cc pc = .ok (.pop, 1)) (kk : aW G cc own mn nL ret R Q Xp k n S L (pc + 1) st) : aW G cc own mn nL ret R Q Xp k n S L pc (vI x :: st) := by
  intro p e s m args below meth c C H locs ls hH hS hl
  exact lv_pop C.1 C.2.1 hd rfl (kk p e s m args below meth c C H locs ls hH hS hl)
theorem a_goto {off : Int} (t : Nat) (hd : decode cc pc = .ok (.goto off, 3)) (ht : (pc : Int) + off = (t : Int)) (kk : aW G cc own mn nL ret R Q Xp k n S L t st) : aW G cc own mn nL ret R Q Xp k n S L pc st := by
  intro p e s m args below meth c C H locs ls hH hS hl
  exact lv_goto C.1 C.2.1 hd ht (kk p e s m args below meth c C H locs ls hH hS hl)
theorem a_icmp_eq {x y x' y' : Int} {off : Int} (t : Nat) (hd : decode cc pc = .ok (.if_icmp .eq off, 3)) (ht : (pc : Int) + off = (t : Int)) (hx : wi x = x') (hy : wi y = y') (h : (if x' = y' then T else F) = some o) (kT : x' = y' → T = some o → aW G cc own mn nL ret R Q Xp k n S L t st) (kF : ¬ (x' = y') → F = some o → aW G cc own mn nL ret R Q Xp k n S L (pc + 3) st) : aW G cc own mn nL ret R Q Xp k n S L pc (vI y :: vI x :: st) := by
  intro p e s m args below meth c C H locs ls hH hS hl
  refine lv_icmp_eq C.1 C.2.1 hd ht (fun q => ?_) (fun q => ?_)
  · have qq : x' = y' := (by rw [← hx, ← hy]; exact (oi_eq x y).mp q)
    exact kT qq (by rw [if_pos qq] at h; exact h) p e s m args below meth c C H locs ls hH hS hl
  · have qq : ¬ (x' = y') := (by rw [← hx, ← hy]; exact fun z => q ((oi_eq x y).mpr z))
    exact kF qq (by rw [if_neg qq] at h; exact h) p e s m args below meth c C H locs ls hH hS hl
theorem a_if_eq {x x' : Int} {off : Int} (t : Nat) (hd : decode cc pc = .ok (.ifCond .eq off, 3)) (ht : (pc : Int) + off = (t : Int)) (hx : wi x = x') (h : (if x' = 0 then T else F) = some o) (kT : x' = 0 → T = some o → aW G cc own mn nL ret R Q Xp k n S L t st) (kF : ¬ (x' = 0) → F = some o → aW G cc own mn nL ret R Q Xp k n S L (pc + 3) st) : aW G cc own mn nL ret R Q Xp k n S L pc (vI x :: st) := by
  intro p e s m args below meth c C H locs ls hH hS hl
  refine lv_if_eq C.1 C.2.1 hd ht (fun q => ?_) (fun q => ?_)
  · have qq : x' = 0 := (by rw [← hx, ← wi_0]; exact (oi_eq x 0).mp q)
    exact kT qq (by rw [if_pos qq] at h; exact h) p e s m args below meth c C H locs ls hH hS hl
  · have qq : ¬ (x' = 0) := (by rw [← hx, ← wi_0]; exact fun z => q ((oi_eq x 0).mpr z))
    exact kF qq (by rw [if_neg qq] at h; exact h) p e s m args below meth c C H locs ls hH hS hl
theorem a_icmp_ne {x y x' y' : Int} {off : Int} (t : Nat) (hd : decode cc pc = .ok (.if_icmp .ne off, 3)) (ht : (pc : Int) + off = (t : Int)) (hx : wi x = x') (hy : wi y = y') (h : (if ¬ x' = y' then T else F) = some o) (kT : ¬ x' = y' → T = some o → aW G cc own mn nL ret R Q Xp k n S L t st) (kF : ¬ (¬ x' = y') → F = some o → aW G cc own mn nL ret R Q Xp k n S L (pc + 3) st) : aW G cc own mn nL ret R Q Xp k n S L pc (vI y :: vI x :: st) := by
  intro p e s m args below meth c C H locs ls hH hS hl
  refine lv_icmp_ne C.1 C.2.1 hd ht (fun q => ?_) (fun q => ?_)
  · have qq : ¬ x' = y' := (by rw [← hx, ← hy]; exact fun z => q ((oi_eq x y).mpr z))
    exact kT qq (by rw [if_pos qq] at h; exact h) p e s m args below meth c C H locs ls hH hS hl
  · have qq : ¬ (¬ x' = y') := (by rw [← hx, ← hy]; exact fun z => z ((oi_eq x y).mp q))
    exact kF qq (by rw [if_neg qq] at h; exact h) p e s m args below meth c C H locs ls hH hS hl
theorem a_if_ne {x x' : Int} {off : Int} (t : Nat) (hd : decode cc pc = .ok (.ifCond .ne off, 3)) (ht : (pc : Int) + off = (t : Int)) (hx : wi x = x') (h : (if ¬ x' = 0 then T else F) = some o) (kT : ¬ x' = 0 → T = some o → aW G cc own mn nL ret R Q Xp k n S L t st) (kF : ¬ (¬ x' = 0) → F = some o → aW G cc own mn nL ret R Q Xp k n S L (pc + 3) st) : aW G cc own mn nL ret R Q Xp k n S L pc (vI x :: st) := by
  intro p e s m args below meth c C H locs ls hH hS hl
  refine lv_if_ne C.1 C.2.1 hd ht (fun q => ?_) (fun q => ?_)
  · have qq : ¬ x' = 0 := (by rw [← hx, ← wi_0]; exact fun z => q ((oi_eq x 0).mpr z))
    exact kT qq (by rw [if_pos qq] at h; exact h) p e s m args below meth c C H locs ls hH hS hl
  · have qq : ¬ (¬ x' = 0) := (by rw [← hx, ← wi_0]; exact fun z => z ((oi_eq x 0).mp q))
    exact kF qq (by rw [if_neg qq] at h; exact h) p e s m args below meth c C H locs ls hH hS hl
theorem a_icmp_lt {x y x' y' : Int} {off : Int} (t : Nat) (hd : decode cc pc = .ok (.if_icmp .lt off, 3)) (ht : (pc : Int) + off = (t : Int)) (hx : wi x = x') (hy : wi y = y') (h : (if x' < y' then T else F) = some o) (kT : x' < y' → T = some o → aW G cc own mn nL ret R Q Xp k n S L t st) (kF : ¬ (x' < y') → F = some o → aW G cc own mn nL ret R Q Xp k n S L (pc + 3) st) : aW G cc own mn nL ret R Q Xp k n S L pc (vI y :: vI x :: st) := by
  intro p e s m args below meth c C H locs ls hH hS hl
  refine lv_icmp_lt C.1 C.2.1 hd ht (fun q => ?_) (fun q => ?_)
  · have qq : x' < y' := (by rw [← hx, ← hy]; exact (oi_lt x y).mp q)
    exact kT qq (by rw [if_pos qq] at h; exact h) p e s m args below meth c C H locs ls hH hS hl
  · have qq : ¬ (x' < y') := (by rw [← hx, ← hy]; exact fun z => q ((oi_lt x y).mpr z))
    exact kF qq (by rw [if_neg qq] at h; exact h) p e s m args below meth c C H locs ls hH hS hl
theorem a_if_lt {x x' : Int} {off : Int} (t : Nat) (hd : decode cc pc = .ok (.ifCond .lt off, 3)) (ht : (pc : Int) + off = (t : Int)) (hx : wi x = x') (h : (if x' < 0 then T else F) = some o) (kT : x' < 0 → T = some o → aW G cc own mn nL ret R Q Xp k n S L t st) (kF : ¬ (x' < 0) → F = some o → aW G cc own mn nL ret R Q Xp k n S L (pc + 3) st) : aW G cc own mn nL ret R Q Xp k n S L pc (vI x :: st) := by
  intro p e s m args below meth c C H locs ls hH hS hl
  refine lv_if_lt C.1 C.2.1 hd ht (fun q => ?_) (fun q => ?_)
  · have qq : x' < 0 := (by rw [← hx, ← wi_0]; exact (oi_lt x 0).mp q)
    exact kT qq (by rw [if_pos qq] at h; exact h) p e s m args below meth c C H locs ls hH hS hl
  · have qq : ¬ (x' < 0) := (by rw [← hx, ← wi_0]; exact fun z => q ((oi_lt x 0).mpr z))
    exact kF qq (by rw [if_neg qq] at h; exact h) p e s m args below meth c C H locs ls hH hS hl
theorem a_icmp_ge {x y x' y' : Int} {off : Int} (t : Nat) (hd : decode cc pc = .ok (.if_icmp .ge off, 3)) (ht : (pc : Int) + off = (t : Int)) (hx : wi x = x') (hy : wi y = y') (h : (if y' ≤ x' then T else F) = some o) (kT : y' ≤ x' → T = some o → aW G cc own mn nL ret R Q Xp k n S L t st) (kF : ¬ (y' ≤ x') → F = some o → aW G cc own mn nL ret R Q Xp k n S L (pc + 3) st) : aW G cc own mn nL ret R Q Xp k n S L pc (vI y :: vI x :: st) := by
  intro p e s m args below meth c C H locs ls hH hS hl
  refine lv_icmp_ge C.1 C.2.1 hd ht (fun q => ?_) (fun q => ?_)
  · have qq : y' ≤ x' := (by rw [← hx, ← hy]; exact (oi_le y x).mp q)
    exact kT qq (by rw [if_pos qq] at h; exact h) p e s m args below meth c C H locs ls hH hS hl
  · have qq : ¬ (y' ≤ x') := (by rw [← hx, ← hy]; exact fun z => q ((oi_le y x).mpr z))
    exact kF qq (by rw [if_neg qq] at h; exact h) p e s m args below meth c C H locs ls hH hS hl
theorem a_if_ge {x x' : Int} {off : Int} (t : Nat) (hd : decode cc pc = .ok (.ifCond .ge off, 3)) (ht : (pc : Int) + off = (t : Int)) (hx : wi x = x') (h : (if 0 ≤ x' then T else F) = some o) (kT : 0 ≤ x' → T = some o → aW G cc own mn nL ret R Q Xp k n S L t st) (kF : ¬ (0 ≤ x') → F = some o → aW G cc own mn nL ret R Q Xp k n S L (pc + 3) st) : aW G cc own mn nL ret R Q Xp k n S L pc (vI x :: st) := by
  intro p e s m args below meth c C H locs ls hH hS hl
  refine lv_if_ge C.1 C.2.1 hd ht (fun q => ?_) (fun q => ?_)
  · have qq : 0 ≤ x' := (by rw [← hx, ← wi_0]; exact (oi_le 0 x).mp q)
    exact kT qq (by rw [if_pos qq] at h; exact h) p e s m args below meth c C H locs ls hH hS hl
  · have qq : ¬ (0 ≤ x') := (by rw [← hx, ← wi_0]; exact fun z => q ((oi_le 0 x).mpr z))
    exact kF qq (by rw [if_neg qq] at h; exact h) p e s m args below meth c C H locs ls hH hS hl
theorem a_icmp_gt {x y x' y' : Int} {off : Int} (t : Nat) (hd : decode cc pc = .ok (.if_icmp .gt off, 3)) (ht : (pc : Int) + off = (t : Int)) (hx : wi x = x') (hy : wi y = y') (h : (if y' < x' then T else F) = some o) (kT : y' < x' → T = some o → aW G cc own mn nL ret R Q Xp k n S L t st) (kF : ¬ (y' < x') → F = some o → aW G cc own mn nL ret R Q Xp k n S L (pc + 3) st) : aW G cc own mn nL ret R Q Xp k n S L pc (vI y :: vI x :: st) := by
  intro p e s m args below meth c C H locs ls hH hS hl
  refine lv_icmp_gt C.1 C.2.1 hd ht (fun q => ?_) (fun q => ?_)
  · have qq : y' < x' := (by rw [← hx, ← hy]; exact (oi_lt y x).mp q)
    exact kT qq (by rw [if_pos qq] at h; exact h) p e s m args below meth c C H locs ls hH hS hl
  · have qq : ¬ (y' < x') := (by rw [← hx, ← hy]; exact fun z => q ((oi_lt y x).mpr z))
    exact kF qq (by rw [if_neg qq] at h; exact h) p e s m args below meth c C H locs ls hH hS hl
theorem a_if_gt {x x' : Int} {off : Int} (t : Nat) (hd : decode cc pc = .ok (.ifCond .gt off, 3)) (ht : (pc : Int) + off = (t : Int)) (hx : wi x = x') (h : (if 0 < x' then T else F) = some o) (kT : 0 < x' → T = some o → aW G cc own mn nL ret R Q Xp k n S L t st) (kF : ¬ (0 < x') → F = some o → aW G cc own mn nL ret R Q Xp k n S L (pc + 3) st) : aW G cc own mn nL ret R Q Xp k n S L pc (vI x :: st) := by
  intro p e s m args below meth c C H locs ls hH hS hl
  refine lv_if_gt C.1 C.2.1 hd ht (fun q => ?_) (fun q => ?_)
  · have qq : 0 < x' := (by rw [← hx, ← wi_0]; exact (oi_lt 0 x).mp q)
    exact kT qq (by rw [if_pos qq] at h; exact h) p e s m args below meth c C H locs ls hH hS hl
  · have qq : ¬ (0 < x') := (by rw [← hx, ← wi_0]; exact fun z => q ((oi_lt 0 x).mpr z))
    exact kF qq (by rw [if_neg qq] at h; exact h) p e s m args below meth c C H locs ls hH hS hl
theorem a_icmp_le {x y x' y' : Int} {off : Int} (t : Nat) (hd : decode cc pc = .ok (.if_icmp .le off, 3)) (ht : (pc : Int) + off = (t : Int)) (hx : wi x = x') (hy : wi y = y') (h : (if x' ≤ y' then T else F) = some o) (kT : x' ≤ y' → T = some o → aW G cc own mn nL ret R Q Xp k n S L t st) (kF : ¬ (x' ≤ y') → F = some o → aW G cc own mn nL ret R Q Xp k n S L (pc + 3) st) : aW G cc own mn nL ret R Q Xp k n S L pc (vI y :: vI x :: st) := by
  intro p e s m args below meth c C H locs ls hH hS hl
  refine lv_icmp_le C.1 C.2.1 hd ht (fun q => ?_) (fun q => ?_)
  · have qq : x' ≤ y' := (by rw [← hx, ← hy]; exact (oi_le x y).mp q)
    exact kT qq (by rw [if_pos qq] at h; exact h) p e s m args below meth c C H locs ls hH hS hl
  · have qq : ¬ (x' ≤ y') := (by rw [← hx, ← hy]; exact fun z => q ((oi_le x y).mpr z))
    exact kF qq (by rw [if_neg qq] at h; exact h) p e s m args below meth c C H locs ls hH hS hl
theorem a_if_le {x x' : Int} {off : Int} (t : Nat) (hd : decode cc pc = .ok (.ifCond .le off, 3)) (ht : (pc : Int) + off = (t : Int)) (hx : wi x = x') (h : (if x' ≤ 0 then T else F) = some o) (kT : x' ≤ 0 → T = some o → aW G cc own mn nL ret R Q Xp k n S L t st) (kF : ¬ (x' ≤ 0) → F = some o → aW G cc own mn nL ret R Q Xp k n S L (pc + 3) st) : aW G cc own mn nL ret R Q Xp k n S L pc (vI x :: st) := by
  intro p e s m args below meth c C H locs ls hH hS hl
  refine lv_if_le C.1 C.2.1 hd ht (fun q => ?_) (fun q => ?_)
  · have qq : x' ≤ 0 := (by rw [← hx, ← wi_0]; exact (oi_le x 0).mp q)
    exact kT qq (by rw [if_pos qq] at h; exact h) p e s m args below meth c C H locs ls hH hS hl
  · have qq : ¬ (x' ≤ 0) := (by rw [← hx, ← wi_0]; exact fun z => q ((oi_le x 0).mpr z))
    exact kF qq (by rw [if_neg qq] at h; exact h) p e s m args below meth c C H locs ls hH hS hl
theorem a_tsIn {dflt lo hi off v : Int} {offs : Array Int} {len : Nat} {x : Int} (t : Nat) (hd : decode cc pc = .ok (.tableswitch dflt lo hi offs, len)) (hx : wi x = v) (h1 : lo ≤ v ∧ v ≤ hi) (ho : offs[(v - lo).toNat]? = some off) (ht : (pc : Int) + off = (t : Int)) (kk : aW G cc own mn nL ret R Q Xp k n S L t st) : aW G cc own mn nL ret R Q Xp k n S L pc (vI x :: st) := by
  intro p e s m args below meth c C H locs ls hH hS hl
  exact lv_tableIn C.1 C.2.1 hd (by show ¬ wi x < lo; omega) (by show ¬ hi < wi x; omega) (by show offs[(wi x - lo).toNat]? = some off; rw [hx]; exact ho) ht (kk p e s m args below meth c C H locs ls hH hS hl)
theorem a_tsOut {dflt lo hi v : Int} {offs : Array Int} {len : Nat} {x : Int} (t : Nat) (hd : decode cc pc = .ok (.tableswitch dflt lo hi offs, len)) (hx : wi x = v) (h1 : v < lo ∨ hi < v) (ht : (pc : Int) + dflt = (t : Int)) (kk : aW G cc own mn nL ret R Q Xp k n S L t st) : aW G cc own mn nL ret R Q Xp k n S L pc (vI x :: st) := by
  intro p e s m args below meth c C H locs ls hH hS hl
  exact lv_tableOut C.1 C.2.1 hd (by show wi x < lo ∨ hi < wi x; omega) ht (kk p e s m args below meth c C H locs ls hH hS hl)
theorem a_lsw {dflt off v : Int} {ps : Array (Int × Int)} {len : Nat} {x : Int} (t : Nat) (hd : decode cc pc = .ok (.lookupswitch dflt ps, len)) (hp : (ps.toList.zip (ps.toList.drop 1)).all (fun (a, next) => a.1 < next.1) = true) (hx : wi x = v) (ho : Op.lookupswitch.offset ps.toList dflt v = off) (ht : (pc : Int) + off = (t : Int)) (kk : aW G cc own mn nL ret R Q Xp k n S L t st) : aW G cc own mn nL ret R Q Xp k n S L pc (vI x :: st) := by
  intro p e s m args below meth c C H locs ls hH hS hl
  exact lv_lookup C.1 C.2.1 hd hp (by show Op.lookupswitch.offset ps.toList dflt (wi x) = off; rw [hx]; exact ho) ht (kk p e s m args below meth c C H locs ls hH hS hl)
theorem a_getI {ob ci j i N : Nat} {tm : List Value} {Cn : String} {Tt : u_T} {ty : Nat → FieldType} (hd : decode cc pc = .ok (.getfield i, 3)) (hK : clK ci Cn Tt N ty) (hc : S.1[ob]? = some (.inl (ci, tm))) (hj : j < N) (ht : tm[j]? = some (.int 0)) (hw : Cond.fieldLink own i (Tt j).1 (Tt j).2.1 (Tt j).2.2.1 ∈ lw_good) (kk : aW G cc own mn nL ret R Q Xp k n S L (pc + 3) (vI (S.2 ob j) :: st)) : aW G cc own mn nL ret R Q Xp k n S L pc (.ref (gP G ob) :: st) := by
  intro p e s m args below meth c C H locs ls hH hS hl
  exact va_get (D := gD G) (C := Cn) (T := Tt) (N := N) (ci := ci) (v := vI (S.2 ob j)) C.1 C.2.1 C.2.2.2.2.2.1 hK.2.1 C.2.2.2.2.1 C.2.2.2.2.2.2.2.2.1.2.1 hH.1 ob (ws_some hc) hK.1 j hj (C.2.2.2.2.2.1 _ hw) (fun _ h9 => h9) (by rw [List.getElem?_mapIdx, ht]; rfl) hd (kk p e s m args below meth c C H locs ls hH hS hl)
theorem a_getIN {host : String} {ob ci j i N : Nat} {tm : List Value} {Cn : String} {Tt : u_T} {ty : Nat → FieldType} (hd : decode cc pc = .ok (.getfield i, 3)) (hK : clK ci Cn Tt N ty) (hc : S.1[ob]? = some (.inl (ci, tm))) (hj : j < N) (ht : tm[j]? = some (.int 0)) (hw : Cond.fieldLinkNest own i (Tt j).1 (Tt j).2.1 (Tt j).2.2.1 host ∈ lw_nest) (kk : aW G cc own mn nL ret R Q Xp k n S L (pc + 3) (vI (S.2 ob j) :: st)) : aW G cc own mn nL ret R Q Xp k n S L pc (.ref (gP G ob) :: st) := by
  intro p e s m args below meth c C H locs ls hH hS hl
  exact va_getN (D := gD G) (C := Cn) (T := Tt) (N := N) (ci := ci) (v := vI (S.2 ob j)) C.1 C.2.1 C.2.2.2.2.2.1 hK.2.1 C.2.2.2.2.1 C.2.2.2.2.2.2.2.2.1.2.1 hH.1 ob (ws_some hc) hK.1 j hj (va_Nw.use rfl (C.2.2.2.2.2.2.2.2.1.2.2.1 _ hw)) (fun _ h9 => h9) (by rw [List.getElem?_mapIdx, ht]; rfl) hd (kk p e s m args below meth c C H locs ls hH hS hl)
theorem a_getL {ob ci j i N : Nat} {tm : List Value} {Cn : String} {Tt : u_T} {ty : Nat → FieldType} (hd : decode cc pc = .ok (.getfield i, 3)) (hK : clK ci Cn Tt N ty) (hc : S.1[ob]? = some (.inl (ci, tm))) (hj : j < N) (ht : tm[j]? = some (.long 0)) (hw : Cond.fieldLink own i (Tt j).1 (Tt j).2.1 (Tt j).2.2.1 ∈ lw_good) (kk : aW G cc own mn nL ret R Q Xp k n S L (pc + 3) (vL (S.2 ob j) :: st)) : aW G cc own mn nL ret R Q Xp k n S L pc (.ref (gP G ob) :: st) := by
  intro p e s m args below meth c C H locs ls hH hS hl
  exact va_get (D := gD G) (C := Cn) (T := Tt) (N := N) (ci := ci) (v := vL (S.2 ob j)) C.1 C.2.1 C.2.2.2.2.2.1 hK.2.1 C.2.2.2.2.1 C.2.2.2.2.2.2.2.2.1.2.1 hH.1 ob (ws_some hc) hK.1 j hj (C.2.2.2.2.2.1 _ hw) (fun _ h9 => h9) (by rw [List.getElem?_mapIdx, ht]; rfl) hd (kk p e s m args below meth c C H locs ls hH hS hl)
theorem a_getLN {host : String} {ob ci j i N : Nat} {tm : List Value} {Cn : String} {Tt : u_T} {ty : Nat → FieldType} (hd : decode cc pc = .ok (.getfield i, 3)) (hK : clK ci Cn Tt N ty) (hc : S.1[ob]? = some (.inl (ci, tm))) (hj : j < N) (ht : tm[j]? = some (.long 0)) (hw : Cond.fieldLinkNest own i (Tt j).1 (Tt j).2.1 (Tt j).2.2.1 host ∈ lw_nest) (kk : aW G cc own mn nL ret R Q Xp k n S L (pc + 3) (vL (S.2 ob j) :: st)) : aW G cc own mn nL ret R Q Xp k n S L pc (.ref (gP G ob) :: st) := by
  intro p e s m args below meth c C H locs ls hH hS hl
  exact va_getN (D := gD G) (C := Cn) (T := Tt) (N := N) (ci := ci) (v := vL (S.2 ob j)) C.1 C.2.1 C.2.2.2.2.2.1 hK.2.1 C.2.2.2.2.1 C.2.2.2.2.2.2.2.2.1.2.1 hH.1 ob (ws_some hc) hK.1 j hj (va_Nw.use rfl (C.2.2.2.2.2.2.2.2.1.2.2.1 _ hw)) (fun _ h9 => h9) (by rw [List.getElem?_mapIdx, ht]; rfl) hd (kk p e s m args below meth c C H locs ls hH hS hl)
theorem a_getR {a : Nat} {ob ci j i N : Nat} {tm : List Value} {Cn : String} {Tt : u_T} {ty : Nat → FieldType} (hd : decode cc pc = .ok (.getfield i, 3)) (hK : clK ci Cn Tt N ty) (hc : S.1[ob]? = some (.inl (ci, tm))) (hj : j < N) (ht : tm[j]? = some (.ref a)) (hw : Cond.fieldLink own i (Tt j).1 (Tt j).2.1 (Tt j).2.2.1 ∈ lw_good) (kk : aW G cc own mn nL ret R Q Xp k n S L (pc + 3) (.ref (gP G a) :: st)) : aW G cc own mn nL ret R Q Xp k n S L pc (.ref (gP G ob) :: st) := by
  intro p e s m args below meth c C H locs ls hH hS hl
  exact va_get (D := gD G) (C := Cn) (T := Tt) (N := N) (ci := ci) (v := .ref (gP G a)) C.1 C.2.1 C.2.2.2.2.2.1 hK.2.1 C.2.2.2.2.1 C.2.2.2.2.2.2.2.2.1.2.1 hH.1 ob (ws_some hc) hK.1 j hj (C.2.2.2.2.2.1 _ hw) (fun _ h9 => h9) (by rw [List.getElem?_mapIdx, ht]; rfl) hd (kk p e s m args below meth c C H locs ls hH hS hl)
theorem a_getRN {a : Nat} {host : String} {ob ci j i N : Nat} {tm : List Value} {Cn : String} {Tt : u_T} {ty : Nat → FieldType} (hd : decode cc pc = .ok (.getfield i, 3)) (hK : clK ci Cn Tt N ty) (hc : S.1[ob]? = some (.inl (ci, tm))) (hj : j < N) (ht : tm[j]? = some (.ref a)) (hw : Cond.fieldLinkNest own i (Tt j).1 (Tt j).2.1 (Tt j).2.2.1 host ∈ lw_nest) (kk : aW G cc own mn nL ret R Q Xp k n S L (pc + 3) (.ref (gP G a) :: st)) : aW G cc own mn nL ret R Q Xp k n S L pc (.ref (gP G ob) :: st) := by
  intro p e s m args below meth c C H locs ls hH hS hl
  exact va_getN (D := gD G) (C := Cn) (T := Tt) (N := N) (ci := ci) (v := .ref (gP G a)) C.1 C.2.1 C.2.2.2.2.2.1 hK.2.1 C.2.2.2.2.1 C.2.2.2.2.2.2.2.2.1.2.1 hH.1 ob (ws_some hc) hK.1 j hj (va_Nw.use rfl (C.2.2.2.2.2.2.2.2.1.2.2.1 _ hw)) (fun _ h9 => h9) (by rw [List.getElem?_mapIdx, ht]; rfl) hd (kk p e s m args below meth c C H locs ls hH hS hl)
theorem s_put {p : Program} {l : Launch} {e : Env} {R : Room} {s : State} {m : MethodId} {args : Array Value} {below : List Frame} {meth : Method} {c : Code} {H H0 : Heap} {locs : List Loc} {cells slots : Nat} {Q : State → Prop} {cc : ByteArray} {pc : Nat} {ls : Array Slot} {rest : List Value} {D : va_G} {A : Nat → Prop} {a : Nat} {tys : List (ClassId × FieldType)} {ws : va_W}
    (hexec : p.tables.exec = Jvm.exec) (hb : c.code = cc) {own C : String} {T : u_T} {N ci index : Nat} {ty0 : Nat → FieldType} (hts : ∀ w ∈ lw_good, w.before args s = true) (hKl : clK ci C T N ty0) (hown : s.vm.findClass own = some m.cls) (hK : va_K D vwCl tys s) (hP : va_P D vwCl ws H) (hD : va_D A ws) (hS0 : va_S A H0 H locs) (q0 : Nat) {fs : List Value} (he : ws[q0]? = some (a, .inr (ci, fs))) (k : Nat) (hk : k < N)
    (hlink : (Cond.fieldLink own index (T k).1 (T k).2.1 (T k).2.2.1).before args s = true) (hfin : (T k).2.2.2 = false) {ty : FieldType} {v : Value} (hd : ty0 k = ty) (hn : narrow ty v = v) (hfit : fits ty v = true) (hl : k < fs.length) (hdg : decode cc pc = .ok (.putfield index, 3))
    (kk : ∀ (H1 : Heap) (locs1 : List Loc), va_P D vwCl (ws.set q0 (a, .inr (ci, fs.set k v))) H1 → va_S A H0 H1 locs1 → H1.size = H.size → (∀ q : Nat, (H1[q]?).map (fun c => c.slots.size) = (H[q]?).map (fun c => c.slots.size)) → W p l e R s m args below meth c H1 locs1 cells slots Q (F0 m (pc + 3) ls rest)) : W p l e R s m args below meth c H locs cells slots Q (F0 m pc ls (v :: .ref a :: rest)) := by
  obtain ⟨hc, hin, hty, hnm⟩ := hKl
  have hap := va_apart (own := own) hts hin ty0 hty hnm hK hc
  obtain ⟨r, h1, cell, q1, q2, q3, q4⟩ := hP q0 _ he
  have hr : r = (C, T, N) := Option.some.inj (h1.symm.trans hc)
  subst hr
  obtain ⟨hS, hfc, kC, hkC, hkind⟩ := hK.1 ci _ hc
  obtain ⟨cf, kf, fi, f, hi, hsl⟩ := hS k hk
  have hlay := hts _ (hin _ (u_in_lay hk))
  have hd2 : parseFieldDescriptor (T k).2.2.1 = some ty := by rw [hty k hk, hd]
  unfold u_lay at hlay
  rw [if_neg (by rw [hfin]; decide)] at hlay
  have hst := (u_facts hfc hkC (u_lays hts hin hk) hi).1
  have h6 := u_store hfc hkC hkind hlay hi hd2 hn hfit
  refine W.putK hexec hb (f := f) ⟨hown, hlink, ⟨_, _, _, hi⟩, hst⟩ (by rw [q2]; exact h6) q1 q3 (by rw [hsl]; exact k2_hasslot (q4 k hk)) rfl rfl hdg fun H' e1 e2 e3 => ?_
  rw [hsl] at e1 ⊢
  exact kk H' _ (hP.set hD he ⟨_, hc, t_OB.to (V := updV (vp_V fs) k v) ⟨_, e1, q2, q3, t_set q4 hap hk v⟩ (fun j _ => vp_updV_set hl v j)⟩ e3) (hS0.put e2 e3 (hD.2 q0 _ he)) e2 (fun q => by
    by_cases hq : q = a
    · rw [hq, e1, q1]; simp [Cell.setSlot]
    · rw [e3 q hq])
theorem s_putN {p : Program} {l : Launch} {e : Env} {R : Room} {s : State} {m : MethodId} {args : Array Value} {below : List Frame} {meth : Method} {c : Code} {H H0 : Heap} {locs : List Loc} {cells slots : Nat} {Q : State → Prop} {cc : ByteArray} {pc : Nat} {ls : Array Slot} {rest : List Value} {D : va_G} {A : Nat → Prop} {a : Nat} {tys : List (ClassId × FieldType)} {ws : va_W}
    (hexec : p.tables.exec = Jvm.exec) (hb : c.code = cc) {own C host : String} {T : u_T} {N ci index : Nat} {ty0 : Nat → FieldType} (hts : ∀ w ∈ lw_good, w.before args s = true) (hKl : clK ci C T N ty0) (hown : s.vm.findClass own = some m.cls) (hK : va_K D vwCl tys s) (hP : va_P D vwCl ws H) (hD : va_D A ws) (hS0 : va_S A H0 H locs) (q0 : Nat) {fs : List Value} (he : ws[q0]? = some (a, .inr (ci, fs))) (k : Nat) (hk : k < N)
    (hlink : (Cond.fieldLinkNest own index (T k).1 (T k).2.1 (T k).2.2.1 host).before args s = true) (hfin : (T k).2.2.2 = false) {ty : FieldType} {v : Value} (hd : ty0 k = ty) (hn : narrow ty v = v) (hfit : fits ty v = true) (hl : k < fs.length) (hdg : decode cc pc = .ok (.putfield index, 3))
    (kk : ∀ (H1 : Heap) (locs1 : List Loc), va_P D vwCl (ws.set q0 (a, .inr (ci, fs.set k v))) H1 → va_S A H0 H1 locs1 → H1.size = H.size → (∀ q : Nat, (H1[q]?).map (fun c => c.slots.size) = (H[q]?).map (fun c => c.slots.size)) → W p l e R s m args below meth c H1 locs1 cells slots Q (F0 m (pc + 3) ls rest)) : W p l e R s m args below meth c H locs cells slots Q (F0 m pc ls (v :: .ref a :: rest)) := by
  obtain ⟨hc, hin, hty, hnm⟩ := hKl
  have hap := va_apart (own := own) hts hin ty0 hty hnm hK hc
  obtain ⟨r, h1, cell, q1, q2, q3, q4⟩ := hP q0 _ he
  have hr : r = (C, T, N) := Option.some.inj (h1.symm.trans hc)
  subst hr
  obtain ⟨hS, hfc, kC, hkC, hkind⟩ := hK.1 ci _ hc
  obtain ⟨cf, kf, fi, f, hi, hsl⟩ := hS k hk
  have hlay := hts _ (hin _ (u_in_lay hk))
  have hd2 : parseFieldDescriptor (T k).2.2.1 = some ty := by rw [hty k hk, hd]
  unfold u_lay at hlay
  rw [if_neg (by rw [hfin]; decide)] at hlay
  have hst := (u_facts hfc hkC (u_lays hts hin hk) hi).1
  have h6 := u_store hfc hkC hkind hlay hi hd2 hn hfit
  refine va_WputK hexec hb (f := f) hown hlink hi hst (by rw [q2]; exact h6) q1 q3 (by rw [hsl]; exact k2_hasslot (q4 k hk)) rfl rfl hdg fun H' e1 e2 e3 => ?_
  rw [hsl] at e1 ⊢
  exact kk H' _ (hP.set hD he ⟨_, hc, t_OB.to (V := updV (vp_V fs) k v) ⟨_, e1, q2, q3, t_set q4 hap hk v⟩ (fun j _ => vp_updV_set hl v j)⟩ e3) (hS0.put e2 e3 (hD.2 q0 _ he)) e2 (fun q => by
    by_cases hq : q = a
    · rw [hq, e1, q1]; simp [Cell.setSlot]
    · rw [e3 q hq])
theorem s_putF {p : Program} {l : Launch} {e : Env} {R : Room} {s : State} {m : MethodId} {args : Array Value} {below : List Frame} {meth : Method} {c : Code} {H H0 : Heap} {locs : List Loc} {cells slots : Nat} {Q : State → Prop} {cc : ByteArray} {pc : Nat} {ls : Array Slot} {rest : List Value} {D : va_G} {A : Nat → Prop} {a : Nat} {tys : List (ClassId × FieldType)} {ws : va_W}
    (hexec : p.tables.exec = Jvm.exec) (hb : c.code = cc) {own C : String} {T : u_T} {N ci index : Nat} {ty0 : Nat → FieldType} (hts : ∀ w ∈ lw_good, w.before args s = true) (hKl : clK ci C T N ty0) (hown : s.vm.findClass own = some m.cls) (hK : va_K D vwCl tys s) (hP : va_P D vwCl ws H) (hD : va_D A ws) (hS0 : va_S A H0 H locs) (q0 : Nat) {fs : List Value} (he : ws[q0]? = some (a, .inr (ci, fs))) (k : Nat) (hk : k < N)
    (hlink : (Cond.fieldLink own index (T k).1 (T k).2.1 (T k).2.2.1).before args s = true) (hfin : (T k).2.2.2 = true) (hin2 : meth.name = "<init>") (hdecl : (T k).1 = own) {ty : FieldType} {v : Value} (hd : ty0 k = ty) (hn : narrow ty v = v) (hfit : fits ty v = true) (hl : k < fs.length) (hdg : decode cc pc = .ok (.putfield index, 3))
    (kk : ∀ (H1 : Heap) (locs1 : List Loc), va_P D vwCl (ws.set q0 (a, .inr (ci, fs.set k v))) H1 → va_S A H0 H1 locs1 → H1.size = H.size → (∀ q : Nat, (H1[q]?).map (fun c => c.slots.size) = (H[q]?).map (fun c => c.slots.size)) → W p l e R s m args below meth c H1 locs1 cells slots Q (F0 m (pc + 3) ls rest)) : W p l e R s m args below meth c H locs cells slots Q (F0 m pc ls (v :: .ref a :: rest)) := by
  obtain ⟨hc, hin, hty, hnm⟩ := hKl
  have hap := va_apart (own := own) hts hin ty0 hty hnm hK hc
  obtain ⟨r, h1, cell, q1, q2, q3, q4⟩ := hP q0 _ he
  have hr : r = (C, T, N) := Option.some.inj (h1.symm.trans hc)
  subst hr
  obtain ⟨hS, hfc, kC, hkC, hkind⟩ := hK.1 ci _ hc
  obtain ⟨cf, kf, fi, f, hi, hsl⟩ := hS k hk
  have hlay := hts _ (hin _ (u_in_lay hk))
  have hd2 : parseFieldDescriptor (T k).2.2.1 = some ty := by rw [hty k hk, hd]
  unfold u_lay at hlay
  rw [if_pos hfin] at hlay
  have hst := (u_facts hfc hkC (u_lays hts hin hk) hi).1
  have hcf : m.cls = cf := by
    obtain ⟨_, _, c', _, _, _, -, -, hf', -, -, -, hown2, -⟩ := Cond.laysFinal_spec hlay
    have e1 : c' = cf := by have := hi.symm.trans hf'; simp at this; exact this.1.symm
    rw [hdecl] at hown2
    rw [← e1]; exact Option.some.inj (hown.symm.trans hown2)
  have h6 := u_fits hfc hkC hkind (Or.inr hlay) hi hd2 hn hfit
  refine W.putFinK hexec hb hown hlink hi hst hcf hin2 (by rw [q2]; exact h6) q1 q3 (by rw [hsl]; exact k2_hasslot (q4 k hk)) rfl rfl hdg fun H' e1 e2 e3 => ?_
  rw [hsl] at e1 ⊢
  exact kk H' _ (hP.set hD he ⟨_, hc, t_OB.to (V := updV (vp_V fs) k v) ⟨_, e1, q2, q3, t_set q4 hap hk v⟩ (fun j _ => vp_updV_set hl v j)⟩ e3) (hS0.put e2 e3 (hD.2 q0 _ he)) e2 (fun q => by
    by_cases hq : q = a
    · rw [hq, e1, q1]; simp [Cell.setSlot]
    · rw [e3 q hq])
theorem a_putI {ob ci j i N : Nat} {tm : List Value} {Cn : String} {Tt : u_T} {ty : Nat → FieldType} {z : Int} (hd : decode cc pc = .ok (.putfield i, 3)) (hK : clK ci Cn Tt N ty) (hc : Sh[ob]? = some (.inl (ci, tm))) (hj : j < N) (ht : tm[j]? = some (.int 0)) (hf : (Tt j).2.2.2 = false) (hy : ty j = .int) (hw : Cond.fieldLink own i (Tt j).1 (Tt j).2.1 (Tt j).2.2.1 ∈ lw_good) (kk : aW G cc own mn nL ret R Q Xp k n (Sh, sU σ ob j z) L (pc + 3) st) : aW G cc own mn nL ret R Q Xp k n (Sh, σ) L pc (vI z :: .ref (gP G ob) :: st) := by
  intro p e s m args below meth c C H locs ls hH hS hl
  have hl9 : j < tm.length := (List.getElem?_eq_some_iff.mp ht).1
  refine s_put (D := gD G) (v := vI z) C.1 C.2.1 C.2.2.2.2.2.1 hK C.2.2.2.2.1 C.2.2.2.2.2.2.2.2.1.2.1 hH.1 (ws_D G (Sh, σ)) hS ob (fs := tm.mapIdx (fun j t => fillV (gP G) t (σ ob j))) (ws_some (S := (Sh, σ)) (e := .inl (ci, tm)) hc) j hj (C.2.2.2.2.2.1 _ hw) hf hy rfl rfl (by simpa using hl9) hd (fun H1 locs1 hP hS1 hsz hzz => ?_)
  refine kk p e s m args below meth c C H1 locs1 ls ⟨?_, by rw [hsz]; exact hH.2.1, sZ.same hH.2.2 hzz⟩ hS1 hl
  rw [← ws_set (σ := σ) hc (fun k' hk' => sU_ne hk'), fill_obj_set (σ := σ) ht (v := vI z) rfl]
  exact hP
theorem a_putIN {host : String} {ob ci j i N : Nat} {tm : List Value} {Cn : String} {Tt : u_T} {ty : Nat → FieldType} {z : Int} (hd : decode cc pc = .ok (.putfield i, 3)) (hK : clK ci Cn Tt N ty) (hc : Sh[ob]? = some (.inl (ci, tm))) (hj : j < N) (ht : tm[j]? = some (.int 0)) (hf : (Tt j).2.2.2 = false) (hy : ty j = .int) (hw : Cond.fieldLinkNest own i (Tt j).1 (Tt j).2.1 (Tt j).2.2.1 host ∈ lw_nest) (kk : aW G cc own mn nL ret R Q Xp k n (Sh, sU σ ob j z) L (pc + 3) st) : aW G cc own mn nL ret R Q Xp k n (Sh, σ) L pc (vI z :: .ref (gP G ob) :: st) := by
  intro p e s m args below meth c C H locs ls hH hS hl
  have hl9 : j < tm.length := (List.getElem?_eq_some_iff.mp ht).1
  refine s_putN (D := gD G) (v := vI z) C.1 C.2.1 C.2.2.2.2.2.1 hK C.2.2.2.2.1 C.2.2.2.2.2.2.2.2.1.2.1 hH.1 (ws_D G (Sh, σ)) hS ob (fs := tm.mapIdx (fun j t => fillV (gP G) t (σ ob j))) (ws_some (S := (Sh, σ)) (e := .inl (ci, tm)) hc) j hj (va_Nw.use rfl (C.2.2.2.2.2.2.2.2.1.2.2.1 _ hw)) hf hy rfl rfl (by simpa using hl9) hd (fun H1 locs1 hP hS1 hsz hzz => ?_)
  refine kk p e s m args below meth c C H1 locs1 ls ⟨?_, by rw [hsz]; exact hH.2.1, sZ.same hH.2.2 hzz⟩ hS1 hl
  rw [← ws_set (σ := σ) hc (fun k' hk' => sU_ne hk'), fill_obj_set (σ := σ) ht (v := vI z) rfl]
  exact hP
theorem a_putL {ob ci j i N : Nat} {tm : List Value} {Cn : String} {Tt : u_T} {ty : Nat → FieldType} {z : Int} (hd : decode cc pc = .ok (.putfield i, 3)) (hK : clK ci Cn Tt N ty) (hc : Sh[ob]? = some (.inl (ci, tm))) (hj : j < N) (ht : tm[j]? = some (.long 0)) (hf : (Tt j).2.2.2 = false) (hy : ty j = .long) (hw : Cond.fieldLink own i (Tt j).1 (Tt j).2.1 (Tt j).2.2.1 ∈ lw_good) (kk : aW G cc own mn nL ret R Q Xp k n (Sh, sU σ ob j z) L (pc + 3) st) : aW G cc own mn nL ret R Q Xp k n (Sh, σ) L pc (vL z :: .ref (gP G ob) :: st) := by
  intro p e s m args below meth c C H locs ls hH hS hl
  have hl9 : j < tm.length := (List.getElem?_eq_some_iff.mp ht).1
  refine s_put (D := gD G) (v := vL z) C.1 C.2.1 C.2.2.2.2.2.1 hK C.2.2.2.2.1 C.2.2.2.2.2.2.2.2.1.2.1 hH.1 (ws_D G (Sh, σ)) hS ob (fs := tm.mapIdx (fun j t => fillV (gP G) t (σ ob j))) (ws_some (S := (Sh, σ)) (e := .inl (ci, tm)) hc) j hj (C.2.2.2.2.2.1 _ hw) hf hy rfl rfl (by simpa using hl9) hd (fun H1 locs1 hP hS1 hsz hzz => ?_)
  refine kk p e s m args below meth c C H1 locs1 ls ⟨?_, by rw [hsz]; exact hH.2.1, sZ.same hH.2.2 hzz⟩ hS1 hl
  rw [← ws_set (σ := σ) hc (fun k' hk' => sU_ne hk'), fill_obj_set (σ := σ) ht (v := vL z) rfl]
  exact hP
theorem a_putLN {host : String} {ob ci j i N : Nat} {tm : List Value} {Cn : String} {Tt : u_T} {ty : Nat → FieldType} {z : Int} (hd : decode cc pc = .ok (.putfield i, 3)) (hK : clK ci Cn Tt N ty) (hc : Sh[ob]? = some (.inl (ci, tm))) (hj : j < N) (ht : tm[j]? = some (.long 0)) (hf : (Tt j).2.2.2 = false) (hy : ty j = .long) (hw : Cond.fieldLinkNest own i (Tt j).1 (Tt j).2.1 (Tt j).2.2.1 host ∈ lw_nest) (kk : aW G cc own mn nL ret R Q Xp k n (Sh, sU σ ob j z) L (pc + 3) st) : aW G cc own mn nL ret R Q Xp k n (Sh, σ) L pc (vL z :: .ref (gP G ob) :: st) := by
  intro p e s m args below meth c C H locs ls hH hS hl
  have hl9 : j < tm.length := (List.getElem?_eq_some_iff.mp ht).1
  refine s_putN (D := gD G) (v := vL z) C.1 C.2.1 C.2.2.2.2.2.1 hK C.2.2.2.2.1 C.2.2.2.2.2.2.2.2.1.2.1 hH.1 (ws_D G (Sh, σ)) hS ob (fs := tm.mapIdx (fun j t => fillV (gP G) t (σ ob j))) (ws_some (S := (Sh, σ)) (e := .inl (ci, tm)) hc) j hj (va_Nw.use rfl (C.2.2.2.2.2.2.2.2.1.2.2.1 _ hw)) hf hy rfl rfl (by simpa using hl9) hd (fun H1 locs1 hP hS1 hsz hzz => ?_)
  refine kk p e s m args below meth c C H1 locs1 ls ⟨?_, by rw [hsz]; exact hH.2.1, sZ.same hH.2.2 hzz⟩ hS1 hl
  rw [← ws_set (σ := σ) hc (fun k' hk' => sU_ne hk'), fill_obj_set (σ := σ) ht (v := vL z) rfl]
  exact hP
theorem a_putZ {ob ci j i N : Nat} {tm : List Value} {Cn : String} {Tt : u_T} {ty : Nat → FieldType} {z : Int} (hd : decode cc pc = .ok (.putfield i, 3)) (hK : clK ci Cn Tt N ty) (hc : Sh[ob]? = some (.inl (ci, tm))) (hj : j < N) (ht : tm[j]? = some (.int 0)) (hf : (Tt j).2.2.2 = false) (hy : ty j = .boolean) (hw : Cond.fieldLink own i (Tt j).1 (Tt j).2.1 (Tt j).2.2.1 ∈ lw_good) (hz : narrow .boolean (vI z) = vI z ∧ fits .boolean (vI z) = true) (kk : aW G cc own mn nL ret R Q Xp k n (Sh, sU σ ob j z) L (pc + 3) st) : aW G cc own mn nL ret R Q Xp k n (Sh, σ) L pc (vI z :: .ref (gP G ob) :: st) := by
  intro p e s m args below meth c C H locs ls hH hS hl
  have hl9 : j < tm.length := (List.getElem?_eq_some_iff.mp ht).1
  refine s_put (D := gD G) (v := vI z) C.1 C.2.1 C.2.2.2.2.2.1 hK C.2.2.2.2.1 C.2.2.2.2.2.2.2.2.1.2.1 hH.1 (ws_D G (Sh, σ)) hS ob (fs := tm.mapIdx (fun j t => fillV (gP G) t (σ ob j))) (ws_some (S := (Sh, σ)) (e := .inl (ci, tm)) hc) j hj (C.2.2.2.2.2.1 _ hw) hf hy hz.1 hz.2 (by simpa using hl9) hd (fun H1 locs1 hP hS1 hsz hzz => ?_)
  refine kk p e s m args below meth c C H1 locs1 ls ⟨?_, by rw [hsz]; exact hH.2.1, sZ.same hH.2.2 hzz⟩ hS1 hl
  rw [← ws_set (σ := σ) hc (fun k' hk' => sU_ne hk'), fill_obj_set (σ := σ) ht (v := vI z) rfl]
  exact hP
theorem a_putZN {host : String} {ob ci j i N : Nat} {tm : List Value} {Cn : String} {Tt : u_T} {ty : Nat → FieldType} {z : Int} (hd : decode cc pc = .ok (.putfield i, 3)) (hK : clK ci Cn Tt N ty) (hc : Sh[ob]? = some (.inl (ci, tm))) (hj : j < N) (ht : tm[j]? = some (.int 0)) (hf : (Tt j).2.2.2 = false) (hy : ty j = .boolean) (hw : Cond.fieldLinkNest own i (Tt j).1 (Tt j).2.1 (Tt j).2.2.1 host ∈ lw_nest) (hz : narrow .boolean (vI z) = vI z ∧ fits .boolean (vI z) = true) (kk : aW G cc own mn nL ret R Q Xp k n (Sh, sU σ ob j z) L (pc + 3) st) : aW G cc own mn nL ret R Q Xp k n (Sh, σ) L pc (vI z :: .ref (gP G ob) :: st) := by
  intro p e s m args below meth c C H locs ls hH hS hl
  have hl9 : j < tm.length := (List.getElem?_eq_some_iff.mp ht).1
  refine s_putN (D := gD G) (v := vI z) C.1 C.2.1 C.2.2.2.2.2.1 hK C.2.2.2.2.1 C.2.2.2.2.2.2.2.2.1.2.1 hH.1 (ws_D G (Sh, σ)) hS ob (fs := tm.mapIdx (fun j t => fillV (gP G) t (σ ob j))) (ws_some (S := (Sh, σ)) (e := .inl (ci, tm)) hc) j hj (va_Nw.use rfl (C.2.2.2.2.2.2.2.2.1.2.2.1 _ hw)) hf hy hz.1 hz.2 (by simpa using hl9) hd (fun H1 locs1 hP hS1 hsz hzz => ?_)
  refine kk p e s m args below meth c C H1 locs1 ls ⟨?_, by rw [hsz]; exact hH.2.1, sZ.same hH.2.2 hzz⟩ hS1 hl
  rw [← ws_set (σ := σ) hc (fun k' hk' => sU_ne hk'), fill_obj_set (σ := σ) ht (v := vI z) rfl]
  exact hP
theorem a_iald {ar len : Nat} {g : Nat → Option Nat} {x x' : Int} (hd : decode cc pc = .ok (.iaload, 1)) (hc : S.1[ar]? = some (.inr (.int, len, g))) (hx : wi x = x') (hb : 0 ≤ x' ∧ x' < (len : Int)) {j : Nat} (hj : x'.toNat = j) (kk : aW G cc own mn nL ret R Q Xp k n S L (pc + 1) (vI (S.2 ar j) :: st)) : aW G cc own mn nL ret R Q Xp k n S L pc (vI x :: .ref (gP G ar) :: st) := by
  intro p e s m args below meth c C H locs ls hH hS hl
  exact va_iald C.1 C.2.1 C.2.2.2.2.2.2.2.2.1.2.1 hH.1 ar 0 (ws_some hc) rfl (vp_in_iff.mpr (by show 0 ≤ wi x ∧ wi x < (len : Int); rw [hx]; exact hb)) hd (by rw [oi_cl, hx, hj]; exact (kk p e s m args below meth c C H locs ls hH hS hl))
theorem a_bald {ar len : Nat} {g : Nat → Option Nat} {x x' : Int} (hd : decode cc pc = .ok (.baload, 1)) (hc : S.1[ar]? = some (.inr (.byte, len, g))) (hx : wi x = x') (hb : 0 ≤ x' ∧ x' < (len : Int)) {j : Nat} (hj : x'.toNat = j) (kk : aW G cc own mn nL ret R Q Xp k n S L (pc + 1) (vI (S.2 ar j) :: st)) : aW G cc own mn nL ret R Q Xp k n S L pc (vI x :: .ref (gP G ar) :: st) := by
  intro p e s m args below meth c C H locs ls hH hS hl
  exact va_bald C.1 C.2.1 C.2.2.2.2.2.2.2.2.1.2.1 hH.1 ar 1 (ws_some hc) rfl (vp_in_iff.mpr (by show 0 ≤ wi x ∧ wi x < (len : Int); rw [hx]; exact hb)) hd (by rw [oi_cl, hx, hj]; exact (kk p e s m args below meth c C H locs ls hH hS hl))
theorem a_zald {ar len : Nat} {g : Nat → Option Nat} {x x' : Int} (hd : decode cc pc = .ok (.baload, 1)) (hc : S.1[ar]? = some (.inr (.boolean, len, g))) (hx : wi x = x') (hb : 0 ≤ x' ∧ x' < (len : Int)) {j : Nat} (hj : x'.toNat = j) (kk : aW G cc own mn nL ret R Q Xp k n S L (pc + 1) (vI (S.2 ar j) :: st)) : aW G cc own mn nL ret R Q Xp k n S L pc (vI x :: .ref (gP G ar) :: st) := by
  intro p e s m args below meth c C H locs ls hH hS hl
  exact va_zald C.1 C.2.1 C.2.2.2.2.2.2.2.2.1.2.1 hH.1 ar 2 (ws_some hc) rfl (vp_in_iff.mpr (by show 0 ≤ wi x ∧ wi x < (len : Int); rw [hx]; exact hb)) hd (by rw [oi_cl, hx, hj]; exact (kk p e s m args below meth c C H locs ls hH hS hl))
theorem a_lald {ar len : Nat} {g : Nat → Option Nat} {x x' : Int} (hd : decode cc pc = .ok (.laload, 1)) (hc : S.1[ar]? = some (.inr (.long, len, g))) (hx : wi x = x') (hb : 0 ≤ x' ∧ x' < (len : Int)) {j : Nat} (hj : x'.toNat = j) (kk : aW G cc own mn nL ret R Q Xp k n S L (pc + 1) (vL (S.2 ar j) :: st)) : aW G cc own mn nL ret R Q Xp k n S L pc (vI x :: .ref (gP G ar) :: st) := by
  intro p e s m args below meth c C H locs ls hH hS hl
  exact va_lald C.1 C.2.1 C.2.2.2.2.2.2.2.2.1.2.1 hH.1 ar 3 (ws_some hc) rfl (vp_in_iff.mpr (by show 0 ≤ wi x ∧ wi x < (len : Int); rw [hx]; exact hb)) hd (by rw [oi_cl, hx, hj]; exact (kk p e s m args below meth c C H locs ls hH hS hl))
theorem a_iast {ar len : Nat} {g : Nat → Option Nat} {x x' z : Int} (hd : decode cc pc = .ok (.iastore, 1)) (hc : Sh[ar]? = some (.inr (.int, len, g))) (hx : wi x = x') (hb : 0 ≤ x' ∧ x' < (len : Int)) {j9 : Nat} (hj : x'.toNat = j9) (kk : aW G cc own mn nL ret R Q Xp k n (Sh, sU σ ar j9 (z)) L (pc + 1) st) : aW G cc own mn nL ret R Q Xp k n (Sh, σ) L pc (vI z :: vI x :: .ref (gP G ar) :: st) := by
  intro p e s m args below meth c C H locs ls hH hS hl
  subst hj
  have hcell := hH.1 ar _ (ws_some hc)
  refine W.iast C.1 C.2.1 (cell := vp_cell (gA G .int) (len, .inl (fun j => Int32.ofInt (σ ar j)))) hcell ((C.2.2.2.2.2.2.2.2.1.2.1.2 0 _ rfl).1 len (fun j => .int (Int32.ofInt (σ ar j)))) (fun q => by cases q) (by show ¬ (_ ∨ (arrV _ _ _).slots.size ≤ _); rw [arrV_size]; exact vp_in_iff.mpr (by show 0 ≤ wi x ∧ wi x < (len : Int); rw [hx]; exact hb)) rfl rfl hd (fun H1 e1 z1 o1 => ?_)
  have hset : H1[gP G ar]? = some (vp_cell (gA G .int) (len, .inl (fun j => Int32.ofInt (sU σ ar x'.toNat (z) ar j)))) := by
    rw [e1, oi_cl, hx, vp_cell_i, vp_cell_i, arrV_store]
    congr 2
    funext q
    unfold updV sU
    by_cases hq : q = x'.toNat
    · rw [if_pos hq, if_pos ⟨rfl, hq⟩]
    · rw [if_neg hq, if_neg (fun z9 => hq z9.2)]
  have hzz : ∀ q : Nat, (H1[q]?).map (fun c => c.slots.size) = (H[q]?).map (fun c => c.slots.size) := fun q => by
    by_cases hq : q = gP G ar
    · rw [hq, hset, show H[gP G ar]? = _ from hcell]; show some (arrV _ _ _).slots.size = some (arrV _ _ _).slots.size; rw [arrV_size, arrV_size]
    · rw [o1 q hq]
  refine kk p e s m args below meth c C H1 _ ls ⟨?_, by rw [z1]; exact hH.2.1, sZ.same hH.2.2 hzz⟩ (va_S.put hS z1 o1 (gP_ge _ _)) hl
  rw [← ws_set (σ := σ) hc (fun k' hk' => sU_ne hk')]
  exact va_P.set hH.1 (ws_D G (Sh, σ)) (ws_some hc) hset o1
theorem a_bast {ar len : Nat} {g : Nat → Option Nat} {x x' z : Int} (hd : decode cc pc = .ok (.bastore, 1)) (hc : Sh[ar]? = some (.inr (.byte, len, g))) (hx : wi x = x') (hb : 0 ≤ x' ∧ x' < (len : Int)) {j9 : Nat} (hj : x'.toNat = j9) (kk : aW G cc own mn nL ret R Q Xp k n (Sh, sU σ ar j9 (q_b z)) L (pc + 1) st) : aW G cc own mn nL ret R Q Xp k n (Sh, σ) L pc (vI z :: vI x :: .ref (gP G ar) :: st) := by
  intro p e s m args below meth c C H locs ls hH hS hl
  subst hj
  have hcell := hH.1 ar _ (ws_some hc)
  refine W.bast C.1 C.2.1 (cell := vp_cell (gA G .byte) (len, .inl (fun j => Int32.ofInt (σ ar j)))) hcell ((C.2.2.2.2.2.2.2.2.1.2.1.2 1 _ rfl).1 len (fun j => .int (Int32.ofInt (σ ar j)))) (fun q => by cases q) (by show ¬ (_ ∨ (arrV _ _ _).slots.size ≤ _); rw [arrV_size]; exact vp_in_iff.mpr (by show 0 ≤ wi x ∧ wi x < (len : Int); rw [hx]; exact hb)) rfl rfl hd (fun H1 e1 z1 o1 => ?_)
  have hset : H1[gP G ar]? = some (vp_cell (gA G .byte) (len, .inl (fun j => Int32.ofInt (sU σ ar x'.toNat (q_b z) ar j)))) := by
    rw [e1, oi_cl, hx, vp_cell_i, vp_cell_i, arrV_store]
    congr 2
    funext q
    unfold updV sU
    by_cases hq : q = x'.toNat
    · rw [if_pos hq, if_pos ⟨rfl, hq⟩]; exact q_b_n z
    · rw [if_neg hq, if_neg (fun z9 => hq z9.2)]
  have hzz : ∀ q : Nat, (H1[q]?).map (fun c => c.slots.size) = (H[q]?).map (fun c => c.slots.size) := fun q => by
    by_cases hq : q = gP G ar
    · rw [hq, hset, show H[gP G ar]? = _ from hcell]; show some (arrV _ _ _).slots.size = some (arrV _ _ _).slots.size; rw [arrV_size, arrV_size]
    · rw [o1 q hq]
  refine kk p e s m args below meth c C H1 _ ls ⟨?_, by rw [z1]; exact hH.2.1, sZ.same hH.2.2 hzz⟩ (va_S.put hS z1 o1 (gP_ge _ _)) hl
  rw [← ws_set (σ := σ) hc (fun k' hk' => sU_ne hk')]
  exact va_P.set hH.1 (ws_D G (Sh, σ)) (ws_some hc) hset o1
theorem a_zast {ar len : Nat} {g : Nat → Option Nat} {x x' z : Int} (hd : decode cc pc = .ok (.bastore, 1)) (hc : Sh[ar]? = some (.inr (.boolean, len, g))) (hx : wi x = x') (hb : 0 ≤ x' ∧ x' < (len : Int)) {j9 : Nat} (hj : x'.toNat = j9) (kk : aW G cc own mn nL ret R Q Xp k n (Sh, sU σ ar j9 (q_z z)) L (pc + 1) st) : aW G cc own mn nL ret R Q Xp k n (Sh, σ) L pc (vI z :: vI x :: .ref (gP G ar) :: st) := by
  intro p e s m args below meth c C H locs ls hH hS hl
  subst hj
  have hcell := hH.1 ar _ (ws_some hc)
  refine W.zast C.1 C.2.1 (cell := vp_cell (gA G .boolean) (len, .inl (fun j => Int32.ofInt (σ ar j)))) hcell ((C.2.2.2.2.2.2.2.2.1.2.1.2 2 _ rfl).1 len (fun j => .int (Int32.ofInt (σ ar j)))) (fun q => by cases q) (by show ¬ (_ ∨ (arrV _ _ _).slots.size ≤ _); rw [arrV_size]; exact vp_in_iff.mpr (by show 0 ≤ wi x ∧ wi x < (len : Int); rw [hx]; exact hb)) rfl rfl hd (fun H1 e1 z1 o1 => ?_)
  have hset : H1[gP G ar]? = some (vp_cell (gA G .boolean) (len, .inl (fun j => Int32.ofInt (sU σ ar x'.toNat (q_z z) ar j)))) := by
    rw [e1, oi_cl, hx, vp_cell_i, vp_cell_i, arrV_store]
    congr 2
    funext q
    unfold updV sU
    by_cases hq : q = x'.toNat
    · rw [if_pos hq, if_pos ⟨rfl, hq⟩]; exact q_z_n z
    · rw [if_neg hq, if_neg (fun z9 => hq z9.2)]
  have hzz : ∀ q : Nat, (H1[q]?).map (fun c => c.slots.size) = (H[q]?).map (fun c => c.slots.size) := fun q => by
    by_cases hq : q = gP G ar
    · rw [hq, hset, show H[gP G ar]? = _ from hcell]; show some (arrV _ _ _).slots.size = some (arrV _ _ _).slots.size; rw [arrV_size, arrV_size]
    · rw [o1 q hq]
  refine kk p e s m args below meth c C H1 _ ls ⟨?_, by rw [z1]; exact hH.2.1, sZ.same hH.2.2 hzz⟩ (va_S.put hS z1 o1 (gP_ge _ _)) hl
  rw [← ws_set (σ := σ) hc (fun k' hk' => sU_ne hk')]
  exact va_P.set hH.1 (ws_D G (Sh, σ)) (ws_some hc) hset o1
theorem a_last {ar len : Nat} {g : Nat → Option Nat} {x x' z : Int} (hd : decode cc pc = .ok (.lastore, 1)) (hc : Sh[ar]? = some (.inr (.long, len, g))) (hx : wi x = x') (hb : 0 ≤ x' ∧ x' < (len : Int)) {j9 : Nat} (hj : x'.toNat = j9) (kk : aW G cc own mn nL ret R Q Xp k n (Sh, sU σ ar j9 (z)) L (pc + 1) st) : aW G cc own mn nL ret R Q Xp k n (Sh, σ) L pc (vL z :: vI x :: .ref (gP G ar) :: st) := by
  intro p e s m args below meth c C H locs ls hH hS hl
  subst hj
  have hcell := hH.1 ar _ (ws_some hc)
  refine W.last C.1 C.2.1 (cell := vp_cell (gA G .long) (len, .inr (.inl (fun j => Int64.ofInt (σ ar j))))) hcell ((C.2.2.2.2.2.2.2.2.1.2.1.2 3 _ rfl).1 len (fun j => .long (Int64.ofInt (σ ar j)))) (fun q => by cases q) (by show ¬ (_ ∨ (arrV _ _ _).slots.size ≤ _); rw [arrV_size]; exact vp_in_iff.mpr (by show 0 ≤ wi x ∧ wi x < (len : Int); rw [hx]; exact hb)) rfl rfl hd (fun H1 e1 z1 o1 => ?_)
  have hset : H1[gP G ar]? = some (vp_cell (gA G .long) (len, .inr (.inl (fun j => Int64.ofInt (sU σ ar x'.toNat (z) ar j))))) := by
    rw [e1, oi_cl, hx, vp_cell_l, vp_cell_l, arrV_store]
    congr 2
    funext q
    unfold updV sU
    by_cases hq : q = x'.toNat
    · rw [if_pos hq, if_pos ⟨rfl, hq⟩]
    · rw [if_neg hq, if_neg (fun z9 => hq z9.2)]
  have hzz : ∀ q : Nat, (H1[q]?).map (fun c => c.slots.size) = (H[q]?).map (fun c => c.slots.size) := fun q => by
    by_cases hq : q = gP G ar
    · rw [hq, hset, show H[gP G ar]? = _ from hcell]; show some (arrV _ _ _).slots.size = some (arrV _ _ _).slots.size; rw [arrV_size, arrV_size]
    · rw [o1 q hq]
  refine kk p e s m args below meth c C H1 _ ls ⟨?_, by rw [z1]; exact hH.2.1, sZ.same hH.2.2 hzz⟩ (va_S.put hS z1 o1 (gP_ge _ _)) hl
  rw [← ws_set (σ := σ) hc (fun k' hk' => sU_ne hk')]
  exact va_P.set hH.1 (ws_D G (Sh, σ)) (ws_some hc) hset o1
theorem a_alen {ar len : Nat} {g : Nat → Option Nat} (hd : decode cc pc = .ok (.arraylength, 1)) (hc : S.1[ar]? = some (.inr (.int, len, g))) (kk : aW G cc own mn nL ret R Q Xp k n S L (pc + 1) (vI (len : Int) :: st)) : aW G cc own mn nL ret R Q Xp k n S L pc (.ref (gP G ar) :: st) := by
  intro p e s m args below meth c C H locs ls hH hS hl
  exact va_alen C.1 C.2.1 C.2.2.2.2.2.2.2.2.1.2.1 hH.1 ar 0 (ws_some hc) rfl (v := Int32.ofInt (len : Int)) rfl hd (kk p e s m args below meth c C H locs ls hH hS hl)
theorem a_alenB {ar len : Nat} {g : Nat → Option Nat} (hd : decode cc pc = .ok (.arraylength, 1)) (hc : S.1[ar]? = some (.inr (.byte, len, g))) (kk : aW G cc own mn nL ret R Q Xp k n S L (pc + 1) (vI (len : Int) :: st)) : aW G cc own mn nL ret R Q Xp k n S L pc (.ref (gP G ar) :: st) := by
  intro p e s m args below meth c C H locs ls hH hS hl
  exact va_alen C.1 C.2.1 C.2.2.2.2.2.2.2.2.1.2.1 hH.1 ar 1 (ws_some hc) rfl (v := Int32.ofInt (len : Int)) rfl hd (kk p e s m args below meth c C H locs ls hH hS hl)
theorem a_alenL {ar len : Nat} {g : Nat → Option Nat} (hd : decode cc pc = .ok (.arraylength, 1)) (hc : S.1[ar]? = some (.inr (.long, len, g))) (kk : aW G cc own mn nL ret R Q Xp k n S L (pc + 1) (vI (len : Int) :: st)) : aW G cc own mn nL ret R Q Xp k n S L pc (.ref (gP G ar) :: st) := by
  intro p e s m args below meth c C H locs ls hH hS hl
  exact va_alen C.1 C.2.1 C.2.2.2.2.2.2.2.2.1.2.1 hH.1 ar 3 (ws_some hc) rfl (v := Int32.ofInt (len : Int)) rfl hd (kk p e s m args below meth c C H locs ls hH hS hl)
theorem a_aald {ar len r : Nat} {g : Nat → Option Nat} {x x' : Int} (hd : decode cc pc = .ok (.aaload, 1)) (hc : S.1[ar]? = some (.inr (.array .int, len, g))) (hx : wi x = x') (hb : 0 ≤ x' ∧ x' < (len : Int)) (hg : g x'.toNat = some r) (kk : aW G cc own mn nL ret R Q Xp k n S L (pc + 1) (.ref (gP G r) :: st)) : aW G cc own mn nL ret R Q Xp k n S L pc (vI x :: .ref (gP G ar) :: st) := by
  intro p e s m args below meth c C H locs ls hH hS hl
  have hin : vp_in (Int32.ofInt x) len := vp_in_iff.mpr (by show 0 ≤ wi x ∧ wi x < (len : Int); rw [hx]; exact hb)
  have hlt : (Int32.ofInt x).toNatClampNeg < len := Nat.not_le.mp fun q => hin (Or.inr q)
  refine W.aald (v := .ref (gP G r)) (ty := .array .int) C.1 C.2.1 (hH.1 ar _ (ws_some hc)) ((C.2.2.2.2.2.2.2.2.1.2.1.2 4 _ rfl).1 len (fun j => va_rf ((g j).map (fun a => gP G a)))) rfl (fun q => by cases q) (by show ¬ (_ ∨ (arrV _ _ _).slots.size ≤ _); rw [arrV_size]; exact hin) (by show (arrV _ _ _).slots[_]? = _; rw [arrV_read _ _ hlt, oi_cl, hx]; show some (va_rf ((g x'.toNat).map (fun a => gP G a))) = _; rw [hg]; rfl) rfl rfl hd (kk p e s m args below meth c C H locs ls hH hS hl)
theorem a_iret {d mc ms : Nat} {r z : Int} {S' : sS} (hd : decode cc pc = .ok (.ireturn, 1)) (hr : ret = some .int) (hz : z = r) (hs : S = S') : aW G cc own mn nL ret (sR d mc ms) (aQ G ret mc ms (r, S')) Xp mc ms S L pc [vI z] := by
  intro p e s m args below meth c C H locs ls hH hS hl
  subst hz; subst hs; subst hr
  exact W.iret (v := _) C.1 C.2.1 C.2.2.1 (fun t ht hW => ⟨⟨rfl, by rw [ht]; exact hH⟩, hS.F ht⟩) hS.2.2 hd C.2.2.2.2.2.2.1
theorem a_lret {d mc ms : Nat} {r z : Int} {S' : sS} (hd : decode cc pc = .ok (.lreturn, 1)) (hr : ret = some .long) (hz : z = r) (hs : S = S') : aW G cc own mn nL ret (sR d mc ms) (aQ G ret mc ms (r, S')) Xp mc ms S L pc [vL z] := by
  intro p e s m args below meth c C H locs ls hH hS hl
  subst hz; subst hs; subst hr
  exact W.lret (v := _) C.1 C.2.1 C.2.2.1 (fun t ht hW => ⟨⟨rfl, by rw [ht]; exact hH⟩, hS.F ht⟩) hS.2.2 hd C.2.2.2.2.2.2.1
theorem a_zret {d mc ms : Nat} {r z : Int} {S' : sS} (hd : decode cc pc = .ok (.ireturn, 1)) (hr : ret = some .boolean) (hn : narrow .boolean (vI z) = vI z) (hz : z = r) (hs : S = S') : aW G cc own mn nL ret (sR d mc ms) (aQ G ret mc ms (r, S')) Xp mc ms S L pc [vI z] := by
  intro p e s m args below meth c C H locs ls hH hS hl
  subst hz; subst hs; subst hr
  exact W.zret (v := _) (ty := .boolean) C.1 C.2.1 C.2.2.1 hn (fun t ht hW => ⟨⟨rfl, by rw [ht]; exact hH⟩, hS.F ht⟩) hS.2.2 hd C.2.2.2.2.2.2.1
theorem a_vret {d mc ms : Nat} {r : Int} {S' : sS} (hd : decode cc pc = .ok (.return_, 1)) (hr : ret = none) (hs : S = S') : aW G cc own mn nL ret (sR d mc ms) (aQ G ret mc ms (r, S')) Xp mc ms S L pc [] := by
  intro p e s m args below meth c C H locs ls hH hS hl
  subst hs; subst hr
  exact W.vret C.1 C.2.1 C.2.2.1 (fun t ht hW => ⟨⟨rfl, by rw [ht]; exact hH⟩, hS.F ht⟩) hS.2.2 hd C.2.2.2.2.2.2.1
theorem a_aret {d mc ms a : Nat} {r : Int} {S' : sS} {nm : String} (hd : decode cc pc = .ok (.areturn, 1)) (hr : ret = some (.object nm)) (hz : a = r.toNat) (hs : S = S') : aW G cc own mn nL ret (sR d mc ms) (aQ G ret mc ms (r, S')) Xp mc ms S L pc [.ref (gP G a)] := by
  intro p e s m args below meth c C H locs ls hH hS hl
  subst hz; subst hs; subst hr
  exact W.aret C.1 C.2.1 C.2.2.1 (Or.inl ⟨_, rfl⟩) (Or.inr ⟨_, rfl⟩) (fun t ht hW => ⟨⟨rfl, by rw [ht]; exact hH⟩, hS.F ht⟩) hS.2.2 hd C.2.2.2.2.2.2.1
theorem s_after {p : Program} {l : Launch} {e : Env} {R : Room} {s : State} {m : MethodId} {args : Array Value} {below : List Frame} {meth : Method} {c : Code} {H : Heap} {locs : List Loc} {cells slots mc ms : Nat} {Q : State → Prop} {pc : Nat} {ls : Array Slot} {rest st0 : List Value} {G : sG} {ret : Option FieldType} {fin : Int × sS} {a : Array Value}
    (hr : va_Run p l e R s m args below meth c H locs cells slots mc ms (F0 m pc ls st0) rest (sQ G ret fin a) (sA G)) (hS : va_S (sA G) s.heap H locs)
    (kk : ∀ (H1 : Heap) (locs1 : List Loc), sH G fin.2 H1 → va_S (sA G) s.heap H1 locs1 → W p l e R s m args below meth c H1 locs1 (cells + mc) (slots + ms) Q (F0 m (pc + 3) ls ((sRV G ret fin.1).toList ++ rest))) : W p l e R s m args below meth c H locs cells slots Q (F0 m pc ls st0) := by
  intro T hT X
  obtain ⟨v, st₀, t, T', L, h0, X', hL, e1, e2, ⟨⟨hv, hp⟩, hz, hk⟩, st⟩ := hr T hT X
  cases hv
  rw [h0] at hz hk
  obtain ⟨t2, a1, b1⟩ := kk T'.heap (locs ++ L) (by rw [e1]; exact hp) ⟨Nat.le_trans hS.1 (by rw [e1]; exact hz), fun q h1 h2 => by rw [e1, hk q (Nat.lt_of_lt_of_le h1 hS.1) h2]; exact hS.2.1 q h1 h2, fun q hq => by
      rcases List.mem_append.mp hq with h | h
      · exact hS.2.2 q h
      · exact hL q h⟩ T' rfl X'
  exact ⟨t2, st t2 a1, b1⟩
theorem s_pre {G : sG} {S : sS} {s : State} {H : Heap} {locs : List Loc} {av : List Value} (hX : sX G s) (hV : sV G s) (hH : sH G S H) (hS : va_S (sA G) s.heap H locs) : PreS s H (va_Pc av (sHU G S)) av := by
  refine ⟨fun a U g mk q => ?_, fun U hU hW => ⟨rfl, hX.warm hW, ?_, by rw [hU]; exact hH⟩⟩
  · obtain ⟨q0, q1, q2, q3⟩ := q
    exact ⟨q0, sX.same (s := U) rfl q1, sV.step (s := U) (U := U.calling g mk a) (Vm.Alike.refl U.vm) (fun _ _ _ => rfl) q2, q3⟩
  · exact sV.step hW.alike (fun a h1 h2 => by rw [hU]; exact hS.2.1 a h1 h2) hV
def mtK (y : MethodName) (cc : ByteArray) (nL : Nat) (ret : Option FieldType) (na : Nat) : Prop := Cond.code y cc nL ret ∈ lw_good ∧ Cond.initialized y.cls ∈ lw_good ∧ (y.cls ≠ "java/lang/invoke/MethodHandle" ∧ y.cls ≠ "java/lang/invoke/VarHandle" ∧ (parseMethodDescriptor y.desc).map (fun d => d.parameters.length) = some na) ∧ nL ≤ 60
theorem mt_good {y : MethodName} {cc : ByteArray} {nL : Nat} {ret : Option FieldType} (h : Cond.code y cc nL ret ∈ lw_good) : GoodIn lw_good (Cond.code y cc nL ret :: lw_good) := by
  intro w hw
  have hm : w ∈ lw_good := by
    rcases List.mem_cons.mp hw with rfl | h9
    · exact h
    · exact h9
  exact ⟨hm, good_of_word (List.mem_filter.mp hm).2⟩
theorem a_callVI {i na nL' d' mc' ms' : Nat} {As st0 : List Value} {y : MethodName} {cc' : ByteArray} {r1 : Int} {S1 : sS} {ob : Nat} {ci N : Nat} {tm : List Value} {Tt : u_T} {Cn : String} {ty : Nat → FieldType} {ret' : Option FieldType} (hd : decode cc pc = .ok (.invokevirtual i, 3)) (hm : mtK y cc' nL' ret' na) (hk : clK ci Cn Tt N ty) (hcn : y.cls = Cn) (hi : Cond.instanceMethod y ∈ lw_good) (hse : Cond.selects Cn y y ∈ lw_good) (hc : S.1[ob]? = some (.inl (ci, tm))) (hw : Cond.methodLink own i y ∈ lw_good) (hn : As.length = na) (hM : aM G y cc' nL' ret' d' mc' ms' (.ref (gP G ob) :: As) S (r1, S1)) (hrv : ∀ r, sRV G ret' r = some (vI r)) (hst : As.reverse ++ .ref (gP G ob) :: st = st0) (hfr : d' + 1 ≤ R.frames) (hlo : 80 * d' + 79 ≤ R.locals) (hrm : k + mc' ≤ R.cells ∧ n + ms' ≤ R.slots) (hcat : (st.map fun v => v.category).sum ≤ 8) (kk : aW G cc own mn nL ret R Q Xp (k + mc') (n + ms') S1 L (pc + 3) (vI r1 :: st)) : aW G cc own mn nL ret R Q Xp k n S L pc st0 := by
  intro p e s m args below meth c C H locs ls hH hS hl
  subst hst
  obtain ⟨m1, m2, m3, m4⟩ := hm
  have hpre := s_pre (av := (.ref (gP G ob) :: As)) C.2.2.2.2.2.2.2.2.1 C.2.2.2.2.2.2.2.2.2.1 hH hS
  refine s_after (va_runV (C := Cn) (As := As) (rest := st) ⟨C.1, C.2.1, C.2.2.2.1, C.2.2.2.2.1, C.2.2.2.2.2.1⟩ hM ⟨(callB_of (rm := sR d' mc' ms') na C.2.2.2.2.2.1 (mt_good m1) rfl rfl rfl (C.2.2.2.2.2.1 _ m2) (C.2.2.2.2.2.1 _ hw) m3 ⟨hfr, by show 8 + (nL' + 11) + 80 * d' ≤ R.locals; omega⟩), C.2.2.2.2.2.1 _ hi, C.2.2.2.2.2.1 _ hse⟩ ⟨hpre.1, va_recv C.2.2.2.2.2.2.2.2.1.2.1 hH.1 hk.1 (ws_some hc), hpre.2⟩ rfl hn hl.1 rfl (lv_room hcat) hd hrm) hS (fun H1 locs1 h1 h2 => ?_)
  rw [hrv] ; exact kk p e s m args below meth c C H1 locs1 ls h1 h2 hl
theorem a_callVL {i na nL' d' mc' ms' : Nat} {As st0 : List Value} {y : MethodName} {cc' : ByteArray} {r1 : Int} {S1 : sS} {ob : Nat} {ci N : Nat} {tm : List Value} {Tt : u_T} {Cn : String} {ty : Nat → FieldType} {ret' : Option FieldType} (hd : decode cc pc = .ok (.invokevirtual i, 3)) (hm : mtK y cc' nL' ret' na) (hk : clK ci Cn Tt N ty) (hcn : y.cls = Cn) (hi : Cond.instanceMethod y ∈ lw_good) (hse : Cond.selects Cn y y ∈ lw_good) (hc : S.1[ob]? = some (.inl (ci, tm))) (hw : Cond.methodLink own i y ∈ lw_good) (hn : As.length = na) (hM : aM G y cc' nL' ret' d' mc' ms' (.ref (gP G ob) :: As) S (r1, S1)) (hrv : ∀ r, sRV G ret' r = some (vL r)) (hst : As.reverse ++ .ref (gP G ob) :: st = st0) (hfr : d' + 1 ≤ R.frames) (hlo : 80 * d' + 79 ≤ R.locals) (hrm : k + mc' ≤ R.cells ∧ n + ms' ≤ R.slots) (hcat : (st.map fun v => v.category).sum ≤ 8) (kk : aW G cc own mn nL ret R Q Xp (k + mc') (n + ms') S1 L (pc + 3) (vL r1 :: st)) : aW G cc own mn nL ret R Q Xp k n S L pc st0 := by
  intro p e s m args below meth c C H locs ls hH hS hl
  subst hst
  obtain ⟨m1, m2, m3, m4⟩ := hm
  have hpre := s_pre (av := (.ref (gP G ob) :: As)) C.2.2.2.2.2.2.2.2.1 C.2.2.2.2.2.2.2.2.2.1 hH hS
  refine s_after (va_runV (C := Cn) (As := As) (rest := st) ⟨C.1, C.2.1, C.2.2.2.1, C.2.2.2.2.1, C.2.2.2.2.2.1⟩ hM ⟨(callB_of (rm := sR d' mc' ms') na C.2.2.2.2.2.1 (mt_good m1) rfl rfl rfl (C.2.2.2.2.2.1 _ m2) (C.2.2.2.2.2.1 _ hw) m3 ⟨hfr, by show 8 + (nL' + 11) + 80 * d' ≤ R.locals; omega⟩), C.2.2.2.2.2.1 _ hi, C.2.2.2.2.2.1 _ hse⟩ ⟨hpre.1, va_recv C.2.2.2.2.2.2.2.2.1.2.1 hH.1 hk.1 (ws_some hc), hpre.2⟩ rfl hn hl.1 rfl (lv_room hcat) hd hrm) hS (fun H1 locs1 h1 h2 => ?_)
  rw [hrv] ; exact kk p e s m args below meth c C H1 locs1 ls h1 h2 hl
theorem a_callVR {i na nL' d' mc' ms' : Nat} {As st0 : List Value} {y : MethodName} {cc' : ByteArray} {r1 : Int} {S1 : sS} {ob : Nat} {ci N : Nat} {tm : List Value} {Tt : u_T} {Cn : String} {ty : Nat → FieldType} {ret' : Option FieldType} (hd : decode cc pc = .ok (.invokevirtual i, 3)) (hm : mtK y cc' nL' ret' na) (hk : clK ci Cn Tt N ty) (hcn : y.cls = Cn) (hi : Cond.instanceMethod y ∈ lw_good) (hse : Cond.selects Cn y y ∈ lw_good) (hc : S.1[ob]? = some (.inl (ci, tm))) (hw : Cond.methodLink own i y ∈ lw_good) (hn : As.length = na) (hM : aM G y cc' nL' ret' d' mc' ms' (.ref (gP G ob) :: As) S (r1, S1)) (hrv : ∀ r, sRV G ret' r = some (.ref (gP G r.toNat))) (hst : As.reverse ++ .ref (gP G ob) :: st = st0) (hfr : d' + 1 ≤ R.frames) (hlo : 80 * d' + 79 ≤ R.locals) (hrm : k + mc' ≤ R.cells ∧ n + ms' ≤ R.slots) (hcat : (st.map fun v => v.category).sum ≤ 8) (kk : aW G cc own mn nL ret R Q Xp (k + mc') (n + ms') S1 L (pc + 3) (.ref (gP G r1.toNat) :: st)) : aW G cc own mn nL ret R Q Xp k n S L pc st0 := by
  intro p e s m args below meth c C H locs ls hH hS hl
  subst hst
  obtain ⟨m1, m2, m3, m4⟩ := hm
  have hpre := s_pre (av := (.ref (gP G ob) :: As)) C.2.2.2.2.2.2.2.2.1 C.2.2.2.2.2.2.2.2.2.1 hH hS
  refine s_after (va_runV (C := Cn) (As := As) (rest := st) ⟨C.1, C.2.1, C.2.2.2.1, C.2.2.2.2.1, C.2.2.2.2.2.1⟩ hM ⟨(callB_of (rm := sR d' mc' ms') na C.2.2.2.2.2.1 (mt_good m1) rfl rfl rfl (C.2.2.2.2.2.1 _ m2) (C.2.2.2.2.2.1 _ hw) m3 ⟨hfr, by show 8 + (nL' + 11) + 80 * d' ≤ R.locals; omega⟩), C.2.2.2.2.2.1 _ hi, C.2.2.2.2.2.1 _ hse⟩ ⟨hpre.1, va_recv C.2.2.2.2.2.2.2.2.1.2.1 hH.1 hk.1 (ws_some hc), hpre.2⟩ rfl hn hl.1 rfl (lv_room hcat) hd hrm) hS (fun H1 locs1 h1 h2 => ?_)
  rw [hrv] ; exact kk p e s m args below meth c C H1 locs1 ls h1 h2 hl
theorem a_callVV {i na nL' d' mc' ms' : Nat} {As st0 : List Value} {y : MethodName} {cc' : ByteArray} {r1 : Int} {S1 : sS} {ob : Nat} {ci N : Nat} {tm : List Value} {Tt : u_T} {Cn : String} {ty : Nat → FieldType} {ret' : Option FieldType} (hd : decode cc pc = .ok (.invokevirtual i, 3)) (hm : mtK y cc' nL' ret' na) (hk : clK ci Cn Tt N ty) (hcn : y.cls = Cn) (hi : Cond.instanceMethod y ∈ lw_good) (hse : Cond.selects Cn y y ∈ lw_good) (hc : S.1[ob]? = some (.inl (ci, tm))) (hw : Cond.methodLink own i y ∈ lw_good) (hn : As.length = na) (hM : aM G y cc' nL' ret' d' mc' ms' (.ref (gP G ob) :: As) S (r1, S1)) (hrv : ∀ r, sRV G ret' r = none) (hst : As.reverse ++ .ref (gP G ob) :: st = st0) (hfr : d' + 1 ≤ R.frames) (hlo : 80 * d' + 79 ≤ R.locals) (hrm : k + mc' ≤ R.cells ∧ n + ms' ≤ R.slots) (hcat : (st.map fun v => v.category).sum ≤ 8) (kk : aW G cc own mn nL ret R Q Xp (k + mc') (n + ms') S1 L (pc + 3) st) : aW G cc own mn nL ret R Q Xp k n S L pc st0 := by
  intro p e s m args below meth c C H locs ls hH hS hl
  subst hst
  obtain ⟨m1, m2, m3, m4⟩ := hm
  have hpre := s_pre (av := (.ref (gP G ob) :: As)) C.2.2.2.2.2.2.2.2.1 C.2.2.2.2.2.2.2.2.2.1 hH hS
  refine s_after (va_runV (C := Cn) (As := As) (rest := st) ⟨C.1, C.2.1, C.2.2.2.1, C.2.2.2.2.1, C.2.2.2.2.2.1⟩ hM ⟨(callB_of (rm := sR d' mc' ms') na C.2.2.2.2.2.1 (mt_good m1) rfl rfl rfl (C.2.2.2.2.2.1 _ m2) (C.2.2.2.2.2.1 _ hw) m3 ⟨hfr, by show 8 + (nL' + 11) + 80 * d' ≤ R.locals; omega⟩), C.2.2.2.2.2.1 _ hi, C.2.2.2.2.2.1 _ hse⟩ ⟨hpre.1, va_recv C.2.2.2.2.2.2.2.2.1.2.1 hH.1 hk.1 (ws_some hc), hpre.2⟩ rfl hn hl.1 rfl (lv_room hcat) hd hrm) hS (fun H1 locs1 h1 h2 => ?_)
  rw [hrv] ; exact kk p e s m args below meth c C H1 locs1 ls h1 h2 hl
theorem a_callSI {i na nL' d' mc' ms' : Nat} {As st0 : List Value} {y : MethodName} {cc' : ByteArray} {r1 : Int} {S1 : sS} {ret' : Option FieldType} (hd : decode cc pc = .ok (.invokestatic i, 3)) (hm : mtK y cc' nL' ret' na) (hi : Cond.static y ∈ lw_good) (hw : Cond.methodLink own i y ∈ lw_good) (hn : As.length = na) (hM : aM G y cc' nL' ret' d' mc' ms' As S (r1, S1)) (hrv : ∀ r, sRV G ret' r = some (vI r)) (hst : As.reverse ++ st = st0) (hfr : d' + 1 ≤ R.frames) (hlo : 80 * d' + 79 ≤ R.locals) (hrm : k + mc' ≤ R.cells ∧ n + ms' ≤ R.slots) (hcat : (st.map fun v => v.category).sum ≤ 8) (kk : aW G cc own mn nL ret R Q Xp (k + mc') (n + ms') S1 L (pc + 3) (vI r1 :: st)) : aW G cc own mn nL ret R Q Xp k n S L pc st0 := by
  intro p e s m args below meth c C H locs ls hH hS hl
  subst hst
  obtain ⟨m1, m2, m3, m4⟩ := hm
  have hpre := s_pre (av := As) C.2.2.2.2.2.2.2.2.1 C.2.2.2.2.2.2.2.2.2.1 hH hS
  refine s_after (va_runS (As := As) (rest := st) ⟨C.1, C.2.1, C.2.2.2.1, C.2.2.2.2.1, C.2.2.2.2.2.1⟩ hM ⟨(callB_of (rm := sR d' mc' ms') na C.2.2.2.2.2.1 (mt_good m1) rfl rfl rfl (C.2.2.2.2.2.1 _ m2) (C.2.2.2.2.2.1 _ hw) m3 ⟨hfr, by show 8 + (nL' + 11) + 80 * d' ≤ R.locals; omega⟩), C.2.2.2.2.2.1 _ hi⟩ hpre rfl hn hl.1 rfl (lv_room hcat) hd hrm) hS (fun H1 locs1 h1 h2 => ?_)
  rw [hrv] ; exact kk p e s m args below meth c C H1 locs1 ls h1 h2 hl
theorem a_callSL {i na nL' d' mc' ms' : Nat} {As st0 : List Value} {y : MethodName} {cc' : ByteArray} {r1 : Int} {S1 : sS} {ret' : Option FieldType} (hd : decode cc pc = .ok (.invokestatic i, 3)) (hm : mtK y cc' nL' ret' na) (hi : Cond.static y ∈ lw_good) (hw : Cond.methodLink own i y ∈ lw_good) (hn : As.length = na) (hM : aM G y cc' nL' ret' d' mc' ms' As S (r1, S1)) (hrv : ∀ r, sRV G ret' r = some (vL r)) (hst : As.reverse ++ st = st0) (hfr : d' + 1 ≤ R.frames) (hlo : 80 * d' + 79 ≤ R.locals) (hrm : k + mc' ≤ R.cells ∧ n + ms' ≤ R.slots) (hcat : (st.map fun v => v.category).sum ≤ 8) (kk : aW G cc own mn nL ret R Q Xp (k + mc') (n + ms') S1 L (pc + 3) (vL r1 :: st)) : aW G cc own mn nL ret R Q Xp k n S L pc st0 := by
  intro p e s m args below meth c C H locs ls hH hS hl
  subst hst
  obtain ⟨m1, m2, m3, m4⟩ := hm
  have hpre := s_pre (av := As) C.2.2.2.2.2.2.2.2.1 C.2.2.2.2.2.2.2.2.2.1 hH hS
  refine s_after (va_runS (As := As) (rest := st) ⟨C.1, C.2.1, C.2.2.2.1, C.2.2.2.2.1, C.2.2.2.2.2.1⟩ hM ⟨(callB_of (rm := sR d' mc' ms') na C.2.2.2.2.2.1 (mt_good m1) rfl rfl rfl (C.2.2.2.2.2.1 _ m2) (C.2.2.2.2.2.1 _ hw) m3 ⟨hfr, by show 8 + (nL' + 11) + 80 * d' ≤ R.locals; omega⟩), C.2.2.2.2.2.1 _ hi⟩ hpre rfl hn hl.1 rfl (lv_room hcat) hd hrm) hS (fun H1 locs1 h1 h2 => ?_)
  rw [hrv] ; exact kk p e s m args below meth c C H1 locs1 ls h1 h2 hl
theorem a_callSR {i na nL' d' mc' ms' : Nat} {As st0 : List Value} {y : MethodName} {cc' : ByteArray} {r1 : Int} {S1 : sS} {ret' : Option FieldType} (hd : decode cc pc = .ok (.invokestatic i, 3)) (hm : mtK y cc' nL' ret' na) (hi : Cond.static y ∈ lw_good) (hw : Cond.methodLink own i y ∈ lw_good) (hn : As.length = na) (hM : aM G y cc' nL' ret' d' mc' ms' As S (r1, S1)) (hrv : ∀ r, sRV G ret' r = some (.ref (gP G r.toNat))) (hst : As.reverse ++ st = st0) (hfr : d' + 1 ≤ R.frames) (hlo : 80 * d' + 79 ≤ R.locals) (hrm : k + mc' ≤ R.cells ∧ n + ms' ≤ R.slots) (hcat : (st.map fun v => v.category).sum ≤ 8) (kk : aW G cc own mn nL ret R Q Xp (k + mc') (n + ms') S1 L (pc + 3) (.ref (gP G r1.toNat) :: st)) : aW G cc own mn nL ret R Q Xp k n S L pc st0 := by
  intro p e s m args below meth c C H locs ls hH hS hl
  subst hst
  obtain ⟨m1, m2, m3, m4⟩ := hm
  have hpre := s_pre (av := As) C.2.2.2.2.2.2.2.2.1 C.2.2.2.2.2.2.2.2.2.1 hH hS
  refine s_after (va_runS (As := As) (rest := st) ⟨C.1, C.2.1, C.2.2.2.1, C.2.2.2.2.1, C.2.2.2.2.2.1⟩ hM ⟨(callB_of (rm := sR d' mc' ms') na C.2.2.2.2.2.1 (mt_good m1) rfl rfl rfl (C.2.2.2.2.2.1 _ m2) (C.2.2.2.2.2.1 _ hw) m3 ⟨hfr, by show 8 + (nL' + 11) + 80 * d' ≤ R.locals; omega⟩), C.2.2.2.2.2.1 _ hi⟩ hpre rfl hn hl.1 rfl (lv_room hcat) hd hrm) hS (fun H1 locs1 h1 h2 => ?_)
  rw [hrv] ; exact kk p e s m args below meth c C H1 locs1 ls h1 h2 hl
theorem a_callSV {i na nL' d' mc' ms' : Nat} {As st0 : List Value} {y : MethodName} {cc' : ByteArray} {r1 : Int} {S1 : sS} {ret' : Option FieldType} (hd : decode cc pc = .ok (.invokestatic i, 3)) (hm : mtK y cc' nL' ret' na) (hi : Cond.static y ∈ lw_good) (hw : Cond.methodLink own i y ∈ lw_good) (hn : As.length = na) (hM : aM G y cc' nL' ret' d' mc' ms' As S (r1, S1)) (hrv : ∀ r, sRV G ret' r = none) (hst : As.reverse ++ st = st0) (hfr : d' + 1 ≤ R.frames) (hlo : 80 * d' + 79 ≤ R.locals) (hrm : k + mc' ≤ R.cells ∧ n + ms' ≤ R.slots) (hcat : (st.map fun v => v.category).sum ≤ 8) (kk : aW G cc own mn nL ret R Q Xp (k + mc') (n + ms') S1 L (pc + 3) st) : aW G cc own mn nL ret R Q Xp k n S L pc st0 := by
  intro p e s m args below meth c C H locs ls hH hS hl
  subst hst
  obtain ⟨m1, m2, m3, m4⟩ := hm
  have hpre := s_pre (av := As) C.2.2.2.2.2.2.2.2.1 C.2.2.2.2.2.2.2.2.2.1 hH hS
  refine s_after (va_runS (As := As) (rest := st) ⟨C.1, C.2.1, C.2.2.2.1, C.2.2.2.2.1, C.2.2.2.2.2.1⟩ hM ⟨(callB_of (rm := sR d' mc' ms') na C.2.2.2.2.2.1 (mt_good m1) rfl rfl rfl (C.2.2.2.2.2.1 _ m2) (C.2.2.2.2.2.1 _ hw) m3 ⟨hfr, by show 8 + (nL' + 11) + 80 * d' ≤ R.locals; omega⟩), C.2.2.2.2.2.1 _ hi⟩ hpre rfl hn hl.1 rfl (lv_room hcat) hd hrm) hS (fun H1 locs1 h1 h2 => ?_)
  rw [hrv] ; exact kk p e s m args below meth c C H1 locs1 ls h1 h2 hl
theorem a_callVNI {i na nL' d' mc' ms' : Nat} {As st0 : List Value} {y : MethodName} {cc' : ByteArray} {r1 : Int} {S1 : sS} {host : String} {ob : Nat} {ci N : Nat} {tm : List Value} {Tt : u_T} {Cn : String} {ty : Nat → FieldType} {ret' : Option FieldType} (hd : decode cc pc = .ok (.invokevirtual i, 3)) (hm : mtK y cc' nL' ret' na) (hk : clK ci Cn Tt N ty) (hcn : y.cls = Cn) (hi : Cond.instanceMethod y ∈ lw_good) (hse : Cond.selects Cn y y ∈ lw_good) (hc : S.1[ob]? = some (.inl (ci, tm))) (hw : Cond.methodLinkNest own i y host ∈ lw_nest) (hn : As.length = na) (hM : aM G y cc' nL' ret' d' mc' ms' (.ref (gP G ob) :: As) S (r1, S1)) (hrv : ∀ r, sRV G ret' r = some (vI r)) (hst : As.reverse ++ .ref (gP G ob) :: st = st0) (hfr : d' + 1 ≤ R.frames) (hlo : 80 * d' + 79 ≤ R.locals) (hrm : k + mc' ≤ R.cells ∧ n + ms' ≤ R.slots) (hcat : (st.map fun v => v.category).sum ≤ 8) (kk : aW G cc own mn nL ret R Q Xp (k + mc') (n + ms') S1 L (pc + 3) (vI r1 :: st)) : aW G cc own mn nL ret R Q Xp k n S L pc st0 := by
  intro p e s m args below meth c C H locs ls hH hS hl
  subst hst
  obtain ⟨m1, m2, m3, m4⟩ := hm
  have hpre := s_pre (av := (.ref (gP G ob) :: As)) C.2.2.2.2.2.2.2.2.1 C.2.2.2.2.2.2.2.2.2.1 hH hS
  refine s_after (va_runVN (C := Cn) (As := As) (rest := st) ⟨C.1, C.2.1, C.2.2.2.1, C.2.2.2.2.1, C.2.2.2.2.2.1⟩ hM ⟨(va_cnB (rm := sR d' mc' ms') na C.2.2.2.2.2.1 (mt_good m1) rfl rfl rfl (C.2.2.2.2.2.2.2.2.1.2.2.1 _ hw) (C.2.2.2.2.2.1 _ m2) m3 ⟨hfr, by show 8 + (nL' + 11) + 80 * d' ≤ R.locals; omega⟩), C.2.2.2.2.2.1 _ hi, C.2.2.2.2.2.1 _ hse⟩ ⟨hpre.1, va_recv C.2.2.2.2.2.2.2.2.1.2.1 hH.1 hk.1 (ws_some hc), hpre.2⟩ rfl hn hl.1 rfl (lv_room hcat) hd hrm) hS (fun H1 locs1 h1 h2 => ?_)
  rw [hrv] ; exact kk p e s m args below meth c C H1 locs1 ls h1 h2 hl
theorem a_callVNL {i na nL' d' mc' ms' : Nat} {As st0 : List Value} {y : MethodName} {cc' : ByteArray} {r1 : Int} {S1 : sS} {host : String} {ob : Nat} {ci N : Nat} {tm : List Value} {Tt : u_T} {Cn : String} {ty : Nat → FieldType} {ret' : Option FieldType} (hd : decode cc pc = .ok (.invokevirtual i, 3)) (hm : mtK y cc' nL' ret' na) (hk : clK ci Cn Tt N ty) (hcn : y.cls = Cn) (hi : Cond.instanceMethod y ∈ lw_good) (hse : Cond.selects Cn y y ∈ lw_good) (hc : S.1[ob]? = some (.inl (ci, tm))) (hw : Cond.methodLinkNest own i y host ∈ lw_nest) (hn : As.length = na) (hM : aM G y cc' nL' ret' d' mc' ms' (.ref (gP G ob) :: As) S (r1, S1)) (hrv : ∀ r, sRV G ret' r = some (vL r)) (hst : As.reverse ++ .ref (gP G ob) :: st = st0) (hfr : d' + 1 ≤ R.frames) (hlo : 80 * d' + 79 ≤ R.locals) (hrm : k + mc' ≤ R.cells ∧ n + ms' ≤ R.slots) (hcat : (st.map fun v => v.category).sum ≤ 8) (kk : aW G cc own mn nL ret R Q Xp (k + mc') (n + ms') S1 L (pc + 3) (vL r1 :: st)) : aW G cc own mn nL ret R Q Xp k n S L pc st0 := by
  intro p e s m args below meth c C H locs ls hH hS hl
  subst hst
  obtain ⟨m1, m2, m3, m4⟩ := hm
  have hpre := s_pre (av := (.ref (gP G ob) :: As)) C.2.2.2.2.2.2.2.2.1 C.2.2.2.2.2.2.2.2.2.1 hH hS
  refine s_after (va_runVN (C := Cn) (As := As) (rest := st) ⟨C.1, C.2.1, C.2.2.2.1, C.2.2.2.2.1, C.2.2.2.2.2.1⟩ hM ⟨(va_cnB (rm := sR d' mc' ms') na C.2.2.2.2.2.1 (mt_good m1) rfl rfl rfl (C.2.2.2.2.2.2.2.2.1.2.2.1 _ hw) (C.2.2.2.2.2.1 _ m2) m3 ⟨hfr, by show 8 + (nL' + 11) + 80 * d' ≤ R.locals; omega⟩), C.2.2.2.2.2.1 _ hi, C.2.2.2.2.2.1 _ hse⟩ ⟨hpre.1, va_recv C.2.2.2.2.2.2.2.2.1.2.1 hH.1 hk.1 (ws_some hc), hpre.2⟩ rfl hn hl.1 rfl (lv_room hcat) hd hrm) hS (fun H1 locs1 h1 h2 => ?_)
  rw [hrv] ; exact kk p e s m args below meth c C H1 locs1 ls h1 h2 hl
theorem a_callVNR {i na nL' d' mc' ms' : Nat} {As st0 : List Value} {y : MethodName} {cc' : ByteArray} {r1 : Int} {S1 : sS} {host : String} {ob : Nat} {ci N : Nat} {tm : List Value} {Tt : u_T} {Cn : String} {ty : Nat → FieldType} {ret' : Option FieldType} (hd : decode cc pc = .ok (.invokevirtual i, 3)) (hm : mtK y cc' nL' ret' na) (hk : clK ci Cn Tt N ty) (hcn : y.cls = Cn) (hi : Cond.instanceMethod y ∈ lw_good) (hse : Cond.selects Cn y y ∈ lw_good) (hc : S.1[ob]? = some (.inl (ci, tm))) (hw : Cond.methodLinkNest own i y host ∈ lw_nest) (hn : As.length = na) (hM : aM G y cc' nL' ret' d' mc' ms' (.ref (gP G ob) :: As) S (r1, S1)) (hrv : ∀ r, sRV G ret' r = some (.ref (gP G r.toNat))) (hst : As.reverse ++ .ref (gP G ob) :: st = st0) (hfr : d' + 1 ≤ R.frames) (hlo : 80 * d' + 79 ≤ R.locals) (hrm : k + mc' ≤ R.cells ∧ n + ms' ≤ R.slots) (hcat : (st.map fun v => v.category).sum ≤ 8) (kk : aW G cc own mn nL ret R Q Xp (k + mc') (n + ms') S1 L (pc + 3) (.ref (gP G r1.toNat) :: st)) : aW G cc own mn nL ret R Q Xp k n S L pc st0 := by
  intro p e s m args below meth c C H locs ls hH hS hl
  subst hst
  obtain ⟨m1, m2, m3, m4⟩ := hm
  have hpre := s_pre (av := (.ref (gP G ob) :: As)) C.2.2.2.2.2.2.2.2.1 C.2.2.2.2.2.2.2.2.2.1 hH hS
  refine s_after (va_runVN (C := Cn) (As := As) (rest := st) ⟨C.1, C.2.1, C.2.2.2.1, C.2.2.2.2.1, C.2.2.2.2.2.1⟩ hM ⟨(va_cnB (rm := sR d' mc' ms') na C.2.2.2.2.2.1 (mt_good m1) rfl rfl rfl (C.2.2.2.2.2.2.2.2.1.2.2.1 _ hw) (C.2.2.2.2.2.1 _ m2) m3 ⟨hfr, by show 8 + (nL' + 11) + 80 * d' ≤ R.locals; omega⟩), C.2.2.2.2.2.1 _ hi, C.2.2.2.2.2.1 _ hse⟩ ⟨hpre.1, va_recv C.2.2.2.2.2.2.2.2.1.2.1 hH.1 hk.1 (ws_some hc), hpre.2⟩ rfl hn hl.1 rfl (lv_room hcat) hd hrm) hS (fun H1 locs1 h1 h2 => ?_)
  rw [hrv] ; exact kk p e s m args below meth c C H1 locs1 ls h1 h2 hl
theorem a_callVNV {i na nL' d' mc' ms' : Nat} {As st0 : List Value} {y : MethodName} {cc' : ByteArray} {r1 : Int} {S1 : sS} {host : String} {ob : Nat} {ci N : Nat} {tm : List Value} {Tt : u_T} {Cn : String} {ty : Nat → FieldType} {ret' : Option FieldType} (hd : decode cc pc = .ok (.invokevirtual i, 3)) (hm : mtK y cc' nL' ret' na) (hk : clK ci Cn Tt N ty) (hcn : y.cls = Cn) (hi : Cond.instanceMethod y ∈ lw_good) (hse : Cond.selects Cn y y ∈ lw_good) (hc : S.1[ob]? = some (.inl (ci, tm))) (hw : Cond.methodLinkNest own i y host ∈ lw_nest) (hn : As.length = na) (hM : aM G y cc' nL' ret' d' mc' ms' (.ref (gP G ob) :: As) S (r1, S1)) (hrv : ∀ r, sRV G ret' r = none) (hst : As.reverse ++ .ref (gP G ob) :: st = st0) (hfr : d' + 1 ≤ R.frames) (hlo : 80 * d' + 79 ≤ R.locals) (hrm : k + mc' ≤ R.cells ∧ n + ms' ≤ R.slots) (hcat : (st.map fun v => v.category).sum ≤ 8) (kk : aW G cc own mn nL ret R Q Xp (k + mc') (n + ms') S1 L (pc + 3) st) : aW G cc own mn nL ret R Q Xp k n S L pc st0 := by
  intro p e s m args below meth c C H locs ls hH hS hl
  subst hst
  obtain ⟨m1, m2, m3, m4⟩ := hm
  have hpre := s_pre (av := (.ref (gP G ob) :: As)) C.2.2.2.2.2.2.2.2.1 C.2.2.2.2.2.2.2.2.2.1 hH hS
  refine s_after (va_runVN (C := Cn) (As := As) (rest := st) ⟨C.1, C.2.1, C.2.2.2.1, C.2.2.2.2.1, C.2.2.2.2.2.1⟩ hM ⟨(va_cnB (rm := sR d' mc' ms') na C.2.2.2.2.2.1 (mt_good m1) rfl rfl rfl (C.2.2.2.2.2.2.2.2.1.2.2.1 _ hw) (C.2.2.2.2.2.1 _ m2) m3 ⟨hfr, by show 8 + (nL' + 11) + 80 * d' ≤ R.locals; omega⟩), C.2.2.2.2.2.1 _ hi, C.2.2.2.2.2.1 _ hse⟩ ⟨hpre.1, va_recv C.2.2.2.2.2.2.2.2.1.2.1 hH.1 hk.1 (ws_some hc), hpre.2⟩ rfl hn hl.1 rfl (lv_room hcat) hd hrm) hS (fun H1 locs1 h1 h2 => ?_)
  rw [hrv] ; exact kk p e s m args below meth c C H1 locs1 ls h1 h2 hl
theorem a_callSNI {i na nL' d' mc' ms' : Nat} {As st0 : List Value} {y : MethodName} {cc' : ByteArray} {r1 : Int} {S1 : sS} {host : String} {ret' : Option FieldType} (hd : decode cc pc = .ok (.invokestatic i, 3)) (hm : mtK y cc' nL' ret' na) (hi : Cond.static y ∈ lw_good) (hw : Cond.methodLinkNest own i y host ∈ lw_nest) (hn : As.length = na) (hM : aM G y cc' nL' ret' d' mc' ms' As S (r1, S1)) (hrv : ∀ r, sRV G ret' r = some (vI r)) (hst : As.reverse ++ st = st0) (hfr : d' + 1 ≤ R.frames) (hlo : 80 * d' + 79 ≤ R.locals) (hrm : k + mc' ≤ R.cells ∧ n + ms' ≤ R.slots) (hcat : (st.map fun v => v.category).sum ≤ 8) (kk : aW G cc own mn nL ret R Q Xp (k + mc') (n + ms') S1 L (pc + 3) (vI r1 :: st)) : aW G cc own mn nL ret R Q Xp k n S L pc st0 := by
  intro p e s m args below meth c C H locs ls hH hS hl
  subst hst
  obtain ⟨m1, m2, m3, m4⟩ := hm
  have hpre := s_pre (av := As) C.2.2.2.2.2.2.2.2.1 C.2.2.2.2.2.2.2.2.2.1 hH hS
  refine s_after (va_runSN (As := As) (rest := st) ⟨C.1, C.2.1, C.2.2.2.1, C.2.2.2.2.1, C.2.2.2.2.2.1⟩ hM ⟨(va_cnB (rm := sR d' mc' ms') na C.2.2.2.2.2.1 (mt_good m1) rfl rfl rfl (C.2.2.2.2.2.2.2.2.1.2.2.1 _ hw) (C.2.2.2.2.2.1 _ m2) m3 ⟨hfr, by show 8 + (nL' + 11) + 80 * d' ≤ R.locals; omega⟩), C.2.2.2.2.2.1 _ hi, trivial⟩ hpre rfl hn hl.1 rfl (lv_room hcat) hd hrm) hS (fun H1 locs1 h1 h2 => ?_)
  rw [hrv] ; exact kk p e s m args below meth c C H1 locs1 ls h1 h2 hl
theorem a_callSNL {i na nL' d' mc' ms' : Nat} {As st0 : List Value} {y : MethodName} {cc' : ByteArray} {r1 : Int} {S1 : sS} {host : String} {ret' : Option FieldType} (hd : decode cc pc = .ok (.invokestatic i, 3)) (hm : mtK y cc' nL' ret' na) (hi : Cond.static y ∈ lw_good) (hw : Cond.methodLinkNest own i y host ∈ lw_nest) (hn : As.length = na) (hM : aM G y cc' nL' ret' d' mc' ms' As S (r1, S1)) (hrv : ∀ r, sRV G ret' r = some (vL r)) (hst : As.reverse ++ st = st0) (hfr : d' + 1 ≤ R.frames) (hlo : 80 * d' + 79 ≤ R.locals) (hrm : k + mc' ≤ R.cells ∧ n + ms' ≤ R.slots) (hcat : (st.map fun v => v.category).sum ≤ 8) (kk : aW G cc own mn nL ret R Q Xp (k + mc') (n + ms') S1 L (pc + 3) (vL r1 :: st)) : aW G cc own mn nL ret R Q Xp k n S L pc st0 := by
  intro p e s m args below meth c C H locs ls hH hS hl
  subst hst
  obtain ⟨m1, m2, m3, m4⟩ := hm
  have hpre := s_pre (av := As) C.2.2.2.2.2.2.2.2.1 C.2.2.2.2.2.2.2.2.2.1 hH hS
  refine s_after (va_runSN (As := As) (rest := st) ⟨C.1, C.2.1, C.2.2.2.1, C.2.2.2.2.1, C.2.2.2.2.2.1⟩ hM ⟨(va_cnB (rm := sR d' mc' ms') na C.2.2.2.2.2.1 (mt_good m1) rfl rfl rfl (C.2.2.2.2.2.2.2.2.1.2.2.1 _ hw) (C.2.2.2.2.2.1 _ m2) m3 ⟨hfr, by show 8 + (nL' + 11) + 80 * d' ≤ R.locals; omega⟩), C.2.2.2.2.2.1 _ hi, trivial⟩ hpre rfl hn hl.1 rfl (lv_room hcat) hd hrm) hS (fun H1 locs1 h1 h2 => ?_)
  rw [hrv] ; exact kk p e s m args below meth c C H1 locs1 ls h1 h2 hl
theorem a_callSNR {i na nL' d' mc' ms' : Nat} {As st0 : List Value} {y : MethodName} {cc' : ByteArray} {r1 : Int} {S1 : sS} {host : String} {ret' : Option FieldType} (hd : decode cc pc = .ok (.invokestatic i, 3)) (hm : mtK y cc' nL' ret' na) (hi : Cond.static y ∈ lw_good) (hw : Cond.methodLinkNest own i y host ∈ lw_nest) (hn : As.length = na) (hM : aM G y cc' nL' ret' d' mc' ms' As S (r1, S1)) (hrv : ∀ r, sRV G ret' r = some (.ref (gP G r.toNat))) (hst : As.reverse ++ st = st0) (hfr : d' + 1 ≤ R.frames) (hlo : 80 * d' + 79 ≤ R.locals) (hrm : k + mc' ≤ R.cells ∧ n + ms' ≤ R.slots) (hcat : (st.map fun v => v.category).sum ≤ 8) (kk : aW G cc own mn nL ret R Q Xp (k + mc') (n + ms') S1 L (pc + 3) (.ref (gP G r1.toNat) :: st)) : aW G cc own mn nL ret R Q Xp k n S L pc st0 := by
  intro p e s m args below meth c C H locs ls hH hS hl
  subst hst
  obtain ⟨m1, m2, m3, m4⟩ := hm
  have hpre := s_pre (av := As) C.2.2.2.2.2.2.2.2.1 C.2.2.2.2.2.2.2.2.2.1 hH hS
  refine s_after (va_runSN (As := As) (rest := st) ⟨C.1, C.2.1, C.2.2.2.1, C.2.2.2.2.1, C.2.2.2.2.2.1⟩ hM ⟨(va_cnB (rm := sR d' mc' ms') na C.2.2.2.2.2.1 (mt_good m1) rfl rfl rfl (C.2.2.2.2.2.2.2.2.1.2.2.1 _ hw) (C.2.2.2.2.2.1 _ m2) m3 ⟨hfr, by show 8 + (nL' + 11) + 80 * d' ≤ R.locals; omega⟩), C.2.2.2.2.2.1 _ hi, trivial⟩ hpre rfl hn hl.1 rfl (lv_room hcat) hd hrm) hS (fun H1 locs1 h1 h2 => ?_)
  rw [hrv] ; exact kk p e s m args below meth c C H1 locs1 ls h1 h2 hl
theorem a_callSNV {i na nL' d' mc' ms' : Nat} {As st0 : List Value} {y : MethodName} {cc' : ByteArray} {r1 : Int} {S1 : sS} {host : String} {ret' : Option FieldType} (hd : decode cc pc = .ok (.invokestatic i, 3)) (hm : mtK y cc' nL' ret' na) (hi : Cond.static y ∈ lw_good) (hw : Cond.methodLinkNest own i y host ∈ lw_nest) (hn : As.length = na) (hM : aM G y cc' nL' ret' d' mc' ms' As S (r1, S1)) (hrv : ∀ r, sRV G ret' r = none) (hst : As.reverse ++ st = st0) (hfr : d' + 1 ≤ R.frames) (hlo : 80 * d' + 79 ≤ R.locals) (hrm : k + mc' ≤ R.cells ∧ n + ms' ≤ R.slots) (hcat : (st.map fun v => v.category).sum ≤ 8) (kk : aW G cc own mn nL ret R Q Xp (k + mc') (n + ms') S1 L (pc + 3) st) : aW G cc own mn nL ret R Q Xp k n S L pc st0 := by
  intro p e s m args below meth c C H locs ls hH hS hl
  subst hst
  obtain ⟨m1, m2, m3, m4⟩ := hm
  have hpre := s_pre (av := As) C.2.2.2.2.2.2.2.2.1 C.2.2.2.2.2.2.2.2.2.1 hH hS
  refine s_after (va_runSN (As := As) (rest := st) ⟨C.1, C.2.1, C.2.2.2.1, C.2.2.2.2.1, C.2.2.2.2.2.1⟩ hM ⟨(va_cnB (rm := sR d' mc' ms') na C.2.2.2.2.2.1 (mt_good m1) rfl rfl rfl (C.2.2.2.2.2.2.2.2.1.2.2.1 _ hw) (C.2.2.2.2.2.1 _ m2) m3 ⟨hfr, by show 8 + (nL' + 11) + 80 * d' ≤ R.locals; omega⟩), C.2.2.2.2.2.1 _ hi, trivial⟩ hpre rfl hn hl.1 rfl (lv_room hcat) hd hrm) hS (fun H1 locs1 h1 h2 => ?_)
  rw [hrv] ; exact kk p e s m args below meth c C H1 locs1 ls h1 h2 hl
theorem a_callIV {i na nL' d' mc' ms' : Nat} {As st0 : List Value} {y : MethodName} {cc' : ByteArray} {r1 : Int} {S1 : sS} {ob : Nat} (hd : decode cc pc = .ok (.invokespecial i, 3)) (hm : mtK y cc' nL' none na) (hi : Cond.instanceMethod y ∈ lw_good) (hin : y.name = "<init>") (hw : Cond.methodLink own i y ∈ lw_good) (hn : As.length = na) (hM : aM G y cc' nL' none d' mc' ms' (.ref (gP G ob) :: As) S (r1, S1)) (hst : As.reverse ++ .ref (gP G ob) :: st = st0) (hfr : d' + 1 ≤ R.frames) (hlo : 80 * d' + 79 ≤ R.locals) (hrm : k + mc' ≤ R.cells ∧ n + ms' ≤ R.slots) (hcat : (st.map fun v => v.category).sum ≤ 8) (kk : aW G cc own mn nL ret R Q Xp (k + mc') (n + ms') S1 L (pc + 3) st) : aW G cc own mn nL ret R Q Xp k n S L pc st0 := by
  intro p e s m args below meth c C H locs ls hH hS hl
  subst hst
  obtain ⟨m1, m2, m3, m4⟩ := hm
  have hpre := s_pre (av := (.ref (gP G ob) :: As)) C.2.2.2.2.2.2.2.2.1 C.2.2.2.2.2.2.2.2.2.1 hH hS
  refine s_after (va_runI (As := As) (rest := st) ⟨C.1, C.2.1, C.2.2.2.1, C.2.2.2.2.1, C.2.2.2.2.2.1⟩ hM ⟨(callB_of (rm := sR d' mc' ms') na C.2.2.2.2.2.1 (mt_good m1) rfl rfl rfl (C.2.2.2.2.2.1 _ m2) (C.2.2.2.2.2.1 _ hw) m3 ⟨hfr, by show 8 + (nL' + 11) + 80 * d' ≤ R.locals; omega⟩), hin, C.2.2.2.2.2.1 _ hi⟩ hpre rfl hn hl.1 rfl (lv_room hcat) hd hrm) hS (fun H1 locs1 h1 h2 => ?_)
  exact kk p e s m args below meth c C H1 locs1 ls h1 h2 hl
theorem a_callINV {i na nL' d' mc' ms' : Nat} {As st0 : List Value} {y : MethodName} {cc' : ByteArray} {r1 : Int} {S1 : sS} {host : String} {ob : Nat} (hd : decode cc pc = .ok (.invokespecial i, 3)) (hm : mtK y cc' nL' none na) (hi : Cond.instanceMethod y ∈ lw_good) (hin : y.name = "<init>") (hw : Cond.methodLinkNest own i y host ∈ lw_nest) (hn : As.length = na) (hM : aM G y cc' nL' none d' mc' ms' (.ref (gP G ob) :: As) S (r1, S1)) (hst : As.reverse ++ .ref (gP G ob) :: st = st0) (hfr : d' + 1 ≤ R.frames) (hlo : 80 * d' + 79 ≤ R.locals) (hrm : k + mc' ≤ R.cells ∧ n + ms' ≤ R.slots) (hcat : (st.map fun v => v.category).sum ≤ 8) (kk : aW G cc own mn nL ret R Q Xp (k + mc') (n + ms') S1 L (pc + 3) st) : aW G cc own mn nL ret R Q Xp k n S L pc st0 := by
  intro p e s m args below meth c C H locs ls hH hS hl
  subst hst
  obtain ⟨m1, m2, m3, m4⟩ := hm
  have hpre := s_pre (av := (.ref (gP G ob) :: As)) C.2.2.2.2.2.2.2.2.1 C.2.2.2.2.2.2.2.2.2.1 hH hS
  refine s_after (va_runIN (As := As) (rest := st) ⟨C.1, C.2.1, C.2.2.2.1, C.2.2.2.2.1, C.2.2.2.2.2.1⟩ hM ⟨(va_cnB (rm := sR d' mc' ms') na C.2.2.2.2.2.1 (mt_good m1) rfl rfl rfl (C.2.2.2.2.2.2.2.2.1.2.2.1 _ hw) (C.2.2.2.2.2.1 _ m2) m3 ⟨hfr, by show 8 + (nL' + 11) + 80 * d' ≤ R.locals; omega⟩), hin, C.2.2.2.2.2.1 _ hi⟩ hpre rfl hn hl.1 rfl (lv_room hcat) hd hrm) hS (fun H1 locs1 h1 h2 => ?_)
  exact kk p e s m args below meth c C H1 locs1 ls h1 h2 hl
theorem a_mmax {i : Nat} {x y : Int} (hd : decode cc pc = .ok (.invokestatic i, 3)) (hw : Cond.methodLink own i Lib.Math.max.name ∈ lw_good) (hs : Cond.static Lib.Math.max.name ∈ lw_good) (hi : Cond.initialized "java/lang/Math" ∈ lw_good) (hcd : Cond.code Lib.Math.max.name Lib.Math.max.code 2 (some .int) ∈ lw_good) (hfr : 1 ≤ R.frames ∧ 21 ≤ R.locals) (hrm : k ≤ R.cells ∧ n ≤ R.slots) (hcat : (st.map fun v => v.category).sum ≤ 8) (kk : aW G cc own mn nL ret R Q Xp k n S L (pc + 3) (vI (if wi x < wi y then y else x) :: st)) : aW G cc own mn nL ret R Q Xp k n S L pc (vI y :: vI x :: st) := by
  intro p e s m args below meth c C H locs ls hH hS hl
  refine va_mmax C.1 C.2.1 (by rw [C.2.2.2.1]; exact hl.1.symm) C.2.2.2.2.1 (C.2.2.2.2.2.1 _ hw) (C.2.2.2.2.2.1 _ hs) (C.2.2.2.2.2.1 _ hi) (C.2.2.2.2.2.1 _ hcd) hfr.1 (by omega) hrm.1 hrm.2 hd ?_
  have h := kk p e s m args below meth c C H locs ls hH hS hl
  by_cases q : wi x < wi y
  · rw [if_pos q] at h; rw [if_pos ((oi_lt x y).mpr q)]; exact h
  · rw [if_neg q] at h; rw [if_neg (fun z => q ((oi_lt x y).mp z))]; exact h
theorem a_mmin {i : Nat} {x y : Int} (hd : decode cc pc = .ok (.invokestatic i, 3)) (hw : Cond.methodLink own i Lib.Math.min.name ∈ lw_good) (hs : Cond.static Lib.Math.min.name ∈ lw_good) (hi : Cond.initialized "java/lang/Math" ∈ lw_good) (hcd : Cond.code Lib.Math.min.name Lib.Math.min.code 2 (some .int) ∈ lw_good) (hfr : 1 ≤ R.frames ∧ 21 ≤ R.locals) (hrm : k ≤ R.cells ∧ n ≤ R.slots) (hcat : (st.map fun v => v.category).sum ≤ 8) (kk : aW G cc own mn nL ret R Q Xp k n S L (pc + 3) (vI (if wi y < wi x then y else x) :: st)) : aW G cc own mn nL ret R Q Xp k n S L pc (vI y :: vI x :: st) := by
  intro p e s m args below meth c C H locs ls hH hS hl
  refine va_mmin C.1 C.2.1 (by rw [C.2.2.2.1]; exact hl.1.symm) C.2.2.2.2.1 (C.2.2.2.2.2.1 _ hw) (C.2.2.2.2.2.1 _ hs) (C.2.2.2.2.2.1 _ hi) (C.2.2.2.2.2.1 _ hcd) hfr.1 (by omega) hrm.1 hrm.2 hd ?_
  have h := kk p e s m args below meth c C H locs ls hH hS hl
  by_cases q : wi y < wi x
  · rw [if_pos q] at h; rw [if_pos ((oi_lt y x).mpr q)]; exact h
  · rw [if_neg q] at h; rw [if_neg (fun z => q ((oi_lt y x).mp z))]; exact h
theorem a_cpyI {a0 a1 n0 n1 N i : Nat} {g0 g1 : Nat → Option Nat} {z : Int} (hd : decode cc pc = .ok (.invokestatic i, 3)) (hw : Cond.methodLink own i arraycopyName ∈ lw_good) (hnat : Cond.native arraycopyName ∈ lw_good) (hstt : Cond.static arraycopyName ∈ lw_good) (hini : Cond.initialized "java/lang/System" ∈ lw_good) (h0 : Sh[a0]? = some (.inr (.int, n0, g0))) (h1 : Sh[a1]? = some (.inr (.int, n1, g1))) (hz : wi z = (N : Int)) (hn0 : N ≤ n0) (hn1 : N ≤ n1) (hfr : 1 ≤ R.frames ∧ 8 + (nativeFrameWords "java/lang/System" "arraycopy" 5 + 11) ≤ R.locals) (hcat : (st.map fun v => v.category).sum ≤ 8) (kk : aW G cc own mn nL ret R Q Xp k n (Sh, sUc σ a1 (fun j => if j < N then σ a0 j else σ a1 j)) L (pc + 3) st) : aW G cc own mn nL ret R Q Xp k n (Sh, σ) L pc (vI z :: vI 0 :: .ref (gP G a1) :: vI 0 :: .ref (gP G a0) :: st) := by
  intro p e s m args below meth c C H locs ls hH hS hl
  intro T hT X
  have hzN : (Int32.ofInt z).toNatClampNeg = N := by rw [oi_cl, hz]; rfl
  have hzn : ¬ Int32.ofInt z < 0 := fun q => by have q2 := (oi_lt z 0).mp q; rw [hz, wi_0] at q2; omega
  have hc0 : H[gP G a0]? = some (vp_cell (gA G .int) (n0, .inl (fun j => Int32.ofInt (σ a0 j)))) := hH.1 a0 _ (ws_some h0)
  have hc1 : H[gP G a1]? = some (vp_cell (gA G .int) (n1, .inl (fun j => Int32.ofInt (σ a1 j)))) := hH.1 a1 _ (ws_some h1)
  obtain ⟨-, k0, hk0, cm0, hkk0⟩ := (C.2.2.2.2.2.2.2.2.1.2.1.2 0 _ rfl).1 n0 (fun j => .int (Int32.ofInt (σ a0 j)))
  obtain ⟨-, k1, hk1, cm1, hkk1⟩ := (C.2.2.2.2.2.2.2.2.1.2.1.2 0 _ rfl).1 n1 (fun j => .int (Int32.ofInt (σ a1 j)))
  obtain ⟨vm', X', step⟩ := X.arraycopy C.1 C.2.2.2.2.1 (C.2.2.2.2.2.1 _ hw) (C.2.2.2.2.2.1 _ hnat) (C.2.2.2.2.2.1 _ hstt) (C.2.2.2.2.2.1 _ hini) (src := gP G a0) (dst := gP G a1) (cs := vp_cell (gA G .int) (n0, .inl (fun j => Int32.ofInt (σ a0 j)))) (cd := vp_cell (gA G .int) (n1, .inl (fun j => Int32.ofInt (σ a1 j)))) (srcPos := 0) (destPos := 0) (n := Int32.ofInt z) (by rw [hT]; exact hc0) (by rw [hT]; exact hc1)
    (fun _ h => by cases h) (fun _ h => by cases h) (fun h => by cases h) (fun h => by cases h) hk0 hk1 hkk0 hkk1 (by simp [refKind]) (by decide) (by decide) hzn
    (by show ¬ (0 : Int32).toInt + wi z > ((arrV _ n0 _).slots.size : Int); rw [arrV_size, hz]; show ¬ (0 : Int) + _ > _; omega)
    (by show ¬ (0 : Int32).toInt + wi z > ((arrV _ n1 _).slots.size : Int); rw [arrV_size, hz]; show ¬ (0 : Int) + _ > _; omega)
    (fun vm₁ _ i hi => by
      have e9 : (vp_cell (gA G .int) (n0, .inl (fun j => Int32.ofInt (σ a0 j)))).slots.getD ((0 : Int32).toNatClampNeg + i) .null = .int (Int32.ofInt (σ a0 ((0 : Int32).toNatClampNeg + i))) := by
        show (arrV (gA G .int) n0 (fun j => .int (Int32.ofInt (σ a0 j)))).slots.getD _ _ = _
        rw [hzN] at hi
        rw [Array.getD_eq_getD_getElem?, arrV_read _ _ (by show (0 : Nat) + i < n0; omega)]
        rfl
      refine ⟨?_, ?_⟩
      · rw [e9]; rfl
      · rw [e9]; exact trivial)
    (g := F0 m pc ls (vI z :: vI 0 :: .ref (gP G a1) :: vI 0 :: .ref (gP G a0) :: st)) rfl (by show ls.size = c.maxLocals; rw [C.2.2.2.1]; exact hl.1) (rest := st) rfl (by rw [C.2.1]; exact hd) hfr.1 (by have := hfr.2; show 2 * 0 + _ + _ ≤ _; omega)
  have h4 : (0 : Int32).toNatClampNeg + (Int32.ofInt z).toNatClampNeg ≤ n0 := by rw [hzN]; show 0 + N ≤ n0; omega
  have e1 : copied (vp_cell (gA G .int) (n0, .inl (fun j => Int32.ofInt (σ a0 j)))) (vp_cell (gA G .int) (n1, .inl (fun j => Int32.ofInt (σ a1 j)))) 0 0 (Int32.ofInt z) = vp_cell (gA G .int) (n1, .inl (va_cpy (fun j => Int32.ofInt (σ a0 j)) (fun j => Int32.ofInt (σ a1 j)) (0 : Int32).toNatClampNeg (0 : Int32).toNatClampNeg (Int32.ofInt z).toNatClampNeg)) := va_copied (fun z => .int z) (gA G .int) (gA G .int) (fun j => Int32.ofInt (σ a0 j)) (fun j => Int32.ofInt (σ a1 j)) h4
  have e2 : va_cpy (fun j => Int32.ofInt (σ a0 j)) (fun j => Int32.ofInt (σ a1 j)) (0 : Int32).toNatClampNeg (0 : Int32).toNatClampNeg (Int32.ofInt z).toNatClampNeg = fun j => Int32.ofInt (sUc σ a1 (fun j => if j < N then σ a0 j else σ a1 j) a1 j) := by
    funext j
    rw [hzN]
    unfold va_cpy sUc
    rw [if_pos rfl]
    show (if 0 ≤ j ∧ j < 0 + N then Int32.ofInt (σ a0 (0 + (j - 0))) else Int32.ofInt (σ a1 j)) = Int32.ofInt (if j < N then σ a0 j else σ a1 j)
    by_cases hj : j < N
    · rw [if_pos ⟨Nat.zero_le _, by omega⟩, if_pos hj, Nat.zero_add, Nat.sub_zero]
    · rw [if_neg (fun q => hj (by omega)), if_neg hj]
  rw [e1, e2] at X' step
  have hlt : gP G a1 < H.size := (Array.getElem?_eq_some_iff.mp hc1).1
  generalize hcn : vp_cell (gA G .int) (n1, .inl (fun j => Int32.ofInt (sUc σ a1 (fun j => if j < N then σ a0 j else σ a1 j) a1 j))) = cn at X' step
  have hheap : ((T.setVm vm').setCell (gP G a1) cn).heap = H.setIfInBounds (gP G a1) cn := by rw [← hT]; rfl
  have oq : ∀ q : Nat, q ≠ gP G a1 → (H.setIfInBounds (gP G a1) cn)[q]? = H[q]? := fun q hq => by simp [Array.getElem?_setIfInBounds, Ne.symm hq]
  have hset : (H.setIfInBounds (gP G a1) cn)[gP G a1]? = some cn := by simp [Array.getElem?_setIfInBounds, hlt]
  have hsH : sH G (Sh, sUc σ a1 (fun j => if j < N then σ a0 j else σ a1 j)) (H.setIfInBounds (gP G a1) cn) := by
    refine ⟨?_, by rw [Array.size_setIfInBounds]; exact hH.2.1, sZ.same hH.2.2 (fun q => ?_)⟩
    rotate_left
    · by_cases hq : q = gP G a1
      · rw [hq, hset, hc1, ← hcn]; show some (arrV _ _ _).slots.size = some (arrV _ _ _).slots.size; rw [arrV_size, arrV_size]
      · rw [oq q hq]
    rw [← ws_set (σ := σ) h1 (fun k' hk' => sUc_ne hk')]
    exact va_P.set hH.1 (ws_D G (Sh, σ)) (ws_some h1) (by show (H.setIfInBounds (gP G a1) cn)[gP G a1]? = some (vp_cell (gA G .int) (n1, .inl (fun j => Int32.ofInt (sUc σ a1 (fun j => if j < N then σ a0 j else σ a1 j) a1 j)))); rw [hcn]; exact hset) oq
  obtain ⟨t, y1, y2⟩ := kk p e s m args below meth c C _ _ ls hsH ⟨by rw [Array.size_setIfInBounds]; exact hS.1, fun q g1 g2 => by
      rw [oq q (fun e => g2 (by rw [e]; exact gP_ge _ _))]
      exact hS.2.1 q g1 g2, fun q hq => by
      rcases List.mem_append.mp hq with h | h
      · exact hS.2.2 q h
      · obtain ⟨z9, -, hz9⟩ := List.mem_map.mp h
        rw [← hz9]
        exact gP_ge _ _⟩ hl _ hheap X'
  exact ⟨t, step t y1, y2⟩
theorem a_cpyL {a0 a1 n0 n1 N i : Nat} {g0 g1 : Nat → Option Nat} {z : Int} (hd : decode cc pc = .ok (.invokestatic i, 3)) (hw : Cond.methodLink own i arraycopyName ∈ lw_good) (hnat : Cond.native arraycopyName ∈ lw_good) (hstt : Cond.static arraycopyName ∈ lw_good) (hini : Cond.initialized "java/lang/System" ∈ lw_good) (h0 : Sh[a0]? = some (.inr (.long, n0, g0))) (h1 : Sh[a1]? = some (.inr (.long, n1, g1))) (hz : wi z = (N : Int)) (hn0 : N ≤ n0) (hn1 : N ≤ n1) (hfr : 1 ≤ R.frames ∧ 8 + (nativeFrameWords "java/lang/System" "arraycopy" 5 + 11) ≤ R.locals) (hcat : (st.map fun v => v.category).sum ≤ 8) (kk : aW G cc own mn nL ret R Q Xp k n (Sh, sUc σ a1 (fun j => if j < N then σ a0 j else σ a1 j)) L (pc + 3) st) : aW G cc own mn nL ret R Q Xp k n (Sh, σ) L pc (vI z :: vI 0 :: .ref (gP G a1) :: vI 0 :: .ref (gP G a0) :: st) := by
  intro p e s m args below meth c C H locs ls hH hS hl
  intro T hT X
  have hzN : (Int32.ofInt z).toNatClampNeg = N := by rw [oi_cl, hz]; rfl
  have hzn : ¬ Int32.ofInt z < 0 := fun q => by have q2 := (oi_lt z 0).mp q; rw [hz, wi_0] at q2; omega
  have hc0 : H[gP G a0]? = some (vp_cell (gA G .long) (n0, .inr (.inl (fun j => Int64.ofInt (σ a0 j))))) := hH.1 a0 _ (ws_some h0)
  have hc1 : H[gP G a1]? = some (vp_cell (gA G .long) (n1, .inr (.inl (fun j => Int64.ofInt (σ a1 j))))) := hH.1 a1 _ (ws_some h1)
  obtain ⟨-, k0, hk0, cm0, hkk0⟩ := (C.2.2.2.2.2.2.2.2.1.2.1.2 3 _ rfl).1 n0 (fun j => .long (Int64.ofInt (σ a0 j)))
  obtain ⟨-, k1, hk1, cm1, hkk1⟩ := (C.2.2.2.2.2.2.2.2.1.2.1.2 3 _ rfl).1 n1 (fun j => .long (Int64.ofInt (σ a1 j)))
  obtain ⟨vm', X', step⟩ := X.arraycopy C.1 C.2.2.2.2.1 (C.2.2.2.2.2.1 _ hw) (C.2.2.2.2.2.1 _ hnat) (C.2.2.2.2.2.1 _ hstt) (C.2.2.2.2.2.1 _ hini) (src := gP G a0) (dst := gP G a1) (cs := vp_cell (gA G .long) (n0, .inr (.inl (fun j => Int64.ofInt (σ a0 j))))) (cd := vp_cell (gA G .long) (n1, .inr (.inl (fun j => Int64.ofInt (σ a1 j))))) (srcPos := 0) (destPos := 0) (n := Int32.ofInt z) (by rw [hT]; exact hc0) (by rw [hT]; exact hc1)
    (fun _ h => by cases h) (fun _ h => by cases h) (fun h => by cases h) (fun h => by cases h) hk0 hk1 hkk0 hkk1 (by simp [refKind]) (by decide) (by decide) hzn
    (by show ¬ (0 : Int32).toInt + wi z > ((arrV _ n0 _).slots.size : Int); rw [arrV_size, hz]; show ¬ (0 : Int) + _ > _; omega)
    (by show ¬ (0 : Int32).toInt + wi z > ((arrV _ n1 _).slots.size : Int); rw [arrV_size, hz]; show ¬ (0 : Int) + _ > _; omega)
    (fun vm₁ _ i hi => by
      have e9 : (vp_cell (gA G .long) (n0, .inr (.inl (fun j => Int64.ofInt (σ a0 j))))).slots.getD ((0 : Int32).toNatClampNeg + i) .null = .long (Int64.ofInt (σ a0 ((0 : Int32).toNatClampNeg + i))) := by
        show (arrV (gA G .long) n0 (fun j => .long (Int64.ofInt (σ a0 j)))).slots.getD _ _ = _
        rw [hzN] at hi
        rw [Array.getD_eq_getD_getElem?, arrV_read _ _ (by show (0 : Nat) + i < n0; omega)]
        rfl
      refine ⟨?_, ?_⟩
      · rw [e9]; rfl
      · rw [e9]; exact trivial)
    (g := F0 m pc ls (vI z :: vI 0 :: .ref (gP G a1) :: vI 0 :: .ref (gP G a0) :: st)) rfl (by show ls.size = c.maxLocals; rw [C.2.2.2.1]; exact hl.1) (rest := st) rfl (by rw [C.2.1]; exact hd) hfr.1 (by have := hfr.2; show 2 * 0 + _ + _ ≤ _; omega)
  have h4 : (0 : Int32).toNatClampNeg + (Int32.ofInt z).toNatClampNeg ≤ n0 := by rw [hzN]; show 0 + N ≤ n0; omega
  have e1 : copied (vp_cell (gA G .long) (n0, .inr (.inl (fun j => Int64.ofInt (σ a0 j))))) (vp_cell (gA G .long) (n1, .inr (.inl (fun j => Int64.ofInt (σ a1 j))))) 0 0 (Int32.ofInt z) = vp_cell (gA G .long) (n1, .inr (.inl (va_cpy (fun j => Int64.ofInt (σ a0 j)) (fun j => Int64.ofInt (σ a1 j)) (0 : Int32).toNatClampNeg (0 : Int32).toNatClampNeg (Int32.ofInt z).toNatClampNeg))) := va_copied (fun z => .long z) (gA G .long) (gA G .long) (fun j => Int64.ofInt (σ a0 j)) (fun j => Int64.ofInt (σ a1 j)) h4
  have e2 : va_cpy (fun j => Int64.ofInt (σ a0 j)) (fun j => Int64.ofInt (σ a1 j)) (0 : Int32).toNatClampNeg (0 : Int32).toNatClampNeg (Int32.ofInt z).toNatClampNeg = fun j => Int64.ofInt (sUc σ a1 (fun j => if j < N then σ a0 j else σ a1 j) a1 j) := by
    funext j
    rw [hzN]
    unfold va_cpy sUc
    rw [if_pos rfl]
    show (if 0 ≤ j ∧ j < 0 + N then Int64.ofInt (σ a0 (0 + (j - 0))) else Int64.ofInt (σ a1 j)) = Int64.ofInt (if j < N then σ a0 j else σ a1 j)
    by_cases hj : j < N
    · rw [if_pos ⟨Nat.zero_le _, by omega⟩, if_pos hj, Nat.zero_add, Nat.sub_zero]
    · rw [if_neg (fun q => hj (by omega)), if_neg hj]
  rw [e1, e2] at X' step
  have hlt : gP G a1 < H.size := (Array.getElem?_eq_some_iff.mp hc1).1
  generalize hcn : vp_cell (gA G .long) (n1, .inr (.inl (fun j => Int64.ofInt (sUc σ a1 (fun j => if j < N then σ a0 j else σ a1 j) a1 j)))) = cn at X' step
  have hheap : ((T.setVm vm').setCell (gP G a1) cn).heap = H.setIfInBounds (gP G a1) cn := by rw [← hT]; rfl
  have oq : ∀ q : Nat, q ≠ gP G a1 → (H.setIfInBounds (gP G a1) cn)[q]? = H[q]? := fun q hq => by simp [Array.getElem?_setIfInBounds, Ne.symm hq]
  have hset : (H.setIfInBounds (gP G a1) cn)[gP G a1]? = some cn := by simp [Array.getElem?_setIfInBounds, hlt]
  have hsH : sH G (Sh, sUc σ a1 (fun j => if j < N then σ a0 j else σ a1 j)) (H.setIfInBounds (gP G a1) cn) := by
    refine ⟨?_, by rw [Array.size_setIfInBounds]; exact hH.2.1, sZ.same hH.2.2 (fun q => ?_)⟩
    rotate_left
    · by_cases hq : q = gP G a1
      · rw [hq, hset, hc1, ← hcn]; show some (arrV _ _ _).slots.size = some (arrV _ _ _).slots.size; rw [arrV_size, arrV_size]
      · rw [oq q hq]
    rw [← ws_set (σ := σ) h1 (fun k' hk' => sUc_ne hk')]
    exact va_P.set hH.1 (ws_D G (Sh, σ)) (ws_some h1) (by show (H.setIfInBounds (gP G a1) cn)[gP G a1]? = some (vp_cell (gA G .long) (n1, .inr (.inl (fun j => Int64.ofInt (sUc σ a1 (fun j => if j < N then σ a0 j else σ a1 j) a1 j))))); rw [hcn]; exact hset) oq
  obtain ⟨t, y1, y2⟩ := kk p e s m args below meth c C _ _ ls hsH ⟨by rw [Array.size_setIfInBounds]; exact hS.1, fun q g1 g2 => by
      rw [oq q (fun e => g2 (by rw [e]; exact gP_ge _ _))]
      exact hS.2.1 q g1 g2, fun q hq => by
      rcases List.mem_append.mp hq with h | h
      · exact hS.2.2 q h
      · obtain ⟨z9, -, hz9⟩ := List.mem_map.mp h
        rw [← hz9]
        exact gP_ge _ _⟩ hl _ hheap X'
  exact ⟨t, step t y1, y2⟩
theorem a_mmaxl {i : Nat} {x y : Int} (hd : decode cc pc = .ok (.invokestatic i, 3)) (hw : Cond.methodLink own i Lib.MathLoose.max_long.x ∈ lw_good) (hs : Cond.static Lib.MathLoose.max_long.x ∈ lw_good) (hi : Cond.initialized "java/lang/Math" ∈ lw_good) (hcd : Cond.code Lib.MathLoose.max_long.x Lib.MathLoose.max_long.code 4 (some .long) ∈ lw_good) (hfr : 1 ≤ R.frames ∧ 23 ≤ R.locals) (hrm : k ≤ R.cells ∧ n ≤ R.slots) (hcat : (st.map fun v => v.category).sum ≤ 8) (kk : aW G cc own mn nL ret R Q Xp k n S L (pc + 3) (vL (if wl y < wl x then x else y) :: st)) : aW G cc own mn nL ret R Q Xp k n S L pc (vL y :: vL x :: st) := by
  intro p e s m args below meth c C H locs ls hH hS hl
  refine va_mmax_long C.1 C.2.1 (by rw [C.2.2.2.1]; exact hl.1.symm) C.2.2.2.2.1 (C.2.2.2.2.2.1 _ hw) (C.2.2.2.2.2.1 _ hs) (C.2.2.2.2.2.1 _ hi) (C.2.2.2.2.2.1 _ hcd) hfr.1 (by omega) hrm.1 hrm.2 hd ?_
  have h := kk p e s m args below meth c C H locs ls hH hS hl
  by_cases q : wl y < wl x
  · rw [if_pos q] at h; rw [if_pos ((ol_lt y x).mpr q)]; exact h
  · rw [if_neg q] at h; rw [if_neg (fun z => q ((ol_lt y x).mp z))]; exact h
theorem a_widen {k' n' : Nat} (h1 : k ≤ k') (h2 : n ≤ n') (kk : aW G cc own mn nL ret R Q Xp k' n' S L pc st) : aW G cc own mn nL ret R Q Xp k n S L pc st := by
  intro p e s m args below meth c C H locs ls hH hS hl
  exact W.widen h1 h2 (kk p e s m args below meth c C H locs ls hH hS hl)
theorem ws_push (b : Nat → Nat) (dA : FieldType → ClassId) (Sh : List sE) (σ : sM) (e : sE) : wsOf b dA (Sh ++ [e], sUc σ Sh.length (fun _ => 0)) = wsOf b dA (Sh, σ) ++ [(b Sh.length, fillE b dA e (fun _ => 0))] := by
  apply List.ext_getElem?
  intro i
  rw [ws_at]
  by_cases h : i < Sh.length
  · have hR1 : (wsOf b dA (Sh, σ) ++ [(b Sh.length, fillE b dA e (fun _ => 0))])[i]? = (wsOf b dA (Sh, σ))[i]? := List.getElem?_append_left (by rw [ws_len]; exact h)
    rw [hR1, ws_at]
    show ((Sh ++ [e])[i]?).map _ = (Sh[i]?).map _
    rw [List.getElem?_append_left h]
    cases hk : Sh[i]? with
    | none => rfl
    | some e' => show some (b i, fillE b dA e' (sUc σ Sh.length (fun _ => 0) i)) = some (b i, fillE b dA e' (σ i)); rw [sUc_ne (by omega)]
  · have hR1 : (wsOf b dA (Sh, σ) ++ [(b Sh.length, fillE b dA e (fun _ => 0))])[i]? = [(b Sh.length, fillE b dA e (fun _ => 0))][i - Sh.length]? := by
      rw [List.getElem?_append_right (by rw [ws_len]; exact Nat.not_lt.mp h), ws_len]
    rw [hR1]
    show ((Sh ++ [e])[i]?).map _ = _
    rw [List.getElem?_append_right (Nat.not_lt.mp h)]
    by_cases h2 : i = Sh.length
    · subst h2
      rw [Nat.sub_self]
      show some (b Sh.length, fillE b dA e (sUc σ Sh.length (fun _ => 0) Sh.length)) = some (b Sh.length, fillE b dA e (fun _ => 0))
      rw [show sUc σ Sh.length (fun _ => 0) Sh.length = (fun _ => 0) from by funext j; unfold sUc; rw [if_pos rfl]]
    · rw [List.getElem?_eq_none (by simp; omega), List.getElem?_eq_none (by simp; omega)]; rfl
theorem sH_push {G : sG} {Sh : List sE} {σ : sM} {e : sE} {H H1 : Heap} {cell : Cell} (hp : gP G Sh.length = gB G + Sh.length) (hH : sH G (Sh, σ) H) (hz : H1.size = H.size + 1) (ho : ∀ q : Nat, q < H.size → H1[q]? = H[q]?) (hc : H1[H.size]? = some cell) (hs : cell.slots.size = szE e) (ha : va_at (gD G) vwCl (gP G Sh.length, fillE (gP G) (gA G) e (fun _ => 0)) H1) : sH G (Sh ++ [e], sUc σ Sh.length (fun _ => 0)) H1 := by
  refine ⟨?_, by rw [hz, hH.2.1]; show gB G + Sh.length + 1 = gB G + (Sh ++ [e]).length; rw [List.length_append]; rfl, fun k x hk => ?_⟩
  · rw [ws_push]
    refine va_P.app (hH.1.kept (fun k q hk => ho q.1 ((hH.1 k q hk).lt))) (fun k q hk => ?_)
    have hk0 : k < 1 := (List.getElem?_eq_some_iff.mp hk).1
    rw [show k = 0 by omega] at hk
    cases hk
    exact ha
  · have hsz : H.size = gB G + Sh.length := hH.2.1
    by_cases h : k < Sh.length
    · have hk2 : Sh[k]? = some x := by rw [← List.getElem?_append_left (l₂ := [e]) h]; exact hk
      have h9 := hH.2.2 k x hk2
      have hlt : gP G k < H.size := by
        cases hq : H[gP G k]? with
        | none => rw [hq] at h9; cases h9
        | some c9 => exact (Array.getElem?_eq_some_iff.mp hq).1
      rw [ho _ hlt]
      exact h9
    · have hk2 : (Sh ++ [e])[k]? = some x := hk
      have hl : k < (Sh ++ [e]).length := (List.getElem?_eq_some_iff.mp hk2).1
      rw [List.length_append] at hl
      have hk3 : k = Sh.length := by have : [e].length = 1 := rfl; omega
      subst hk3
      rw [List.getElem?_append_right (Nat.le_refl _), Nat.sub_self] at hk2
      cases hk2
      rw [hp, ← hsz, hc]
      exact congrArg some hs
theorem a_newL {z : Int} {N : Nat} (hp : gP G Sh.length = gB G + Sh.length) (hd : decode cc pc = .ok (.newarray .long, 2)) (ha : Cond.arrayClass .long ∈ lw_good) (hz : wi z = (N : Int)) (hN : N ≤ 60000000) (hk : k + 1 ≤ R.cells) (hn : n + N ≤ R.slots) (kk : aW G cc own mn nL ret R Q Xp (k + 1) (n + N) (Sh ++ [.inr (.long, N, fun _ => none)], sUc σ Sh.length (fun _ => 0)) L (pc + 2) (.ref (gP G Sh.length) :: st)) : aW G cc own mn nL ret R Q Xp k n (Sh, σ) L pc (vI z :: st) := by
  intro p e s m args below meth c C H locs ls hH hS hl
  have hsz : H.size = gB G + Sh.length := hH.2.1
  refine va_newaK C.1 C.2.1 (atype := .long) (C.2.2.2.2.2.1 _ ha) rfl hd rfl (fun q => by have q2 := (oi_lt z 0).mp q; rw [hz, wi_0] at q2; omega) (N := N) (by rw [oi_cl, hz]; rfl) (Nat.le_trans (Nat.mul_le_mul_left N (show componentBytes .long ≤ 8 by decide)) (by omega)) hk hn (h := gB G + Sh.length) hsz (fun H1 cA e1 z1 o1 hAr hNm => ?_)
  have hcA : cA = gA G .long := by
    have h9 := (C.2.2.2.2.2.2.2.2.1.2.1.2 3 _ rfl).2
    exact Option.some.inj (hNm.symm.trans h9)
  subst hcA
  rw [← hp]
  refine kk p e s m args below meth c C H1 locs ls (sH_push hp hH (by rw [z1, hsz]) (fun q hq => o1 q (by omega)) (by rw [hsz]; exact e1) (by rw [arrV_size]; rfl) ?_) ⟨Nat.le_trans hS.1 (by omega), fun q h1 h2 => (o1 q (by have := hS.1; omega)).trans (hS.2.1 q h1 h2), hS.2.2⟩ hl
  show H1[gP G Sh.length]? = some (vp_cell _ _)
  rw [hp, e1]; rfl
theorem a_newI {z : Int} {N : Nat} (hp : gP G Sh.length = gB G + Sh.length) (hd : decode cc pc = .ok (.newarray .int, 2)) (ha : Cond.arrayClass .int ∈ lw_good) (hz : wi z = (N : Int)) (hN : N ≤ 60000000) (hk : k + 1 ≤ R.cells) (hn : n + N ≤ R.slots) (kk : aW G cc own mn nL ret R Q Xp (k + 1) (n + N) (Sh ++ [.inr (.int, N, fun _ => none)], sUc σ Sh.length (fun _ => 0)) L (pc + 2) (.ref (gP G Sh.length) :: st)) : aW G cc own mn nL ret R Q Xp k n (Sh, σ) L pc (vI z :: st) := by
  intro p e s m args below meth c C H locs ls hH hS hl
  have hsz : H.size = gB G + Sh.length := hH.2.1
  refine va_newaK C.1 C.2.1 (atype := .int) (C.2.2.2.2.2.1 _ ha) rfl hd rfl (fun q => by have q2 := (oi_lt z 0).mp q; rw [hz, wi_0] at q2; omega) (N := N) (by rw [oi_cl, hz]; rfl) (Nat.le_trans (Nat.mul_le_mul_left N (show componentBytes .int ≤ 8 by decide)) (by omega)) hk hn (h := gB G + Sh.length) hsz (fun H1 cA e1 z1 o1 hAr hNm => ?_)
  have hcA : cA = gA G .int := by
    have h9 := (C.2.2.2.2.2.2.2.2.1.2.1.2 0 _ rfl).2
    exact Option.some.inj (hNm.symm.trans h9)
  subst hcA
  rw [← hp]
  refine kk p e s m args below meth c C H1 locs ls (sH_push hp hH (by rw [z1, hsz]) (fun q hq => o1 q (by omega)) (by rw [hsz]; exact e1) (by rw [arrV_size]; rfl) ?_) ⟨Nat.le_trans hS.1 (by omega), fun q h1 h2 => (o1 q (by have := hS.1; omega)).trans (hS.2.1 q h1 h2), hS.2.2⟩ hl
  show H1[gP G Sh.length]? = some (vp_cell _ _)
  rw [hp, e1]; rfl
theorem a_newB {z : Int} {N : Nat} (hp : gP G Sh.length = gB G + Sh.length) (hd : decode cc pc = .ok (.newarray .byte, 2)) (ha : Cond.arrayClass .byte ∈ lw_good) (hz : wi z = (N : Int)) (hN : N ≤ 60000000) (hk : k + 1 ≤ R.cells) (hn : n + N ≤ R.slots) (kk : aW G cc own mn nL ret R Q Xp (k + 1) (n + N) (Sh ++ [.inr (.byte, N, fun _ => none)], sUc σ Sh.length (fun _ => 0)) L (pc + 2) (.ref (gP G Sh.length) :: st)) : aW G cc own mn nL ret R Q Xp k n (Sh, σ) L pc (vI z :: st) := by
  intro p e s m args below meth c C H locs ls hH hS hl
  have hsz : H.size = gB G + Sh.length := hH.2.1
  refine va_newaK C.1 C.2.1 (atype := .byte) (C.2.2.2.2.2.1 _ ha) rfl hd rfl (fun q => by have q2 := (oi_lt z 0).mp q; rw [hz, wi_0] at q2; omega) (N := N) (by rw [oi_cl, hz]; rfl) (Nat.le_trans (Nat.mul_le_mul_left N (show componentBytes .byte ≤ 8 by decide)) (by omega)) hk hn (h := gB G + Sh.length) hsz (fun H1 cA e1 z1 o1 hAr hNm => ?_)
  have hcA : cA = gA G .byte := by
    have h9 := (C.2.2.2.2.2.2.2.2.1.2.1.2 1 _ rfl).2
    exact Option.some.inj (hNm.symm.trans h9)
  subst hcA
  rw [← hp]
  refine kk p e s m args below meth c C H1 locs ls (sH_push hp hH (by rw [z1, hsz]) (fun q hq => o1 q (by omega)) (by rw [hsz]; exact e1) (by rw [arrV_size]; rfl) ?_) ⟨Nat.le_trans hS.1 (by omega), fun q h1 h2 => (o1 q (by have := hS.1; omega)).trans (hS.2.1 q h1 h2), hS.2.2⟩ hl
  show H1[gP G Sh.length]? = some (vp_cell _ _)
  rw [hp, e1]; rfl
theorem a_newZ {z : Int} {N : Nat} (hp : gP G Sh.length = gB G + Sh.length) (hd : decode cc pc = .ok (.newarray .boolean, 2)) (ha : Cond.arrayClass .boolean ∈ lw_good) (hz : wi z = (N : Int)) (hN : N ≤ 60000000) (hk : k + 1 ≤ R.cells) (hn : n + N ≤ R.slots) (kk : aW G cc own mn nL ret R Q Xp (k + 1) (n + N) (Sh ++ [.inr (.boolean, N, fun _ => none)], sUc σ Sh.length (fun _ => 0)) L (pc + 2) (.ref (gP G Sh.length) :: st)) : aW G cc own mn nL ret R Q Xp k n (Sh, σ) L pc (vI z :: st) := by
  intro p e s m args below meth c C H locs ls hH hS hl
  have hsz : H.size = gB G + Sh.length := hH.2.1
  refine va_newaK C.1 C.2.1 (atype := .boolean) (C.2.2.2.2.2.1 _ ha) rfl hd rfl (fun q => by have q2 := (oi_lt z 0).mp q; rw [hz, wi_0] at q2; omega) (N := N) (by rw [oi_cl, hz]; rfl) (Nat.le_trans (Nat.mul_le_mul_left N (show componentBytes .boolean ≤ 8 by decide)) (by omega)) hk hn (h := gB G + Sh.length) hsz (fun H1 cA e1 z1 o1 hAr hNm => ?_)
  have hcA : cA = gA G .boolean := by
    have h9 := (C.2.2.2.2.2.2.2.2.1.2.1.2 2 _ rfl).2
    exact Option.some.inj (hNm.symm.trans h9)
  subst hcA
  rw [← hp]
  refine kk p e s m args below meth c C H1 locs ls (sH_push hp hH (by rw [z1, hsz]) (fun q hq => o1 q (by omega)) (by rw [hsz]; exact e1) (by rw [arrV_size]; rfl) ?_) ⟨Nat.le_trans hS.1 (by omega), fun q h1 h2 => (o1 q (by have := hS.1; omega)).trans (hS.2.1 q h1 h2), hS.2.2⟩ hl
  show H1[gP G Sh.length]? = some (vp_cell _ _)
  rw [hp, e1]; rfl
theorem a_new {i ci N : Nat} {Cn : String} {Tt : u_T} {ty : Nat → FieldType} {tm : List Value} (hp : gP G Sh.length = gB G + Sh.length) (hd : decode cc pc = .ok (.new i, 3)) (hK : clK ci Cn Tt N ty) (hcl : Cond.classLink own i Cn ∈ lw_good) (hin : Cond.instantiable Cn N ∈ lw_good) (hini : Cond.initialized Cn ∈ lw_good) (htm : tm.length = N) (hfs : ∀ j, j < N → defaultValue (ty j) = fillV (gP G) (tm.getD j .null) 0) (hk : k + 1 ≤ R.cells) (hn : n + N ≤ R.slots) (kk : aW G cc own mn nL ret R Q Xp (k + 1) (n + N) (Sh ++ [.inl (ci, tm)], sUc σ Sh.length (fun _ => 0)) L (pc + 3) (.ref (gP G Sh.length) :: st)) : aW G cc own mn nL ret R Q Xp k n (Sh, σ) L pc st := by
  intro p e s m args below meth c C H locs ls hH hS hl
  have hsz : H.size = gB G + Sh.length := hH.2.1
  refine W.newc C.1 C.2.1 C.2.2.2.2.1 (C.2.2.2.2.2.1 _ hcl) (C.2.2.2.2.2.1 _ hin) (C.2.2.2.2.2.1 _ hini) rfl hd hk hn (fun cC kC h1 h2 h3 h4 => ?_)
  have hKn := C.2.2.2.2.2.2.2.2.1.2.1.1 ci _ hK.1
  have hcC : (gD G).1 ci = cC := Option.some.inj (hKn.2.1.symm.trans h1)
  subst hcC
  have ho : ∀ q : Nat, q < H.size → (H.push (blank ((gD G).1 ci) kC))[q]? = H[q]? := fun q hq => by rw [Array.getElem?_push_lt hq]; exact (Array.getElem?_eq_getElem hq).symm
  have hb : (H.push (blank ((gD G).1 ci) kC))[H.size]? = some (blank ((gD G).1 ci) kC) := by simp
  have hgo := kk p e s m args below meth c C (H.push (blank ((gD G).1 ci) kC)) locs ls (sH_push hp hH (by simp) ho hb (by show (kC.instanceTypes.map defaultValue).size = tm.length; rw [Array.size_map, h4, htm]) ?_) ⟨Nat.le_trans hS.1 (by simp), fun q g1 g2 => (ho q (Nat.lt_of_lt_of_le g1 hS.1)).trans (hS.2.1 q g1 g2), hS.2.2⟩ hl
  · rw [hp, ← hsz] at hgo
    exact hgo
  · refine ⟨_, hK.1, ?_⟩
    rw [hp, ← hsz]
    refine (u_born ty C.2.2.2.2.2.1 hK.2.1 hKn h2 hb hK.2.2.1).to (fun j hj => ?_)
    rw [hfs j hj]
    show fillV (gP G) (tm.getD j .null) 0 = (tm.mapIdx (fun j t => fillV (gP G) t 0)).getD j .null
    rw [List.getD_eq_getElem?_getD, List.getD_eq_getElem?_getD, List.getElem?_mapIdx, List.getElem?_eq_getElem (by omega)]
    rfl
theorem a_objinit {i a : Nat} (hd : decode cc pc = .ok (.invokespecial i, 3)) (hw : Cond.methodLink own i objectInit ∈ lw_good) (hi : Cond.instanceMethod objectInit ∈ lw_good) (hc : Cond.code objectInit ⟨#[0xb1]⟩ 1 none ∈ lw_good) (hfr : 1 ≤ R.frames ∧ 20 ≤ R.locals) (hcat : (st.map fun v => v.category).sum ≤ 8) (kk : aW G cc own mn nL ret R Q Xp k n S L (pc + 3) st) : aW G cc own mn nL ret R Q Xp k n S L pc (.ref a :: st) := by
  intro p e s m args below meth c C H locs ls hH hS hl
  refine W.objInit C.1 C.2.1 C.2.2.2.2.1 (C.2.2.2.2.2.1 _ hw) (C.2.2.2.2.2.1 _ hi) (C.2.2.2.2.2.1 _ hc) rfl (by show ls.size = _; rw [C.2.2.2.1]; exact hl.1) rfl hd hfr.1 (by have := hfr.2; show 2 * 0 + _ + 12 ≤ _; omega) ?_
  exact kk p e s m args below meth c C H locs ls hH hS hl
theorem ws_setSh {b : Nat → Nat} {dA : FieldType → ClassId} {Sh : List sE} {σ : sM} {k : Nat} {e e' : sE} (h : Sh[k]? = some e) : (wsOf b dA (Sh, σ)).set k (b k, fillE b dA e' (σ k)) = wsOf b dA (Sh.set k e', σ) := by
  have hl : k < Sh.length := (List.getElem?_eq_some_iff.mp h).1
  apply List.ext_getElem?
  intro i
  by_cases hi : i = k
  · subst hi
    rw [List.getElem?_set_self (by rw [ws_len]; exact hl), ws_at]
    show _ = ((Sh.set i e')[i]?).map _
    rw [List.getElem?_set_self hl]; rfl
  · rw [List.getElem?_set_ne (Ne.symm hi), ws_at, ws_at]
    show _ = ((Sh.set k e')[i]?).map _
    rw [List.getElem?_set_ne (Ne.symm hi)]
theorem fill_ref {b : Nat → Nat} {dA : FieldType → ClassId} {ci j a : Nat} {tm : List Value} {f : Nat → Int} : fillE b dA (.inl (ci, tm.set j (.ref a))) f = .inr (ci, (tm.mapIdx (fun j t => fillV b t (f j))).set j (.ref (b a))) := by
  show Sum.inr (ci, (tm.set j (.ref a)).mapIdx (fun j' t => fillV b t (f j'))) = _
  congr 2
  apply List.ext_getElem?
  intro i
  rw [List.getElem?_mapIdx]
  by_cases hi : i = j
  · subst hi
    by_cases hl : i < tm.length
    · rw [List.getElem?_set_self hl, List.getElem?_set_self (by simpa using hl)]; rfl
    · rw [List.getElem?_eq_none (by simp; omega), List.getElem?_eq_none (by simp; omega)]; rfl
  · rw [List.getElem?_set_ne (Ne.symm hi), List.getElem?_set_ne (Ne.symm hi), List.getElem?_mapIdx]
theorem a_putR {ob ci j i N a : Nat} {tm : List Value} {Cn : String} {Tt : u_T} {ty : Nat → FieldType} (hd : decode cc pc = .ok (.putfield i, 3)) (hK : clK ci Cn Tt N ty) (hc : Sh[ob]? = some (.inl (ci, tm))) (hj : j < N) (hl9 : j < tm.length) (hf : (Tt j).2.2.2 = false) (hn : narrow (ty j) (.ref (gP G a)) = .ref (gP G a)) (hfit : fits (ty j) (.ref (gP G a)) = true) (hw : Cond.fieldLink own i (Tt j).1 (Tt j).2.1 (Tt j).2.2.1 ∈ lw_good) (kk : aW G cc own mn nL ret R Q Xp k n (Sh.set ob (.inl (ci, tm.set j (.ref a))), σ) L (pc + 3) st) : aW G cc own mn nL ret R Q Xp k n (Sh, σ) L pc (.ref (gP G a) :: .ref (gP G ob) :: st) := by
  intro p e s m args below meth c C H locs ls hH hS hl
  refine s_put (D := gD G) (v := .ref (gP G a)) C.1 C.2.1 C.2.2.2.2.2.1 hK C.2.2.2.2.1 C.2.2.2.2.2.2.2.2.1.2.1 hH.1 (ws_D G (Sh, σ)) hS ob (fs := tm.mapIdx (fun j t => fillV (gP G) t (σ ob j))) (ws_some (S := (Sh, σ)) (e := .inl (ci, tm)) hc) j hj (C.2.2.2.2.2.1 _ hw) hf rfl hn hfit (by simpa using hl9) hd (fun H1 locs1 hP hS1 hsz hzz => ?_)
  refine kk p e s m args below meth c C H1 locs1 ls ⟨?_, by rw [hsz]; show H.size = gB G + (Sh.set ob _).length; rw [List.length_set]; exact hH.2.1, fun k9 e9 hk9 => ?_⟩ hS1 hl
  · rw [← ws_setSh (σ := σ) hc, fill_ref]
    exact hP
  · rw [hzz]
    have hk8 : (Sh.set ob (.inl (ci, tm.set j (.ref a))))[k9]? = some e9 := hk9
    by_cases hq : k9 = ob
    · subst hq
      rw [List.getElem?_set_self (List.getElem?_eq_some_iff.mp hc).1] at hk8
      cases hk8
      rw [hH.2.2 k9 _ hc]
      show some tm.length = some (tm.set j (.ref a)).length
      rw [List.length_set]
    · rw [List.getElem?_set_ne (Ne.symm hq)] at hk8
      exact hH.2.2 k9 e9 hk8
theorem a_putRF {ob ci j i N a : Nat} {tm : List Value} {Cn : String} {Tt : u_T} {ty : Nat → FieldType} (hd : decode cc pc = .ok (.putfield i, 3)) (hK : clK ci Cn Tt N ty) (hc : Sh[ob]? = some (.inl (ci, tm))) (hj : j < N) (hl9 : j < tm.length) (hf : (Tt j).2.2.2 = true) (hmn : mn = "<init>") (hdc : (Tt j).1 = own) (hn : narrow (ty j) (.ref (gP G a)) = .ref (gP G a)) (hfit : fits (ty j) (.ref (gP G a)) = true) (hw : Cond.fieldLink own i (Tt j).1 (Tt j).2.1 (Tt j).2.2.1 ∈ lw_good) (kk : aW G cc own mn nL ret R Q Xp k n (Sh.set ob (.inl (ci, tm.set j (.ref a))), σ) L (pc + 3) st) : aW G cc own mn nL ret R Q Xp k n (Sh, σ) L pc (.ref (gP G a) :: .ref (gP G ob) :: st) := by
  intro p e s m args below meth c C H locs ls hH hS hl
  refine s_putF (D := gD G) (v := .ref (gP G a)) C.1 C.2.1 C.2.2.2.2.2.1 hK C.2.2.2.2.1 C.2.2.2.2.2.2.2.2.1.2.1 hH.1 (ws_D G (Sh, σ)) hS ob (fs := tm.mapIdx (fun j t => fillV (gP G) t (σ ob j))) (ws_some (S := (Sh, σ)) (e := .inl (ci, tm)) hc) j hj (C.2.2.2.2.2.1 _ hw) hf (C.2.2.2.2.2.2.2.1.trans hmn) hdc rfl hn hfit (by simpa using hl9) hd (fun H1 locs1 hP hS1 hsz hzz => ?_)
  refine kk p e s m args below meth c C H1 locs1 ls ⟨?_, by rw [hsz]; show H.size = gB G + (Sh.set ob _).length; rw [List.length_set]; exact hH.2.1, fun k9 e9 hk9 => ?_⟩ hS1 hl
  · rw [← ws_setSh (σ := σ) hc, fill_ref]
    exact hP
  · rw [hzz]
    have hk8 : (Sh.set ob (.inl (ci, tm.set j (.ref a))))[k9]? = some e9 := hk9
    by_cases hq : k9 = ob
    · subst hq
      rw [List.getElem?_set_self (List.getElem?_eq_some_iff.mp hc).1] at hk8
      cases hk8
      rw [hH.2.2 k9 _ hc]
      show some tm.length = some (tm.set j (.ref a)).length
      rw [List.length_set]
    · rw [List.getElem?_set_ne (Ne.symm hq)] at hk8
      exact hH.2.2 k9 e9 hk8
theorem a_tight {k' n' : Nat} {Zs : List Nat} (hX : ∀ s args, Xp s args → s.heap.size = gB G) (hZl : Zs.length = S.1.length) (hZ : ∀ i, i < S.1.length → ∃ k9, gP G k9 = gB G + i ∧ (S.1[k9]?).map szE = Zs[i]?) (h1 : S.1.length ≤ k') (h2 : Zs.sum ≤ n') (kk : aW G cc own mn nL ret R Q Xp k' n' S L pc st) : aW G cc own mn nL ret R Q Xp k n S L pc st := by
  intro p e s m args below meth c C H locs ls hH hS hl
  intro T hT X
  have hb : s.heap.size = gB G := hX _ _ C.2.2.2.2.2.2.2.2.2.2.2
  have hTh : (T.setVm s.vm).heap = H := hT
  have hmap : ((H.toList.drop s.heap.size).map (fun c => c.slots.size)) = Zs := by
    apply List.ext_getElem?
    intro i
    rw [List.getElem?_map, List.getElem?_drop, hb]
    by_cases hi : i < S.1.length
    · obtain ⟨k9, g1, g2⟩ := hZ i hi
      cases hk9 : S.1[k9]? with
      | none => rw [hk9, List.getElem?_eq_getElem (by omega)] at g2; cases g2
      | some e9 =>
        rw [hk9] at g2
        have h9 := hH.2.2 k9 e9 hk9
        rw [g1] at h9
        rw [Array.getElem?_toList, h9, ← g2]; rfl
    · rw [List.getElem?_eq_none (by have := hH.2.1; simp; omega), List.getElem?_eq_none (by omega)]; rfl
  refine kk p e s m args below meth c C H locs ls hH hS hl T hT { X with same := ⟨X.same.1, X.same.2.1, ?_, X.same.2.2.2.1, ?_, X.same.2.2.2.2.2⟩ }
  · rw [hTh, hH.2.1, hb]; omega
  · rw [hTh, hmap]; exact h2
theorem nb_01 {z : Int} (h : wi z = 0 ∨ wi z = 1) : narrow .boolean (vI z) = vI z := by
  have e : Int32.ofInt z = 0 ∨ Int32.ofInt z = 1 := by
    rcases h with h | h
    · exact Or.inl (by rw [← oi_wi, h]; rfl)
    · exact Or.inr (by rw [← oi_wi, h]; rfl)
  rcases e with e | e <;> (show narrow .boolean (.int (Int32.ofInt z)) = .int (Int32.ofInt z); rw [e]; rfl)
theorem nz_01 {z : Int} (h : wi z = 0 ∨ wi z = 1) : narrow .boolean (vI z) = vI z ∧ fits .boolean (vI z) = true := by
  have e : Int32.ofInt z = 0 ∨ Int32.ofInt z = 1 := by
    rcases h with h | h
    · exact Or.inl (by rw [← oi_wi, h]; rfl)
    · exact Or.inr (by rw [← oi_wi, h]; rfl)
  refine ⟨nb_01 h, ?_⟩
  rcases e with e | e <;> (show fits .boolean (.int (Int32.ofInt z)) = true; rw [e]; rfl)
theorem s_inj {α : Type} {a b : α} (h : some a = some b) : a = b := Option.some.inj h
theorem p_1 {α β : Type} {a c : α} {b d : β} (h : some (a, b) = some (c, d)) : a = c := congrArg Prod.fst (Option.some.inj h)
theorem p_2 {α β : Type} {a c : α} {b d : β} (h : some (a, b) = some (c, d)) : b = d := congrArg Prod.snd (Option.some.inj h)
theorem p_S {Sh : List sE} {σ σ' : sM} (h : σ = σ') : (Sh, σ) = (Sh, σ') := by rw [h]
end AWR
