def nm {α β : Type} (x : β) (k : β → Option α) : Option α := k x
section NMR
variable {G : sG} {cc : ByteArray} {own mn : String} {nL : Nat} {ret : Option FieldType} {R : Room} {Q : List Frame → Array Value → State → State → Prop} {Xp : State → Array Value → Prop} {k n : Nat} {S : sS} {Sh : List sE} {σ : sM} {L : List (Nat × Value)} {pc : Nat} {st : List Value} {α : Type} {o : α}
theorem a_nmS {K : sM → Option α} (h : nm σ K = some o) (kk : ∀ y, σ = y → K y = some o → aW G cc own mn nL ret R Q Xp k n (Sh, y) L pc st) : aW G cc own mn nL ret R Q Xp k n (Sh, σ) L pc st := kk σ rfl h
theorem a_nmI {x : Int} {K : Int → Option α} (h : nm x K = some o) (kk : ∀ y, x = y → K y = some o → aW G cc own mn nL ret R Q Xp k n S L pc (vI y :: st)) : aW G cc own mn nL ret R Q Xp k n S L pc (vI x :: st) := kk x rfl h
theorem a_nmL {x : Int} {K : Int → Option α} (h : nm x K = some o) (kk : ∀ y, x = y → K y = some o → aW G cc own mn nL ret R Q Xp k n S L pc (vL y :: st)) : aW G cc own mn nL ret R Q Xp k n S L pc (vL x :: st) := kk x rfl h
end NMR
def gN : Nat → Option Nat := fun _ => none
abbrev qT : Type := Nat × Nat × Nat × Nat × Nat × Nat
/-- an Outlook's row of shares -/
def shC (o : Nat) : Nat := 86 + (o - 29) / 4
/-- the cells' shapes: those that the two constructors make, then the rows that were made later -/
def mkSh (q : qT) (ext : List Nat) : List sE := [
  .inl (8, [.ref 1, .int 0, .ref 2, .ref 12, .ref 22, .ref 26, .ref 27, .ref 28, .ref 29, .ref 33, .ref 37, .ref 47, .ref 49, .ref 54]),
  .inr (.byte, 400, gN),
  .inl (1, [.ref 3, .ref 8, .ref 9, .ref 10, .ref 11, .int 0, .int 0, .int 0, .int 0]),
  .inr (.array .int, 4, fun i => some (4 + i)),
  .inr (.int, 14, gN),
  .inr (.int, 14, gN),
  .inr (.int, 14, gN),
  .inr (.int, 14, gN),
  .inr (.int, 3, gN),
  .inr (.int, 3, gN),
  .inr (.int, 8, gN),
  .inr (.int, 8, gN),
  .inl (1, [.ref 13, .ref 18, .ref 19, .ref 20, .ref 21, .int 0, .int 0, .int 0, .int 0]),
  .inr (.array .int, 4, fun i => some (14 + i)),
  .inr (.int, 14, gN),
  .inr (.int, 14, gN),
  .inr (.int, 14, gN),
  .inr (.int, 14, gN),
  .inr (.int, 3, gN),
  .inr (.int, 3, gN),
  .inr (.int, 8, gN),
  .inr (.int, 8, gN),
  .inl (4, [.ref 1, .ref 12, .ref 23, .ref 24, .ref 25, .int 0, .int 0, .int 0, .int 0]),
  .inr (.int, 401, gN),
  .inr (.int, 401, gN),
  .inr (.int, 401, gN),
  .inl (7, [.int 0, .int 0, .int 0, .int 0, .int 0, .int 0, .int 0, .int 0]),
  .inl (7, [.int 0, .int 0, .int 0, .int 0, .int 0, .int 0, .int 0, .int 0]),
  .inl (7, [.int 0, .int 0, .int 0, .int 0, .int 0, .int 0, .int 0, .int 0]),
  .inl (3, [.ref 2, .int 0, .int 0, .ref 86, .int 0, .long 0, .ref (q.1), .ref (q.2.1), .ref (q.2.2.1)]),
  .inr (.long, 0, gN),
  .inr (.long, 0, gN),
  .inr (.long, 0, gN),
  .inl (3, [.ref 2, .int 0, .int 0, .ref 87, .int 0, .long 0, .ref (q.2.2.2.1), .ref (q.2.2.2.2.1), .ref (q.2.2.2.2.2)]),
  .inr (.long, 0, gN),
  .inr (.long, 0, gN),
  .inr (.long, 0, gN),
  .inl (0, [.ref 2, .ref 38, .ref 40, .ref 42, .ref 43, .ref 44, .ref 45, .ref 46, .int 0, .int 0, .int 0, .int 0, .int 0, .int 0, .int 0, .int 0]),
  .inl (5, [.ref 39]),
  .inr (.long, 4, gN),
  .inl (5, [.ref 41]),
  .inr (.long, 4, gN),
  .inr (.int, 192, gN),
  .inr (.int, 9, gN),
  .inr (.int, 3, gN),
  .inr (.int, 8, gN),
  .inr (.int, 8, gN),
  .inl (5, [.ref 48]),
  .inr (.long, 4, gN),
  .inl (6, [.ref 2, .ref 50, .ref 52, .int 0]),
  .inl (5, [.ref 51]),
  .inr (.long, 4, gN),
  .inl (5, [.ref 53]),
  .inr (.long, 4, gN),
  .inl (2, [.ref 2, .long 0]),
  .inl (9, [.long 0, .ref 56, .int 0, .ref 57, .ref 58, .ref 59, .ref 60, .ref 61, .ref 62, .ref 63, .ref 64, .ref 65, .int 0, .int 0, .int 0, .int 0, .int 0, .ref 66, .ref 67, .ref 68, .ref 69, .ref 70, .ref 71, .ref 72, .ref 73, .ref 74, .ref 75, .ref 76, .ref 77, .ref 78, .ref 79, .ref 80, .ref 81, .ref 82, .ref 83, .ref 84, .int 0, .ref 85]),
  .inr (.byte, 400, gN),
  .inr (.int, 2, gN),
  .inr (.int, 2, gN),
  .inr (.int, 2, gN),
  .inr (.int, 2, gN),
  .inr (.int, 112, gN),
  .inr (.int, 6, gN),
  .inr (.int, 6, gN),
  .inr (.int, 16, gN),
  .inr (.int, 16, gN),
  .inr (.int, 3, gN),
  .inr (.boolean, 3, gN),
  .inr (.int, 3, gN),
  .inr (.int, 3, gN),
  .inr (.int, 3, gN),
  .inr (.int, 9, gN),
  .inr (.int, 9, gN),
  .inr (.boolean, 9, gN),
  .inr (.boolean, 2, gN),
  .inr (.int, 4096, gN),
  .inr (.int, 4096, gN),
  .inr (.int, 4096, gN),
  .inr (.int, 4096, gN),
  .inr (.int, 216, gN),
  .inr (.int, 8, gN),
  .inr (.int, 8, gN),
  .inr (.int, 3, gN),
  .inr (.int, 3, gN),
  .inr (.long, 4, gN),
  .inr (.long, 8, gN),
  .inr (.int, 48, gN),
  .inr (.int, 48, gN)] ++ ext.map (fun n => .inr (.long, n, gN))
def RCX3 (G : sG) (q : qT) (x : List Nat) (o0 o0P o0V o0W o0n : Nat) (dd : Nat) (rec : Nat → sM → Int → Int → Int → Option (Int × sM)) : Prop :=
  (∀ (σ : sM) (a1 a2 : Int) (r : Int) (s : sM), rec 0 σ a1 a2 0 = some (r, s) → aM G yX3_valueAhead cX3_valueAhead 3 (some .int) dd 0 0 [.ref (gP G o0), vI a1, vI a2] (mkSh q x, σ) (r, (mkSh q x, s))) ∧
  (∀ (σ : sM) (a1 a2 : Int) (r : Int) (s : sM), rec 1 σ a1 a2 0 = some (r, s) → aM G yX3_planAt cX3_planAt 4 (some .int) dd 0 0 [.ref (gP G o0), vI a1, vI a2] (mkSh q x, σ) (r, (mkSh q x, s))) ∧
  (∀ (σ : sM) (a1 a2 : Int) (r : Int) (s : sM), rec 2 σ a1 a2 0 = some (r, s) → aM G yX3_bestPlan cX3_bestPlan 7 (some .int) dd 0 0 [.ref (gP G o0), vI a1, vI a2] (mkSh q x, σ) (r, (mkSh q x, s))) ∧
  (∀ (σ : sM) (a1 a2 : Int) (r : Int) (s : sM), rec 3 σ a1 a2 0 = some (r, s) → aM G yX3_rulePlan cX3_rulePlan 7 (some .int) dd 0 0 [.ref (gP G o0), vI a1, vI a2] (mkSh q x, σ) (r, (mkSh q x, s))) ∧
  (∀ (σ : sM) (a1 a2 a3 : Int) (r : Int) (s : sM), rec 4 σ a1 a2 a3 = some (r, s) → aM G yX3_broughtBy cX3_broughtBy 5 (some .int) dd 0 0 [.ref (gP G o0), vI a1, vI a2, vI a3] (mkSh q x, σ) (r, (mkSh q x, s))) ∧
  (∀ (σ : sM) (a1 a2 : Int) (r : Int) (s : sM), rec 5 σ a1 a2 0 = some (r, s) → aM G yX3_valueBehind cX3_valueBehind 4 (some .int) dd 0 0 [.ref (gP G o0), vI a1, vI a2] (mkSh q x, σ) (r, (mkSh q x, s))) ∧
  (∀ (σ : sM) (a1 a2 a3 : Int) (r : Int) (s : sM), rec 6 σ a1 a2 a3 = some (r, s) → aM G yX3_mean cX3_mean 17 (some .int) dd 0 0 [.ref (gP G o0), vI a1, vI a2, vI a3] (mkSh q x, σ) (r, (mkSh q x, s))) ∧
  (∀ (σ : sM) (a1 a2 : Int) (r : Int) (s : sM), rec 7 σ a1 a2 0 = some (r, s) → aM G yX3_leftAhead cX3_leftAhead 3 (some .int) dd 0 0 [.ref (gP G o0), vI a1, vI a2] (mkSh q x, σ) (r, (mkSh q x, s))) ∧
  (∀ (σ : sM) (a1 a2 : Int) (r : Int) (s : sM), rec 8 σ a1 a2 0 = some (r, s) → aM G yX3_choiceAt cX3_choiceAt 3 (some .int) dd 0 0 [.ref (gP G o0), vI a1, vI a2] (mkSh q x, σ) (r, (mkSh q x, s))) ∧
  (∀ (σ : sM) (a1 a2 : Int) (r : Int) (s : sM), rec 9 σ a1 a2 0 = some (r, s) → aM G yX3_leftBehind cX3_leftBehind 4 (some .int) dd 0 0 [.ref (gP G o0), vI a1, vI a2] (mkSh q x, σ) (r, (mkSh q x, s)))
def RCX0 (G : sG) (q : qT) (x : List Nat) (dd : Nat) (rec : Nat → sM → Int → Int → Int → Option (Int × sM)) : Prop :=
  (∀ (σ : sM) (a1 a2 a3 : Int) (r : Int) (s : sM), rec 0 σ a1 a2 a3 = some (r, s) → aM G yX0_search cX0_search 6 none dd 0 0 [.ref (gP G 37), vI a1, vI a2, vI a3] (mkSh q x, σ) (r, (mkSh q x, s)))
theorem sh_row4 {q : qT} {x : List Nat} {z : Int} (h : 0 ≤ z ∧ z < 4) : (mkSh q x)[4 + z.toNat]? = some (.inr (.int, 14, gN)) := by
  have h2 : z.toNat = 0 ∨ z.toNat = 1 ∨ z.toNat = 2 ∨ z.toNat = 3 := by omega
  rcases h2 with e | e | e | e <;> rw [e] <;> rfl
theorem sh_row14 {q : qT} {x : List Nat} {z : Int} (h : 0 ≤ z ∧ z < 4) : (mkSh q x)[14 + z.toNat]? = some (.inr (.int, 14, gN)) := by
  have h2 : z.toNat = 0 ∨ z.toNat = 1 ∨ z.toNat = 2 ∨ z.toNat = 3 := by omega
  rcases h2 with e | e | e | e <;> rw [e] <;> rfl
theorem nz_i {y : Int} (h : ¬ wi y = 0) : ¬ Int32.ofInt y = 0 := fun z => h (by rw [← wi_0]; exact (oi_eq y 0).mp z)
theorem nz_l {y : Int} (h : ¬ wl y = 0) : ¬ Int64.ofInt y = 0 := fun z => h (by rw [← wl_0]; exact (ol_eq y 0).mp z)
theorem nfw_ok : 8 + (nativeFrameWords "java/lang/System" "arraycopy" 5 + 11) ≤ 80 := by decide +kernel
def lnA (p : Nat) (x : List Nat) : Nat := if p < 88 then 0 else x.getD (p - 88) 0
def okA (p : Nat) (x : List Nat) : Bool := (p == 30 || p == 31 || p == 32 || p == 34 || p == 35 || p == 36) || (decide (88 ≤ p) && decide (p < 88 + x.length))
theorem sh_A {q : qT} {x : List Nat} {p : Nat} (h : okA p x = true) : (mkSh q x)[p]? = some (.inr (.long, lnA p x, gN)) := by
  unfold okA at h
  simp only [Bool.or_eq_true, Bool.and_eq_true, beq_iff_eq, decide_eq_true_eq] at h
  rcases h with (((((h | h) | h) | h) | h) | h) | h
  · subst h; rfl
  · subst h; rfl
  · subst h; rfl
  · subst h; rfl
  · subst h; rfl
  · subst h; rfl
  · unfold mkSh lnA
    rw [List.getElem?_append_right (by show 88 ≤ p; omega), if_neg (by omega), List.getElem?_map]
    show (x[p - 88]?).map _ = _
    rw [List.getD_eq_getElem?_getD, List.getElem?_eq_getElem (by omega)]
    rfl
def okO (p v w : Nat) (x : List Nat) : Bool := okA p x && okA v x && okA w x && (lnA v x == lnA p x) && (lnA w x == lnA p x)
theorem sh_P {q : qT} {x : List Nat} {p v w : Nat} (h : okO p v w x = true) : (mkSh q x)[p]? = some (.inr (.long, lnA p x, gN)) := by
  unfold okO at h; simp only [Bool.and_eq_true, beq_iff_eq] at h
  exact sh_A h.1.1.1.1
theorem sh_V {q : qT} {x : List Nat} {p v w : Nat} (h : okO p v w x = true) : (mkSh q x)[v]? = some (.inr (.long, lnA p x, gN)) := by
  unfold okO at h; simp only [Bool.and_eq_true, beq_iff_eq] at h
  rw [← h.1.2]; exact sh_A h.1.1.1.2
theorem sh_W {q : qT} {x : List Nat} {p v w : Nat} (h : okO p v w x = true) : (mkSh q x)[w]? = some (.inr (.long, lnA p x, gN)) := by
  unfold okO at h; simp only [Bool.and_eq_true, beq_iff_eq] at h
  rw [← h.2]; exact sh_A h.1.1.2
theorem mkSh_len (q : qT) (x : List Nat) : (mkSh q x).length = 88 + x.length := by
  unfold mkSh; rw [List.length_append, List.length_map]; rfl
theorem mk_push (q : qT) (x : List Nat) (N : Nat) : mkSh q x ++ [.inr (.long, N, fun _ => none)] = mkSh q (x ++ [N]) := by
  unfold mkSh; rw [List.map_append, List.append_assoc]; rfl
theorem p_T {q : qT} {x : List Nat} {σ : sM} {t : qT × List Nat × sM} (h : (q, x, σ) = t) : (mkSh q x, σ) = (mkSh t.1 t.2.1, t.2.2) := by subst h; rfl
section QR
variable {G : sG} {cc : ByteArray} {own mn : String} {nL : Nat} {ret : Option FieldType} {R : Room} {Q : List Frame → Array Value → State → State → Prop} {Xp : State → Array Value → Prop} {k n : Nat} {q : qT} {x : List Nat} {σ : sM} {L : List (Nat × Value)} {pc : Nat} {st : List Value}
theorem a_newX {z : Int} {N : Nat} (hd : decode cc pc = .ok (.newarray .long, 2)) (ha : Cond.arrayClass .long ∈ lw_good) (hz : wi z = (N : Int)) (hN : N ≤ 60000000) (hk : k + 1 ≤ R.cells) (hn : n + N ≤ R.slots) (kk : aW G cc own mn nL ret R Q Xp (k + 1) (n + N) (mkSh q (x ++ [N]), sUc σ (88 + x.length) (fun _ => 0)) L (pc + 2) (.ref (gP G (88 + x.length)) :: st)) : aW G cc own mn nL ret R Q Xp k n (mkSh q x, σ) L pc (vI z :: st) := by
  refine a_newL (by rw [mkSh_len]; exact gP_b G (by omega)) hd ha hz hN hk hn ?_
  rw [mk_push, mkSh_len]
  exact kk
theorem a_putQ29_6 {i a : Nat} (hd : decode cc pc = .ok (.putfield i, 3)) (hw : Cond.fieldLink own i "CheeseFirst$Outlook" "plans" "[J" ∈ lw_good) (kk : aW G cc own mn nL ret R Q Xp k n (mkSh (a, q.2.1, q.2.2.1, q.2.2.2.1, q.2.2.2.2.1, q.2.2.2.2.2) x, σ) L (pc + 3) st) : aW G cc own mn nL ret R Q Xp k n (mkSh q x, σ) L pc (.ref (gP G a) :: .ref (gP G 29) :: st) :=
  a_putR (ob := 29) (j := 6) hd KX3 rfl (by decide) (by show 6 < 9; decide) rfl rfl rfl hw kk
theorem a_putQ29_7 {i a : Nat} (hd : decode cc pc = .ok (.putfield i, 3)) (hw : Cond.fieldLink own i "CheeseFirst$Outlook" "values" "[J" ∈ lw_good) (kk : aW G cc own mn nL ret R Q Xp k n (mkSh (q.1, a, q.2.2.1, q.2.2.2.1, q.2.2.2.2.1, q.2.2.2.2.2) x, σ) L (pc + 3) st) : aW G cc own mn nL ret R Q Xp k n (mkSh q x, σ) L pc (.ref (gP G a) :: .ref (gP G 29) :: st) :=
  a_putR (ob := 29) (j := 7) hd KX3 rfl (by decide) (by show 7 < 9; decide) rfl rfl rfl hw kk
theorem a_putQ29_8 {i a : Nat} (hd : decode cc pc = .ok (.putfield i, 3)) (hw : Cond.fieldLink own i "CheeseFirst$Outlook" "lefts" "[J" ∈ lw_good) (kk : aW G cc own mn nL ret R Q Xp k n (mkSh (q.1, q.2.1, a, q.2.2.2.1, q.2.2.2.2.1, q.2.2.2.2.2) x, σ) L (pc + 3) st) : aW G cc own mn nL ret R Q Xp k n (mkSh q x, σ) L pc (.ref (gP G a) :: .ref (gP G 29) :: st) :=
  a_putR (ob := 29) (j := 8) hd KX3 rfl (by decide) (by show 8 < 9; decide) rfl rfl rfl hw kk
theorem a_putQ33_6 {i a : Nat} (hd : decode cc pc = .ok (.putfield i, 3)) (hw : Cond.fieldLink own i "CheeseFirst$Outlook" "plans" "[J" ∈ lw_good) (kk : aW G cc own mn nL ret R Q Xp k n (mkSh (q.1, q.2.1, q.2.2.1, a, q.2.2.2.2.1, q.2.2.2.2.2) x, σ) L (pc + 3) st) : aW G cc own mn nL ret R Q Xp k n (mkSh q x, σ) L pc (.ref (gP G a) :: .ref (gP G 33) :: st) :=
  a_putR (ob := 33) (j := 6) hd KX3 rfl (by decide) (by show 6 < 9; decide) rfl rfl rfl hw kk
theorem a_putQ33_7 {i a : Nat} (hd : decode cc pc = .ok (.putfield i, 3)) (hw : Cond.fieldLink own i "CheeseFirst$Outlook" "values" "[J" ∈ lw_good) (kk : aW G cc own mn nL ret R Q Xp k n (mkSh (q.1, q.2.1, q.2.2.1, q.2.2.2.1, a, q.2.2.2.2.2) x, σ) L (pc + 3) st) : aW G cc own mn nL ret R Q Xp k n (mkSh q x, σ) L pc (.ref (gP G a) :: .ref (gP G 33) :: st) :=
  a_putR (ob := 33) (j := 7) hd KX3 rfl (by decide) (by show 7 < 9; decide) rfl rfl rfl hw kk
theorem a_putQ33_8 {i a : Nat} (hd : decode cc pc = .ok (.putfield i, 3)) (hw : Cond.fieldLink own i "CheeseFirst$Outlook" "lefts" "[J" ∈ lw_good) (kk : aW G cc own mn nL ret R Q Xp k n (mkSh (q.1, q.2.1, q.2.2.1, q.2.2.2.1, q.2.2.2.2.1, a) x, σ) L (pc + 3) st) : aW G cc own mn nL ret R Q Xp k n (mkSh q x, σ) L pc (.ref (gP G a) :: .ref (gP G 33) :: st) :=
  a_putR (ob := 33) (j := 8) hd KX3 rfl (by decide) (by show 8 < 9; decide) rfl rfl rfl hw kk
end QR
