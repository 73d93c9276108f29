theorem over_spec {s : State} (h : sO s) : ∃ c k comp, s.vm.findClass ("[" ++ (FieldType.array .int).toString) = some c ∧ s.vm.classes[c]? = some k ∧ k.kind = .array comp (.array .int) := by
  unfold sO Cond.before at h
  simp only [Cond.holds, Cond.value, beq_iff_eq] at h
  cases hc : s.vm.findClass (FieldType.array .int).toString with
  | none => simp [hc] at h
  | some comp =>
    simp only [hc, Option.bind_some, Option.bind_eq_some_iff, Option.map_eq_some_iff] at h
    obtain ⟨c, hi, k, hk, hb⟩ := h
    cases hkind : k.kind with
    | array component ty =>
      rw [hkind] at hb
      simp at hb
      exact ⟨c, k, component, hb.2, hk, by rw [hb.1] at hkind; exact hkind⟩
    | _ => rw [hkind] at hb; simp at hb
def tmS (i : Nat) : Term := .string "CheeseFirst$Reader" ((strK.getD i (0, "", 0, [])).1)
def flatN : List Cond := flatC (Jvm.Cond.and given_1 narrow_1)
theorem fx1 : ∀ i, i < 9 → Cond.exactly (tmS i) "java/lang/String" ∈ flatN := by decide +kernel
theorem fx2 : ∀ i, i < 9 → Cond.eq (.field (tmS i) "java/lang/String" "coder" "B") (.int 0) ∈ flatN := by decide +kernel
theorem fx3 : ∀ i, i < 9 → Cond.arrayOf (.field (tmS i) "java/lang/String" "value" "[B") .byte ∈ flatN := by decide +kernel
theorem fx4 : ∀ i, i < 9 → Cond.eq (.length (.field (tmS i) "java/lang/String" "value" "[B")) (.int (Int32.ofNat (strL.getD i 0))) ∈ flatN := by decide +kernel
theorem fx5 : ∀ i, i < 9 → ∀ j, j < strL.getD i 0 → Cond.eq (.elem (.field (tmS i) "java/lang/String" "value" "[B") (.int (Int32.ofNat j))) (.int ((strB.getD i []).getD j 0)) ∈ flatN := by decide +kernel
theorem fx6 : ∀ i, i < 9 → ∀ j, j < 9 → i ≠ j → (Cond.not (Cond.eq (tmS i) (tmS j)) ∈ flatN ∨ Cond.not (Cond.eq (tmS j) (tmS i)) ∈ flatN) := by decide +kernel
theorem fx7 : Cond.eq (.static "java/lang/String" "COMPACT_STRINGS" "Z") (.int 1) ∈ flatN := by decide +kernel
theorem fx8 : Cond.isRef (.static "jdk/internal/util/Preconditions" "SIOOBE_FORMATTER" "Ljava/util/function/BiFunction;") ∈ flatN := by decide +kernel
theorem fx9 : ∀ i, i < 9 → Cond.stringRef "CheeseFirst$Reader" ((strK.getD i (0, "", 0, [])).1) ((strK.getD i (0, "", 0, [])).2.1) ∈ lw_tbl := by decide +kernel
theorem fxa : Cond.laysStatic "java/lang/String" "COMPACT_STRINGS" "Z" ∈ lw_tbl ∧ Cond.laysStatic "jdk/internal/util/Preconditions" "SIOOBE_FORMATTER" "Ljava/util/function/BiFunction;" ∈ lw_tbl ∧ Cond.initialized "java/lang/String" ∈ lw_tbl ∧ Cond.initialized "jdk/internal/util/Preconditions" ∈ lw_tbl ∧ Cond.arrayOver (.array .int) ∈ lw_tbl := by decide +kernel
theorem nest_on : ∀ w ∈ lw_nest, w.onTables = true := fun w hw => by
  have h2 := (List.mem_filter.mp hw).2
  cases w <;> first | exact absurd (show (false : Bool) = true from h2) (by decide) | rfl
/-- the start that the Statement allows gives the frame's own facts -/
theorem start_G {s : State} (l : Launch) {b : Nat} (hts : ∀ w ∈ lw_tbl, w.before #[Value.ref b] s = true) (hgv : (Jvm.Cond.and given_1 narrow_1).before #[Value.ref b] s = true) : ∃ G : sG, G.1 = l ∧ gB G = s.heap.size ∧ sX (gS G false) s ∧ sV (gS G false) s := by
  have gd : ∀ w, w ∈ lw_good → w ∈ lw_tbl := fun w hw => (List.mem_filter.mp hw).1
  have hfl : ∀ c ∈ flatN, c.before #[Value.ref b] s = true := flat_of_before _ hgv
  have kn : ∀ (C : String) (T : u_T) (N : Nat), (∀ w ∈ u_ws C T N, w ∈ lw_tbl) → (Cond.instantiable C N).before #[Value.ref b] s = true → ∃ d : ClassId × (Nat → Nat), u_Kn s C T N d.1 d.2 := fun C T N h1 h2 => by
    obtain ⟨c, iS, h⟩ := u_known hts h1 h2
    exact ⟨(c, iS), h⟩
  have hcl : ∀ k : Nat, ∃ d : ClassId × (Nat → Nat), ∀ q : vw_C, vwCl[k]? = some q → u_Kn s q.1 q.2.1 q.2.2 d.1 d.2 := by
    intro k
    by_cases hk : k < 10
    · have h1 : ∀ q : vw_C, vwCl[k]? = some q → ∃ d : ClassId × (Nat → Nat), u_Kn s q.1 q.2.1 q.2.2 d.1 d.2 := by
        intro q hq
        match k, hq with
        | 0, hq => cases hq; exact kn RX0 TX0 16 (fun w hw => gd w (KX0.2.1 w hw)) (hts _ (gd _ kt_RX0))
        | 1, hq => cases hq; exact kn RX1 TX1 9 (fun w hw => gd w (KX1.2.1 w hw)) (hts _ (gd _ kt_RX1))
        | 2, hq => cases hq; exact kn RX2 TX2 2 (fun w hw => gd w (KX2.2.1 w hw)) (hts _ (gd _ kt_RX2))
        | 3, hq => cases hq; exact kn RX3 TX3 9 (fun w hw => gd w (KX3.2.1 w hw)) (hts _ (gd _ kt_RX3))
        | 4, hq => cases hq; exact kn RX4 TX4 9 (fun w hw => gd w (KX4.2.1 w hw)) (hts _ (gd _ kt_RX4))
        | 5, hq => cases hq; exact kn RX5 TX5 1 (fun w hw => gd w (KX5.2.1 w hw)) (hts _ (gd _ kt_RX5))
        | 6, hq => cases hq; exact kn RX6 TX6 4 (fun w hw => gd w (KX6.2.1 w hw)) (hts _ (gd _ kt_RX6))
        | 7, hq => cases hq; exact kn RX7 TX7 8 (fun w hw => gd w (KX7.2.1 w hw)) (hts _ (gd _ kt_RX7))
        | 8, hq => cases hq; exact kn RX8 TX8 14 (fun w hw => gd w (KX8.2.1 w hw)) (hts _ (gd _ kt_RX8))
        | 9, hq => cases hq; exact kn RX9 TX9 38 (fun w hw => gd w (KX9.2.1 w hw)) (hts _ (gd _ kt_RX9))
        | k + 10, hq => simp [vwCl] at hq
      cases hq : vwCl[k]? with
      | none => exact ⟨(0, fun _ => 0), fun q h => by cases h⟩
      | some q0 =>
        obtain ⟨d, hd⟩ := h1 q0 hq
        exact ⟨d, fun q h => by cases h; exact hd⟩
    · exact ⟨(0, fun _ => 0), fun q h => by
        have := (List.getElem?_eq_some_iff.mp h).1
        exact absurd this (by show ¬ k < 10; exact hk)⟩
  obtain ⟨dd, hdd⟩ := Classical.axiomOfChoice hcl
  have hsO : sO s := hts _ fxa.2.2.2.2
  have hA : ∀ a : Nat, a < s.heap.size → ¬ (fun q : Nat => s.heap.size ≤ q) a := fun a h => Nat.not_le.mpr h
  obtain ⟨adK, adV, hvk, hev⟩ := vk_Sof (args := #[Value.ref b]) (s := s) (N := 9) (tm := tmS) (len := strL) (byt := strB) (A := fun q : Nat => s.heap.size ≤ q) (fun i hi => by have := str_len i hi; omega) (fun i hi => hfl _ (fx1 i hi)) (fun i hi => hfl _ (fx2 i hi)) (fun i hi => hfl _ (fx3 i hi)) (fun i hi => hfl _ (fx4 i hi)) (fun i hi j hj => hfl _ (fx5 i hi j hj)) (fun i j hi hj hij => (fx6 i hi j hj hij).imp (hfl _) (hfl _)) hA
  have harr : ∀ t : FieldType, ∃ c : ClassId, (t = .int ∨ t = .byte ∨ t = .boolean ∨ t = .long ∨ t = .array .int) → ArrOfT s c t ∧ va_RA s c t := by
    intro t
    by_cases h : t = .int ∨ t = .byte ∨ t = .boolean ∨ t = .long ∨ t = .array .int
    · have prim : ∀ t' : FieldType, (Cond.arrayClass t').before #[Value.ref b] s = true → (∀ c, s.vm.findClass ("[" ++ t'.toString) = some c → va_RA s c t') → ∃ c : ClassId, ArrOfT s c t' ∧ va_RA s c t' := fun t' h1 h2 => by
        obtain ⟨c, k, comp, e1, e2, e3⟩ := Cond.arrayClass_spec h1
        exact ⟨c, fun n z => ⟨fun _ q => (by cases q), k, e2, comp, e3⟩, h2 c e1⟩
      rcases h with rfl | rfl | rfl | rfl | rfl
      · obtain ⟨c, hc⟩ := prim .int (hts _ (gd _ ka_int)) (fun c h => h); exact ⟨c, fun _ => hc⟩
      · obtain ⟨c, hc⟩ := prim .byte (hts _ (gd _ ka_byte)) (fun c h => h); exact ⟨c, fun _ => hc⟩
      · obtain ⟨c, hc⟩ := prim .boolean (hts _ (gd _ ka_boolean)) (fun c h => h); exact ⟨c, fun _ => hc⟩
      · obtain ⟨c, hc⟩ := prim .long (hts _ (gd _ ka_long)) (fun c h => h); exact ⟨c, fun _ => hc⟩
      · obtain ⟨c, k, comp, e1, e2, e3⟩ := over_spec hsO
        exact ⟨c, fun _ => ⟨fun n z => ⟨fun _ q => (by cases q), k, e2, comp, e3⟩, e1⟩⟩
    · exact ⟨0, fun q => absurd q h⟩
  obtain ⟨dA, hdA⟩ := Classical.axiomOfChoice harr
  refine ⟨(l, s.heap.size, (fun k => (dd k).1, fun k => (dd k).2), dA, adK, adV, false), rfl, rfl, ⟨hsO, ⟨fun k q hq => hdd k q hq, fun k q hq => ?_⟩, fun w hw => va_Nw.of (nest_on w hw) (hts w (List.mem_filter.mp hw).1), fun i q hq => ?_⟩, hvk, va_Zof (hts _ fxa.1) (hts _ fxa.2.2.1) (va_eqi (hfl _ fx7)) hA, va_Zqof (hts _ fxa.2.1) (hts _ fxa.2.2.2.1) (hfl _ fx8) hA⟩
  · match k, hq with
    | 0, hq => cases hq; exact hdA .int (Or.inl rfl)
    | 1, hq => cases hq; exact hdA .byte (Or.inr (Or.inl rfl))
    | 2, hq => cases hq; exact hdA .boolean (Or.inr (Or.inr (Or.inl rfl)))
    | 3, hq => cases hq; exact hdA .long (Or.inr (Or.inr (Or.inr (Or.inl rfl))))
    | 4, hq => cases hq; exact hdA (.array .int) (Or.inr (Or.inr (Or.inr (Or.inr rfl))))
    | k + 5, hq => simp [tysL] at hq
  · have hi : i < 9 := (List.getElem?_eq_some_iff.mp hq).1
    have e1 : strK.getD i (0, "", 0, []) = q := by rw [List.getD_eq_getElem?_getD, hq]; rfl
    have h1 := hts _ (fx9 i hi)
    have h2 := hev i hi
    unfold tmS at h2
    rw [e1] at h1 h2
    exact vk_R.of h1 h2
set_option maxRecDepth 100000 in
set_option maxHeartbeats 4000000 in
/-- THE LAW from its entry, over the told law -/
theorem whole_open {p : Program} {e : Env} {s : State} {m : MethodId} {below : List Frame} {meth : Method} {c : Code} (l : Launch) {b Ls F : Nat} {xs : Nat → Int32} (hpure : L_law F xs Ls (30, 31, 32, 34, 35, 36) [] SSL = some ()) (C0 : lw_At p s m meth c b Ls xs) : W p l e room_1 s m #[Value.ref b] below meth c s.heap [] 0 0 (lw_Z below #[Value.ref b] s) (entryFrame m ([Value.ref b] : List Value).toArray 4) := by
  obtain ⟨hx, hb, hr, hml, hown, hts, hXs, hbl, hlocks, hgv⟩ := C0
  obtain ⟨G, rfl, hG, hsX, hsV⟩ := start_G l hts hgv
  have hlaw := T_L_law (G := gS G true) rfl (mn_0 := meth.name) (b_0 := b) (Ls := Ls) (F := F) (xs := xs) (q_0 := (30, 31, 32, 34, 35, 36)) (x_0 := []) hpure
  have hG0 : gF (gS G false) = false := rfl
  have hgo : aW (gS G false) cL_law RL meth.name 4 (some .boolean) room_1 lawQ (lawX (gS G false) b Ls xs) 0 0 SS0 [(0, .ref b)] 0 [] := by
    refine a_new (tm := [.null, .int 0, .null, .null, .null, .null, .null, .null, .null, .null, .null, .null, .null, .null]) (gP_f hG0 _) dL_law_0 KX8 kl_RL_7 kt_RX8 ki_RX8 rfl (fun j hj => by rcases (show j = 0 ∨ j = 1 ∨ j = 2 ∨ j = 3 ∨ j = 4 ∨ j = 5 ∨ j = 6 ∨ j = 7 ∨ j = 8 ∨ j = 9 ∨ j = 10 ∨ j = 11 ∨ j = 12 ∨ j = 13 by omega) with rfl | rfl | rfl | rfl | rfl | rfl | rfl | rfl | rfl | rfl | rfl | rfl | rfl | rfl <;> rfl) (Nat.le_of_ble_eq_true rfl) (Nat.le_of_ble_eq_true rfl) ?_
    show aW (gS G false) cL_law RL meth.name 4 (some .boolean) room_1 lawQ (lawX (gS G false) b Ls xs) _ _ SS1 [(0, .ref b)] 3 [.ref (gP (gS G false) 0)]
    refine a_dupR dL_law_3 ?_
    refine a_callIV (As := []) dL_law_4 mX8_init kv_X8_init rfl km_RL_9 rfl (CT_X8_init_0 hG0) rfl (Nat.le_of_ble_eq_true rfl) (Nat.le_of_ble_eq_true rfl) ⟨(Nat.le_of_ble_eq_true rfl), (Nat.le_of_ble_eq_true rfl)⟩ (Nat.le_of_ble_eq_true rfl) ?_
    refine a_astore_n (L' := [(1, .ref (gP (gS G false) 0)), (0, .ref b)]) dL_law_7 (by decide) rfl ?_
    refine a_new (tm := [.long 0, .null, .int 0, .null, .null, .null, .null, .null, .null, .null, .null, .null, .int 0, .int 0, .int 0, .int 0, .int 0, .null, .null, .null, .null, .null, .null, .null, .null, .null, .null, .null, .null, .null, .null, .null, .null, .null, .null, .null, .int 0, .null]) (gP_f hG0 _) dL_law_8 KX9 kl_RL_10 kt_RX9 ki_RX9 rfl (fun j hj => by rcases (show j = 0 ∨ j = 1 ∨ j = 2 ∨ j = 3 ∨ j = 4 ∨ j = 5 ∨ j = 6 ∨ j = 7 ∨ j = 8 ∨ j = 9 ∨ j = 10 ∨ j = 11 ∨ j = 12 ∨ j = 13 ∨ j = 14 ∨ j = 15 ∨ j = 16 ∨ j = 17 ∨ j = 18 ∨ j = 19 ∨ j = 20 ∨ j = 21 ∨ j = 22 ∨ j = 23 ∨ j = 24 ∨ j = 25 ∨ j = 26 ∨ j = 27 ∨ j = 28 ∨ j = 29 ∨ j = 30 ∨ j = 31 ∨ j = 32 ∨ j = 33 ∨ j = 34 ∨ j = 35 ∨ j = 36 ∨ j = 37 by omega) with rfl | rfl | rfl | rfl | rfl | rfl | rfl | rfl | rfl | rfl | rfl | rfl | rfl | rfl | rfl | rfl | rfl | rfl | rfl | rfl | rfl | rfl | rfl | rfl | rfl | rfl | rfl | rfl | rfl | rfl | rfl | rfl | rfl | rfl | rfl | rfl | rfl | rfl <;> rfl) (Nat.le_of_ble_eq_true rfl) (Nat.le_of_ble_eq_true rfl) ?_
    show aW (gS G false) cL_law RL meth.name 4 (some .boolean) room_1 lawQ (lawX (gS G false) b Ls xs) _ _ SS162 [(1, .ref (gP (gS G false) 0)), (0, .ref b)] 11 [.ref (gP (gS G false) 57)]
    refine a_dupR dL_law_11 ?_
    refine a_callIV (As := []) dL_law_12 mX9_init kv_X9_init rfl km_RL_12 rfl (CT_X9_init_57 hG0) rfl (Nat.le_of_ble_eq_true rfl) (Nat.le_of_ble_eq_true rfl) ⟨(Nat.le_of_ble_eq_true rfl), (Nat.le_of_ble_eq_true rfl)⟩ (Nat.le_of_ble_eq_true rfl) ?_
    refine a_astore_n (L' := [(2, .ref (gP (gS G false) 57)), (1, .ref (gP (gS G false) 0)), (0, .ref b)]) dL_law_15 (by decide) rfl ?_
    refine a_widen (k' := 600) (n' := 1000000) (Nat.le_of_ble_eq_true rfl) (Nat.le_of_ble_eq_true rfl) ?_
    intro p9 e9 s9 m9 args9 below9 meth9 c9 C9 H9 locs9 ls9 hH9 hS9 hl9
    have hH8 : sH (gS G false) (mkPh, SS226.2) H9 := by rw [← SS_end]; exact hH9
    exact hlaw p9 e9 s9 m9 args9 below9 meth9 c9 C9 H9 locs9 ls9 (flipH G hH8) hS9 hl9
  rw [lg_entry_eq]
  refine hgo p e s m _ below meth c ⟨hx, hb, hr, hml, hown, fun w hw => hts w (List.mem_filter.mp hw).1, hlocks, rfl, hsX, hsV, Nat.le_of_eq hG, hG.symm, rfl, hXs, hbl⟩ s.heap [] _ ⟨fun k q hk => by simp [wsOf, SS0] at hk, hG.symm, fun k e hk => by simp [SS0] at hk⟩ va_S.rf (lv_entry [Value.ref b] (Nat.le_of_ble_eq_true rfl))
