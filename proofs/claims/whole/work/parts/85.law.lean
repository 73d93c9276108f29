theorem Stq.use {j : Nat} {q : qT} {x : List Nat} {X : Option (Int × sM)} {Y : sM → Option (Int × sM)} (h : Stq j q x X Y) {α : Type} (G : sM → Option α) : ∃ σ2, Inv j q x σ2 ∧ bn X (fun r σ1 => bn (Y σ1) (fun r' σ2 => if wi r = wi r' then G σ2 else none)) = G σ2 := by
  obtain ⟨r, σ1, r', σ2, e1, e2, e3, e4⟩ := h
  exact ⟨σ2, e4, by rw [e1, bn_some, e2, bn_some, if_pos e3]⟩
theorem StA.use {j : Nat} {X : Option (Int × qT × List Nat × sM)} {Y : sM → Option (Int × sM)} (h : StA j X Y) {α : Type} (G : qT × List Nat × sM → Option α) : ∃ q' x' σ2, Inv j q' x' σ2 ∧ bn X (fun r σ1 => bn (Y σ1.2.2) (fun r' σ2 => if wi r = wi r' then G (σ1.1, σ1.2.1, σ2) else none)) = G (q', x', σ2) := by
  obtain ⟨r, q', x', σ1, r', σ2, e1, e2, e3, e4⟩ := h
  exact ⟨q', x', σ2, e4, by rw [e1, bn_some]; simp only []; rw [e2, bn_some, if_pos e3]⟩
theorem lc0 (r : Int) : wi (q_lcmp r r) = 0 := by
  unfold q_lcmp; rw [if_neg (by omega), if_pos rfl]; decide
theorem StL.use {j : Nat} {q : qT} {x : List Nat} {X : Option (Int × sM)} {Y : sM → Option (Int × sM)} (h : StL j q x X Y) {α : Type} (G : sM → Option α) : ∃ σ2, Inv j q x σ2 ∧ bn X (fun r σ1 => bn (Y σ1) (fun r' σ2 => if wi (q_lcmp r r') = 0 then G σ2 else none)) = G σ2 := by
  obtain ⟨r, σ1, σ2, e1, e2, e4⟩ := h
  exact ⟨σ2, e4, by rw [e1, bn_some, e2, bn_some, if_pos (lc0 r)]⟩
theorem q_use {X Y : Option Int} (h : ∃ r, X = some r ∧ Y = some r) {α : Type} (G : Option α) : bp X (fun r => bp Y (fun r' => if wi r = wi r' then G else none)) = G := by
  obtain ⟨r, e1, e2⟩ := h
  rw [e1, bp_some, e2, bp_some, if_pos rfl]
theorem ql_use {X Y : Option Int} (h : ∃ r, X = some r ∧ Y = some r) {α : Type} (G : Option α) : bp X (fun r => bp Y (fun r' => if wi (q_lcmp r r') = 0 then G else none)) = G := by
  obtain ⟨r, e1, e2⟩ := h
  rw [e1, bp_some, e2, bp_some, if_pos (lc0 r)]
theorem sum_flt (p : Nat → Bool) : ∀ l : List Nat, (l.filter p).sum ≤ l.sum
  | [] => Nat.le_refl _
  | a :: l => by
    have ih := sum_flt p l
    rw [List.filter_cons]
    split
    · rw [List.sum_cons, List.sum_cons]; omega
    · rw [List.sum_cons]; omega
theorem Inv.room {j : Nat} {q : qT} {x : List Nat} {σ : sM} (h : Inv j q x σ) : x.length ≤ 500 ∧ x.sum ≤ 950000 := by
  obtain ⟨c, t, a, s, p, g, k, l, h⟩ := h
  obtain ⟨r, p, st, r', p', st', P, P', h1, h2, h3, h4, h5, h6⟩ := h.2.2.2.2.2.2.2.2.1
  have kc : ∀ n, kC n ≤ 24 := fun n => Nat.le_trans (List.length_filter_le _ _) (by decide)
  have ks : ∀ n, kS n ≤ 157248 := fun n => Nat.le_trans (sum_flt _ _) (by decide)
  have a1 := kc (lnA P x)
  have a2 := kc (lnA P' x)
  have a3 := ks (lnA P x)
  have a4 := ks (lnA P' x)
  omega
theorem shr0 : Shr d0 (shC 29) SSL := by
  unfold Shr; decide +kernel
theorem shr1 : Shr d0 (shC 33) SSL := by
  unfold Shr; decide +kernel
theorem inv0 : Inv 1 (30, 31, 32, 34, 35, 36) [] SSL := by
  refine ⟨d0, 0, 0, 0, 0, 0, 0, 1, d0_ok, ⟨by decide +kernel, by decide +kernel, by decide +kernel, by decide +kernel, by decide +kernel, fun w hw => absurd hw (by show ¬ w < 0; omega), by decide +kernel, fun i hi => absurd hi (by show ¬ i < 0; omega)⟩, ⟨by decide +kernel, by decide +kernel, by decide +kernel, by decide +kernel, fun w hw => absurd hw (by show ¬ w < 0; omega), by decide +kernel, fun i hi => absurd hi (by show ¬ i < 0; omega)⟩, ?_, ⟨by decide +kernel, by decide +kernel, by decide +kernel, by decide +kernel, by decide +kernel, fun w hw => absurd hw (by show ¬ w < 0; omega)⟩, ⟨⟨by decide, by decide⟩, by decide, by decide, Or.inl rfl⟩, ⟨0, by omega, by decide +kernel, by decide +kernel, fun i hi => absurd hi (by omega)⟩, ?_, ?_, Or.inl (by decide +kernel), ?_, by decide +kernel⟩
  · unfold WX; decide +kernel
  · intro i hi
    rcases (show i = 0 ∨ i = 1 by omega) with rfl | rfl
    · exact ⟨0, by decide +kernel, by decide +kernel, Or.inl rfl⟩
    · exact ⟨0, by decide +kernel, by decide +kernel, Or.inl rfl⟩
  · have hX : RelX d0 SSL := ⟨by decide +kernel, by decide +kernel, by decide +kernel, by decide +kernel, by decide +kernel, fun w hw => absurd hw (by show ¬ w < 0; omega), by decide +kernel, fun i hi => absurd hi (by show ¬ i < 0; omega)⟩
    refine ⟨0, 0, 1, 0, 0, 1, 30, 34, rfl, ⟨by omega, by omega, by omega, Or.inl rfl, rfl, rfl, by decide, hX, by decide +kernel, by decide +kernel, ⟨by decide +kernel, shr0⟩, by decide +kernel, fun i hi => absurd hi (by show ¬ i < 0; omega), fun i hi => absurd hi (by show ¬ i < 0; omega), fun i hi => absurd hi (by show ¬ i < 0; omega)⟩, ⟨by omega, by omega, by omega, Or.inl rfl, rfl, rfl, by decide, hX, by decide +kernel, by decide +kernel, ⟨by decide +kernel, shr1⟩, by decide +kernel, fun i hi => absurd hi (by show ¬ i < 0; omega), fun i hi => absurd hi (by show ¬ i < 0; omega), fun i hi => absurd hi (by show ¬ i < 0; omega)⟩, by omega, Nat.zero_le _, Nat.zero_le _⟩
  · exact Th_new 0 (Or.inr ⟨rfl, rfl⟩) (by decide +kernel) (by decide +kernel) (by decide +kernel) (by decide +kernel)
theorem pure_law (xs : Nat → Int32) {Ls : Nat} (h : Ls ≤ 2560) : ∃ F, L_law F xs Ls (30, 31, 32, 34, 35, 36) [] SSL = some () := by
  refine ⟨1000000, ?_⟩
  have hF : 1000000 ≤ (1000000 : Nat) := Nat.le_refl _
  generalize hFF : (1000000 : Nat) = F
  rw [hFF] at hF
  have hF' : 1000000 ≤ F := by omega
  unfold L_law
  refine lp_ms (fun y : (qT × List Nat × sM) × Int => ∃ k : Nat, y.2 = ((5 * k : Nat) : Int) ∧ k ≤ 512 ∧ Inv (1 + 20 * k) y.1.1 y.1.2.1 y.1.2.2) (fun y => 2565 - y.2.toNat) (fun o => o = some ()) (fun y hI K => ?_) F _ ⟨0, rfl, by omega, inv0⟩ (by simp only []; omega)
  obtain ⟨⟨q, x, σ⟩, v⟩ := y
  obtain ⟨k, hv, hk, hi⟩ := hI
  simp only [] at hv hi ⊢
  subst hv
  rw [if_pos hi.room, wi_id (z := (Ls : Int) - 5) (by omega) (by omega), wiN (n := 5 * k) (by omega)]
  by_cases z : (Ls : Int) - 5 < ((5 * k : Nat) : Int)
  · right; rw [if_pos z]
  left
  rw [if_neg z, if_pos (show 0 ≤ ((5 * k : Nat) : Int) ∧ ((5 * k : Nat) : Int) < (Ls : Int) by omega), jn_def]
  have hw : ∀ m : Nat, m < 5 → 0 ≤ wi (((5 * k : Nat) : Int) + (m : Int)) ∧ wi (((5 * k : Nat) : Int) + (m : Int)) < (Ls : Int) := fun m hm => by rw [wi_id (by omega) (by omega)]; omega
  have g1 := hw 1 (by omega)
  have g2 := hw 2 (by omega)
  have g3 := hw 3 (by omega)
  have g4 := hw 4 (by omega)
  rw [show ((1 : Nat) : Int) = 1 from rfl] at g1
  rw [show ((2 : Nat) : Int) = 2 from rfl] at g2
  rw [show ((3 : Nat) : Int) = 3 from rfl] at g3
  rw [show ((4 : Nat) : Int) = 4 from rfl] at g4
  simp only [if_pos g1, if_pos g2, if_pos g3, if_pos g4]
  have hv1 := wi_ti (xs (wi (((5 * k : Nat) : Int) + 1)).toNat)
  have hv2 := wi_ti (xs (wi (((5 * k : Nat) : Int) + 2)).toNat)
  have hv3 := wi_ti (xs (wi (((5 * k : Nat) : Int) + 3)).toNat)
  have hv4 := wi_ti (xs (wi (((5 * k : Nat) : Int) + 4)).toNat)
  generalize (xs (wi (((5 * k : Nat) : Int) + 1)).toNat).toInt = v1 at *
  generalize (xs (wi (((5 * k : Nat) : Int) + 2)).toNat).toInt = v2 at *
  generalize (xs (wi (((5 * k : Nat) : Int) + 3)).toNat).toInt = v3 at *
  generalize (xs (wi (((5 * k : Nat) : Int) + 4)).toNat).toInt = v4 at *
  generalize wi (q_and ((xs (((5 * k : Nat) : Int)).toNat).toInt) 31) = z
  have fin : ∀ (o : Option Unit) (q' : qT) (x' : List Nat) (σ' : sM), Inv (1 + 20 * k + 20) q' x' σ' → o = K ((q', x', σ'), ((5 * k : Nat) : Int) + 5) → ∃ x'' : (qT × List Nat × sM) × Int, (∃ k : Nat, x''.2 = ((5 * k : Nat) : Int) ∧ k ≤ 512 ∧ Inv (1 + 20 * k) x''.1.1 x''.1.2.1 x''.1.2.2) ∧ 2565 - x''.2.toNat < 2565 - (((5 * k : Nat) : Int)).toNat ∧ o = K x'' := by
    intro o q' x' σ' hi' ho
    refine ⟨_, ⟨k + 1, ?_, by omega, hi'⟩, ?_, ho⟩
    · simp only []; omega
    · simp only []; omega
  obtain ⟨c, t, a, s, p, g, kk, l, hJ⟩ := id hi
  by_cases z0 : z = 0
  · rw [if_pos z0]
    obtain ⟨σ2, hi2, e⟩ := (s_type (F := F) hJ (by omega) _ v3 hv3).use (fun σ2 => K ((q, x, σ2), ((5 * k : Nat) : Int) + 5))
    exact fin _ _ _ _ (hi2.mono (by omega)) e
  rw [if_neg z0]
  by_cases z1 : z = 1
  · rw [if_pos z1]
    obtain ⟨σ2, hi2, e⟩ := (s_clear hJ).use (fun σ2 => K ((q, x, σ2), ((5 * k : Nat) : Int) + 5))
    exact fin _ _ _ _ (hi2.mono (by omega)) e
  rw [if_neg z1]
  by_cases z2 : z = 2
  · rw [if_pos z2]
    obtain ⟨σ2, hi2, e⟩ := (s_cellar (F := F) hJ (by omega)).use (fun σ2 => K ((q, x, σ2), ((5 * k : Nat) : Int) + 5))
    exact fin _ _ _ _ (hi2.mono (by omega)) e
  rw [if_neg z2]
  by_cases z3 : z = 3
  · rw [if_pos z3]
    exact fin _ _ _ _ (hi.mono (by omega)) (q_use (s_sort hJ v1 v2 hv1 hv2) (K ((q, x, σ), ((5 * k : Nat) : Int) + 5)))
  rw [if_neg z3]
  by_cases z4 : z = 4
  · rw [if_pos z4]
    exact fin _ _ _ _ (hi.mono (by omega)) (q_use (s_wheel hJ v1 v2 hv1 hv2) (K ((q, x, σ), ((5 * k : Nat) : Int) + 5)))
  rw [if_neg z4]
  by_cases z5 : z = 5
  · rw [if_pos z5]
    exact fin _ _ _ _ (hi.mono (by omega)) (q_use (s_week hJ v1 v2 hv1 hv2) (K ((q, x, σ), ((5 * k : Nat) : Int) + 5)))
  rw [if_neg z5]
  by_cases z6 : z = 6
  · rw [if_pos z6]
    obtain ⟨σ2, hi2, e⟩ := (s_place hJ v1 v2 v3 hv1 hv2 hv3).use (fun σ2 => K ((q, x, σ2), ((5 * k : Nat) : Int) + 5))
    exact fin _ _ _ _ (hi2.mono (by omega)) e
  rw [if_neg z6]
  by_cases z7 : z = 7
  · rw [if_pos z7]
    obtain ⟨σ2, hi2, e⟩ := (s_eat (F := F) hJ (by omega) v1 hv1).use (fun σ2 => K ((q, x, σ2), ((5 * k : Nat) : Int) + 5))
    exact fin _ _ _ _ (hi2.mono (by omega)) e
  rw [if_neg z7]
  by_cases z8 : z = 8
  · rw [if_pos z8]
    obtain ⟨σ2, hi2, e⟩ := (s_sell (F := F) hJ (by omega) v1 hv1).use (fun σ2 => K ((q, x, σ2), ((5 * k : Nat) : Int) + 5))
    exact fin _ _ _ _ (hi2.mono (by omega)) e
  rw [if_neg z8]
  by_cases z9 : z = 9
  · rw [if_pos z9]
    obtain ⟨σ2, hi2, e⟩ := (s_stop hJ v1 hv1).use (fun σ2 => K ((q, x, σ2), ((5 * k : Nat) : Int) + 5))
    exact fin _ _ _ _ (hi2.mono (by omega)) e
  rw [if_neg z9]
  by_cases z10 : z = 10
  · rw [if_pos z10]
    obtain ⟨σ2, hi2, e⟩ := (s_next (F := F) hJ (by omega)).use (fun σ2 => K ((q, x, σ2), ((5 * k : Nat) : Int) + 5))
    exact fin _ _ _ _ (hi2.mono (by omega)) e
  rw [if_neg z10]
  by_cases z11 : z = 11
  · rw [if_pos z11]
    exact fin _ _ _ _ (hi.mono (by omega)) (q_use (s_now (F := F) hJ (by omega) v1 hv1) (K ((q, x, σ), ((5 * k : Nat) : Int) + 5)))
  rw [if_neg z11]
  by_cases z12 : z = 12
  · rw [if_pos z12]
    obtain ⟨σ2, hi2, e⟩ := (s_lot hJ v1).use (fun σ2 => K ((q, x, σ2), ((5 * k : Nat) : Int) + 5))
    exact fin _ _ _ _ (hi2.mono (by omega)) e
  rw [if_neg z12]
  by_cases z13 : z = 13
  · rw [if_pos z13]
    obtain ⟨q2, x2, σ2, hi2, e⟩ := (s_value (F := F) hJ (by omega) (by omega) v1 hv1).use (fun y => K ((y.1, y.2.1, y.2.2), ((5 * k : Nat) : Int) + 5))
    exact fin _ _ _ _ hi2 e
  rw [if_neg z13]
  by_cases z14 : z = 14
  · rw [if_pos z14]
    obtain ⟨q2, x2, σ2, hi2, e⟩ := (s_left (F := F) hJ (by omega) (by omega) v1 hv1).use (fun y => K ((y.1, y.2.1, y.2.2), ((5 * k : Nat) : Int) + 5))
    exact fin _ _ _ _ hi2 e
  rw [if_neg z14]
  by_cases z15 : z = 15
  · rw [if_pos z15]
    obtain ⟨q2, x2, σ2, hi2, e⟩ := (s_choice (F := F) hJ (by omega) (by omega) v1 hv1).use (fun y => K ((y.1, y.2.1, y.2.2), ((5 * k : Nat) : Int) + 5))
    exact fin _ _ _ _ hi2 e
  rw [if_neg z15]
  by_cases z16 : z = 16
  · rw [if_pos z16]
    obtain ⟨q2, x2, σ2, hi2, e⟩ := (s_brings (F := F) hJ (by omega) (by omega) v1 hv1).use (fun y => K ((y.1, y.2.1, y.2.2), ((5 * k : Nat) : Int) + 5))
    exact fin _ _ _ _ hi2 e
  rw [if_neg z16]
  by_cases z17 : z = 17
  · rw [if_pos z17]
    obtain ⟨q2, x2, σ2, hi2, e⟩ := (s_play (F := F) hJ (by omega) (by omega) v1 hv1).use (fun y => K ((y.1, y.2.1, y.2.2), ((5 * k : Nat) : Int) + 5))
    exact fin _ _ _ _ hi2 e
  rw [if_neg z17]
  by_cases z18 : z = 18
  · rw [if_pos z18]
    obtain ⟨σ2, hi2, e⟩ := (s_blind (F := F) hJ (by omega) v1 hv1).use (fun σ2 => K ((q, x, σ2), ((5 * k : Nat) : Int) + 5))
    exact fin _ _ _ _ (hi2.mono (by omega)) e
  rw [if_neg z18]
  by_cases z19 : z = 19
  · rw [if_pos z19]
    obtain ⟨q2, x2, σ2, hi2, e⟩ := (s_know (F := F) hJ (by omega) (by omega)).use (fun y => K ((y.1, y.2.1, y.2.2), ((5 * k : Nat) : Int) + 5))
    exact fin _ _ _ _ hi2 e
  rw [if_neg z19]
  by_cases z20 : z = 20
  · rw [if_pos z20]
    obtain ⟨q2, x2, σ2, hi2, e⟩ := (s_spare (F := F) hJ (by omega) (by omega) v1 hv1).use (fun y => K ((y.1, y.2.1, y.2.2), ((5 * k : Nat) : Int) + 5))
    exact fin _ _ _ _ hi2 e
  rw [if_neg z20]
  by_cases z21 : z = 21
  · rw [if_pos z21]
    obtain ⟨σ2, hi2, e⟩ := (s_stands (F := F) hJ (by omega) v1 v2 v3 v4 hv1 hv2 hv3 hv4).use (fun σ2 => K ((q, x, σ2), ((5 * k : Nat) : Int) + 5))
    exact fin _ _ _ _ (hi2.mono (by omega)) e
  rw [if_neg z21]
  by_cases z22 : z = 22
  · rw [if_pos z22]
    obtain ⟨σ2, hi2, e⟩ := (s_thought (F := F) hJ (by omega) v1 hv1).use (fun σ2 => K ((q, x, σ2), ((5 * k : Nat) : Int) + 5))
    exact fin _ _ _ _ (hi2.mono (by omega)) e
  rw [if_neg z22]
  by_cases z23 : z = 23
  · rw [if_pos z23]
    obtain ⟨σ2, hi2, e⟩ := (s_aged (F := F) hJ (by omega)).use (fun σ2 => K ((q, x, σ2), ((5 * k : Nat) : Int) + 5))
    exact fin _ _ _ _ (hi2.mono (by omega)) e
  rw [if_neg z23]
  by_cases z24 : z = 24
  · rw [if_pos z24]
    obtain ⟨σ2, hi2, e⟩ := (s_shown (F := F) hJ (by omega) v1 hv1).use (fun σ2 => K ((q, x, σ2), ((5 * k : Nat) : Int) + 5))
    exact fin _ _ _ _ (hi2.mono (by omega)) e
  rw [if_neg z24]
  by_cases z25 : z = 25
  · rw [if_pos z25]
    exact fin _ _ _ _ (hi.mono (by omega)) (ql_use (s_thinks (F := F) hJ (by omega) v1 v2 hv1 hv2) (K ((q, x, σ), ((5 * k : Nat) : Int) + 5)))
  rw [if_neg z25]
  by_cases z26 : z = 26
  · rw [if_pos z26]
    obtain ⟨σ2, hi2, e⟩ := (s_note hJ v1 v2 hv1 hv2).use (fun σ2 => K ((q, x, σ2), ((5 * k : Nat) : Int) + 5))
    exact fin _ _ _ _ (hi2.mono (by omega)) e
  rw [if_neg z26]
  by_cases z27 : z = 27
  · rw [if_pos z27]
    obtain ⟨σ2, hi2, e⟩ := (s_keep (F := F) hJ (by omega) v1 hv1).use (fun σ2 => K ((q, x, σ2), ((5 * k : Nat) : Int) + 5))
    exact fin _ _ _ _ (hi2.mono (by omega)) e
  rw [if_neg z27]
  by_cases z28 : z = 28
  · rw [if_pos z28]
    obtain ⟨σ2, hi2, e⟩ := (s_back (F := F) hJ (by omega) v1 hv1).use (fun σ2 => K ((q, x, σ2), ((5 * k : Nat) : Int) + 5))
    exact fin _ _ _ _ (hi2.mono (by omega)) e
  rw [if_neg z28]
  by_cases z29 : z = 29
  · rw [if_pos z29]
    exact fin _ _ _ _ (hi.mono (by omega)) (q_use (s_count hJ v1) (K ((q, x, σ), ((5 * k : Nat) : Int) + 5)))
  rw [if_neg z29]
  by_cases z30 : z = 30
  · rw [if_pos z30]
    exact fin _ _ _ _ (hi.mono (by omega)) (ql_use (s_trace hJ) (K ((q, x, σ), ((5 * k : Nat) : Int) + 5)))
  rw [if_neg z30]
  exact fin _ _ _ _ (hi.mono (by omega)) rfl
