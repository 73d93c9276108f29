def fO (σ σ' : sM) : Prop := ∀ k, k < 29 ∨ (36 < k ∧ k < 86) → σ' k = σ k
theorem fO.refl (σ : sM) : fO σ σ := fun _ _ => rfl
theorem fO.trans {a b d : sM} (h : fO a b) (h2 : fO b d) : fO a d := fun k hk => by rw [h2 k hk, h k hk]
def Me29 (c : cC) (j r p : Nat) (q : qT) (x : List Nat) (σ : sM) : Prop := ∃ st r' p' st' P P', q = (P, P + 1, P + 2, P', P' + 1, P' + 2) ∧ MO c j r p st 29 P x σ ∧ MO c j r' p' st' 33 P' x σ ∧ (P + 3 ≤ P' ∨ P' + 3 ≤ P) ∧ x.length ≤ 3 * (kC (lnA P x) + kC (lnA P' x)) ∧ x.sum ≤ 3 * (kS (lnA P x) + kS (lnA P' x)) ∧ 8 * un c 3 ≤ lnA P x
def Me33 (c : cC) (j r p : Nat) (q : qT) (x : List Nat) (σ : sM) : Prop := ∃ st r' p' st' P P', q = (P, P + 1, P + 2, P', P' + 1, P' + 2) ∧ MO c j r' p' st' 29 P x σ ∧ MO c j r p st 33 P' x σ ∧ (P + 3 ≤ P' ∨ P' + 3 ≤ P) ∧ x.length ≤ 3 * (kC (lnA P x) + kC (lnA P' x)) ∧ x.sum ≤ 3 * (kS (lnA P x) + kS (lnA P' x)) ∧ 8 * un c 3 ≤ lnA P' x
theorem flt_mono (L : List Nat) {n m : Nat} (h : n ≤ m) : (L.filter (fun z => decide (z ≤ n))).sum ≤ (L.filter (fun z => decide (z ≤ m))).sum ∧ (L.filter (fun z => decide (z ≤ n))).length ≤ (L.filter (fun z => decide (z ≤ m))).length := by
  induction L with
  | nil => exact ⟨Nat.le_refl _, Nat.le_refl _⟩
  | cons a L ih =>
    obtain ⟨i1, i2⟩ := ih
    rw [List.filter_cons, List.filter_cons]
    by_cases q1 : a ≤ n
    · rw [if_pos (decide_eq_true q1), if_pos (decide_eq_true (by omega)), List.sum_cons, List.sum_cons, List.length_cons, List.length_cons]
      exact ⟨by omega, by omega⟩
    · rw [if_neg (by rw [decide_eq_true_eq]; exact q1)]
      by_cases q2 : a ≤ m
      · rw [if_pos (decide_eq_true q2), List.sum_cons, List.length_cons]
        exact ⟨by omega, by omega⟩
      · rw [if_neg (by rw [decide_eq_true_eq]; exact q2)]
        exact ⟨i1, i2⟩
theorem kS_up {m : Nat} (hm : m ∈ szL) {n : Nat} (h : n < m) : kS n + m ≤ kS m ∧ kC n + 1 ≤ kC m := by
  have h1 : ∀ z ∈ szL, kS (z - 1) + z ≤ kS z ∧ kC (z - 1) + 1 ≤ kC z := by decide +kernel
  obtain ⟨a, b⟩ := h1 m hm
  obtain ⟨d, e⟩ := flt_mono szL (show n ≤ m - 1 by omega)
  unfold kS kC at *
  exact ⟨by omega, by omega⟩
theorem kz_room {c : cC} (hc : OkC c) : 8 * un c 3 ≤ 32768 ∧ 8 * un c 3 ∈ szL := by
  rw [un3]
  have key : ∀ a, a < 4 → ∀ b, b < 4 → ∀ d, d < 4 → 8 * ((4 * a + 1) * (4 * b + 1) * (4 * d + 1)) ≤ 32768 ∧ szL.elem (8 * ((4 * a + 1) * (4 * b + 1) * (4 * d + 1))) = true := by decide +kernel
  have h0 := cZ_le hc 0
  have h1 := cZ_le hc 1
  have h2 := cZ_le hc 2
  obtain ⟨k1, k2⟩ := key _ (show cZ c 0 < 4 by omega) _ (show cZ c 1 < 4 by omega) _ (show cZ c 2 < 4 by omega)
  exact ⟨k1, List.elem_iff.mp k2⟩
theorem okA_of {P : Nat} {x : List Nat} (h : P = 30 ∨ P = 31 ∨ P = 32 ∨ P = 34 ∨ P = 35 ∨ P = 36 ∨ 88 ≤ P ∧ P < 88 + x.length) : okA P x = true := by
  unfold okA
  simp only [Bool.or_eq_true, Bool.and_eq_true, beq_iff_eq, decide_eq_true_eq]
  omega
theorem lnA_app {R : Nat} {x y : List Nat} (h : R < 88 + x.length) : lnA R (x ++ y) = lnA R x := by
  unfold lnA
  by_cases q : R < 88
  · rw [if_pos q, if_pos q]
  · rw [if_neg q, if_neg q, List.getD_eq_getElem?_getD, List.getD_eq_getElem?_getD, List.getElem?_append_left (by omega)]
theorem lnA_new {x : List Nat} {m : Nat} : lnA (88 + x.length) (x ++ [m]) = m := by
  unfold lnA
  rw [if_neg (by omega), show 88 + x.length - 88 = x.length by omega, List.getD_eq_getElem?_getD, List.getElem?_append_right (Nat.le_refl _), Nat.sub_self]
  rfl
theorem sUc_at {σ : sM} {k j : Nat} {f : Nat → Int} : sUc σ k f k j = f j := by unfold sUc; rw [if_pos rfl]
theorem okO_of {P : Nat} {x : List Nat} (h : P = 30 ∨ P = 34 ∨ 88 ≤ P ∧ P + 3 ≤ 88 + x.length) (h1 : lnA (P + 1) x = lnA P x) (h2 : lnA (P + 2) x = lnA P x) : okO P (P + 1) (P + 2) x = true := by
  unfold okO
  rw [okA_of (P := P) (by omega), okA_of (P := P + 1) (by omega), okA_of (P := P + 2) (by omega), h1, h2, beq_self_eq_true]
  rfl
theorem e_look29 {c : cC} {j : Nat} {q : qT} {x : List Nat} {σ : sM} (hc : OkC c) (h : Me c j q x σ) {r p : Nat} (hr : r ≤ 4) (hp : p < 8) : ∃ q' x' σ', X3_lookBy29 q x σ (r : Int) (p : Int) = some (0, (q', x', σ')) ∧ fO σ σ' ∧ Me29 c (j + 1) r p q' x' σ' := by
  obtain ⟨r0, p0, st0, r1, p1, st1, P, P', hq, hA, hB, hsep, hlen, hsum⟩ := h
  subst hq
  obtain ⟨a1, a2, a3, a4, a5, a6, a7, a8⟩ := id hA
  obtain ⟨m1, m2, m3, m4, m5, m6, m7, m8⟩ := id a8
  have c3 := hc.2.1
  have c5 := hc.2.2.1
  have g2 := hA.2.2.2.1
  have g3 := hB.2.2.2.1
  have k1 := kz_room hc
  -- the stamp, the rule and the wheels stopped
  obtain ⟨st, σa, hst, e1, f1, hMI⟩ : ∃ st σa, (1 ≤ st ∧ st ≤ j + 1) ∧ (∀ J : (qT × List Nat × sM) → Option (Int × qT × List Nat × sM), (jn J (fun K2 => jn (fun _ : Unit => K2 ((P, P + 1, P + 2, P', P' + 1, P' + 2), x, sU σ 29 5 (σ 29 5 + 1))) (fun K14 => if ¬ wi (r : Int) = wi (σ 29 1) then K14 () else if wi (p : Int) = wi (σ 29 2) then K2 ((P, P + 1, P + 2, P', P' + 1, P' + 2), x, σ) else K14 ()))) = J ((P, P + 1, P + 2, P', P' + 1, P' + 2), x, σa)) ∧ (∀ k, k ≠ 29 → sU (sU σa 29 1 (r : Int)) 29 2 (p : Int) k = σ k) ∧ MI c r p st 29 P (P + 1) (P + 2) (lnA P x) (sU (sU σa 29 1 (r : Int)) 29 2 (p : Int)) := by
    simp only [jn_def]
    rw [m2, m3, wiN (n := r) (by omega), wiN (n := p) (by omega), wiN (n := r0) (by omega), wiN (n := p0) (by omega)]
    by_cases z : r = r0 ∧ p = p0
    · obtain ⟨z1, z2⟩ := z
      subst z1 z2
      refine ⟨st0, σ, by omega, fun K => ?_, fun k hk => by rw [sU_ne hk, sU_ne hk], m1.congr hc (fun k b1 b2 => by rw [sU_ne (by omega), sU_ne (by omega)]), ?_, ?_, ?_, ?_, ?_, ?_, ?_⟩
      · rw [if_neg (by omega), if_pos rfl]
      · rw [sUnj (by omega), sUv]
      · rw [sUv]
      · exact ⟨by rw [sUnj (by omega), sUnj (by omega)]; exact m4.1, m4.2.congr (by rw [sU_ne (by decide), sU_ne (by decide)])⟩
      · rw [sUnj (by omega), sUnj (by omega)]; exact m5
      · intro i hi; rw [sU_ne (by omega), sU_ne (by omega)]; exact m6 i hi
      · intro i hi; rw [sU_ne (by omega), sU_ne (by omega)]; exact m7 i hi
      · intro i hi; rw [sU_ne (by omega), sU_ne (by omega)]; exact m8 i hi
    · have nw : ∀ (R : Nat) (S S' : Nat → Nat → Prop), R ≠ 29 → Ent σ R (lnA P x) st0 S → Ent (sU (sU (sU σ 29 5 (σ 29 5 + 1)) 29 1 (r : Int)) 29 2 (p : Int)) R (lnA P x) (st0 + 1) S' := by
        intro R S S' hR hE i hi
        obtain ⟨a, b, d1, d2, d3, d4⟩ := hE i hi
        exact ⟨a, b, by rw [sU_ne hR, sU_ne hR, sU_ne hR]; exact d1, d2, by omega, fun h => by omega⟩
      refine ⟨st0 + 1, sU σ 29 5 (σ 29 5 + 1), by omega, fun K => ?_, fun k hk => by rw [sU_ne hk, sU_ne hk, sU_ne hk], m1.congr hc (fun k b1 b2 => by rw [sU_ne (by omega), sU_ne (by omega), sU_ne (by omega)]), ?_, ?_, ?_, ?_, ?_, ?_, ?_⟩
      · by_cases z1 : r = r0
        · rw [if_neg (by omega), if_neg (by omega)]
        · rw [if_pos (by omega)]
      · rw [sUnj (by omega), sUv]
      · rw [sUv]
      · exact ⟨by rw [sUnj (by omega), sUnj (by omega), sUnj (by omega)]; exact m4.1, m4.2.congr (by rw [sU_ne (by decide), sU_ne (by decide), sU_ne (by decide)])⟩
      · rw [sUnj (by omega), sUnj (by omega), sUv, m5]; omega
      · exact nw P _ _ (by omega) m6
      · exact nw (P + 1) _ _ (by omega) m7
      · exact nw (P + 2) _ _ (by omega) m8
  have okA0 : okA P x = true := okA_of (by omega)
  unfold X3_lookBy29
  rw [e1]
  simp only [jn_def, nm_def]
  generalize sU (sU σa 29 1 (r : Int)) 29 2 (p : Int) = σb at *
  -- the room
  have hXb := hMI.1
  obtain ⟨b1, b2', b3, b4, b5, b6, b7, b8⟩ := id hMI
  have e8 : (8 : Int) * ((un c 3 : Nat) : Int) = ((8 * un c 3 : Nat) : Int) := by push_cast; rfl
  rw [b4.1, e8, wiN (n := 8 * un c 3) (by omega), wiN (n := lnA P x) (by omega), if_pos okA0]
  have hbS : fO σ σb := fun k hk => f1 k (by omega)
  by_cases zr : 8 * un c 3 ≤ lnA P x
  · refine ⟨_, _, σb, ?_, hbS, st, r1, p1, st1, P, P', rfl, ⟨hr, hp, hst, a4, a5, a6, a7, hMI⟩, (hB.mono (Nat.le_succ j)).congr hc (fun k d1 d2 => f1 k (by omega)) (f1 _ (by omega)) (f1 _ (by omega)) (f1 _ (by omega)) (f1 _ (by omega)) (f1 _ (by decide)), hsep, hlen, hsum, zr⟩
    rw [if_pos (by omega)]
  · rw [if_neg (by omega), if_pos (by omega), if_pos (by omega), if_pos (by omega), Int.toNat_natCast]
    generalize hm : 8 * un c 3 = m at *
    have hmem : m ∈ szL := k1.2
    have hkS := kS_up hmem (n := lnA P x) (by omega)
    have e86 : 88 + (x ++ [m]).length = 88 + x.length + 1 := by rw [List.length_append]; rfl
    have e87 : 88 + (x ++ [m] ++ [m]).length = 88 + x.length + 2 := by rw [List.length_append, List.length_append]; rfl
    have l3 : (x ++ [m] ++ [m] ++ [m]).length = x.length + 3 := by rw [List.length_append, List.length_append, List.length_append]; rfl
    have s3 : (x ++ [m] ++ [m] ++ [m]).sum = x.sum + 3 * m := by rw [List.sum_append, List.sum_append, List.sum_append]; show x.sum + (m + 0) + (m + 0) + (m + 0) = _; omega
    have lo : ∀ R, R < 88 + x.length → lnA R (x ++ [m] ++ [m] ++ [m]) = lnA R x := fun R hR => by rw [lnA_app (by rw [List.length_append, List.length_append]; omega), lnA_app (by rw [List.length_append]; omega), lnA_app hR]
    have n0 : lnA (88 + x.length) (x ++ [m] ++ [m] ++ [m]) = m := by rw [lnA_app (by rw [List.length_append, List.length_append]; show 88 + x.length < 88 + (x.length + 1 + 1); omega), lnA_app (by rw [List.length_append]; show 88 + x.length < 88 + (x.length + 1); omega), lnA_new]
    have n1 : lnA (88 + x.length + 1) (x ++ [m] ++ [m] ++ [m]) = m := by rw [lnA_app (by rw [List.length_append, List.length_append]; show 88 + x.length + 1 < 88 + (x.length + 1 + 1); omega), ← e86, lnA_new]
    have n2 : lnA (88 + x.length + 2) (x ++ [m] ++ [m] ++ [m]) = m := by rw [← e87, lnA_new]
    rw [e86, e87]
    have fr : ∀ k, k < 88 + x.length → sUc (sUc (sUc σb (88 + x.length) (fun _ => 0)) (88 + x.length + 1) (fun _ => 0)) (88 + x.length + 2) (fun _ => 0) k = σb k := fun k hk => by rw [sUc_ne (by omega), sUc_ne (by omega), sUc_ne (by omega)]
    have z0 : ∀ (τ : sM) (R : Nat) (S : Nat → Nat → Prop), (∀ i, τ R i = 0) → Ent τ R m st S := fun τ R S h0 i _ => ⟨0, 0, by rw [h0]; rfl, by omega, by omega, fun h => by omega⟩
    have hnew : MO c (j + 1) r p st 29 (88 + x.length) (x ++ [m] ++ [m] ++ [m]) (sUc (sUc (sUc σb (88 + x.length) (fun _ => 0)) (88 + x.length + 1) (fun _ => 0)) (88 + x.length + 2) (fun _ => 0)) := by
      refine ⟨hr, hp, hst, Or.inr ⟨by omega, by rw [l3]; omega⟩, by rw [n1, n0], by rw [n2, n0], by rw [n0]; omega, ?_⟩
      rw [n0]
      refine ⟨b1.congr hc (fun k d1 d2 => fr k (by omega)), by rw [fr 29 (by omega)]; exact b2', by rw [fr 29 (by omega)]; exact b3, ⟨by rw [fr 29 (by omega)]; exact b4.1, b4.2.congr (fr _ (by rw [shC29]; omega))⟩, by rw [fr 29 (by omega)]; exact b5, z0 _ _ _ (fun i => ?_), z0 _ _ _ (fun i => ?_), z0 _ _ _ (fun i => ?_)⟩
      · rw [sUc_ne (by omega), sUc_ne (by omega), sUc_at]
      · rw [sUc_ne (by omega), sUc_at]
      · rw [sUc_at]
    have hoth : MO c (j + 1) r1 p1 st1 33 P' (x ++ [m] ++ [m] ++ [m]) (sUc (sUc (sUc σb (88 + x.length) (fun _ => 0)) (88 + x.length + 1) (fun _ => 0)) (88 + x.length + 2) (fun _ => 0)) := by
      obtain ⟨y1, y2, y3, y4, y5, y6, y7, y8⟩ := hB
      refine ⟨y1, y2, ⟨y3.1, by omega⟩, by rw [l3]; omega, by rw [lo _ (by omega), lo _ (by omega)]; exact y5, by rw [lo _ (by omega), lo _ (by omega)]; exact y6, by rw [lo _ (by omega)]; exact y7, ?_⟩
      rw [lo _ (by omega)]
      exact y8.congr hc (fun k d1 d2 => by rw [fr k (by omega)]; exact f1 k (by omega)) (by rw [fr _ (by omega)]; exact f1 _ (by omega)) (by rw [fr _ (by omega)]; exact f1 _ (by omega)) (by rw [fr _ (by omega)]; exact f1 _ (by omega)) (by rw [fr _ (by omega)]; exact f1 _ (by omega)) (by rw [fr _ (by rw [shC33]; omega)]; exact f1 _ (by decide))
    refine ⟨_, _, _, rfl, fun k hk => by rw [fr k (by omega)]; exact hbS k hk, st, r1, p1, st1, 88 + x.length, P', rfl, hnew, hoth, by omega, ?_, ?_, ?_⟩
    · rw [l3, lo _ (show P' < 88 + x.length by omega), n0]; omega
    · rw [s3, lo _ (show P' < 88 + x.length by omega), n0]; omega
    · rw [n0, hm]; exact Nat.le_refl _
theorem e_look33 {c : cC} {j : Nat} {q : qT} {x : List Nat} {σ : sM} (hc : OkC c) (h : Me c j q x σ) {r p : Nat} (hr : r ≤ 4) (hp : p < 8) : ∃ q' x' σ', X3_lookBy33 q x σ (r : Int) (p : Int) = some (0, (q', x', σ')) ∧ fO σ σ' ∧ Me33 c (j + 1) r p q' x' σ' := by
  obtain ⟨r0, p0, st0, r1, p1, st1, P, P', hq, hA, hB, hsep, hlen, hsum⟩ := h
  subst hq
  obtain ⟨a1, a2, a3, a4, a5, a6, a7, a8⟩ := id hB
  obtain ⟨m1, m2, m3, m4, m5, m6, m7, m8⟩ := id a8
  have c3 := hc.2.1
  have c5 := hc.2.2.1
  have g2 := hA.2.2.2.1
  have g3 := hB.2.2.2.1
  have k1 := kz_room hc
  -- the stamp, the rule and the wheels stopped
  obtain ⟨st, σa, hst, e1, f1, hMI⟩ : ∃ st σa, (1 ≤ st ∧ st ≤ j + 1) ∧ (∀ J : (qT × List Nat × sM) → Option (Int × qT × List Nat × sM), (jn J (fun K2 => jn (fun _ : Unit => K2 ((P, P + 1, P + 2, P', P' + 1, P' + 2), x, sU σ 33 5 (σ 33 5 + 1))) (fun K14 => if ¬ wi (r : Int) = wi (σ 33 1) then K14 () else if wi (p : Int) = wi (σ 33 2) then K2 ((P, P + 1, P + 2, P', P' + 1, P' + 2), x, σ) else K14 ()))) = J ((P, P + 1, P + 2, P', P' + 1, P' + 2), x, σa)) ∧ (∀ k, k ≠ 33 → sU (sU σa 33 1 (r : Int)) 33 2 (p : Int) k = σ k) ∧ MI c r p st 33 P' (P' + 1) (P' + 2) (lnA P' x) (sU (sU σa 33 1 (r : Int)) 33 2 (p : Int)) := by
    simp only [jn_def]
    rw [m2, m3, wiN (n := r) (by omega), wiN (n := p) (by omega), wiN (n := r1) (by omega), wiN (n := p1) (by omega)]
    by_cases z : r = r1 ∧ p = p1
    · obtain ⟨z1, z2⟩ := z
      subst z1 z2
      refine ⟨st1, σ, by omega, fun K => ?_, fun k hk => by rw [sU_ne hk, sU_ne hk], m1.congr hc (fun k b1 b2 => by rw [sU_ne (by omega), sU_ne (by omega)]), ?_, ?_, ?_, ?_, ?_, ?_, ?_⟩
      · rw [if_neg (by omega), if_pos rfl]
      · rw [sUnj (by omega), sUv]
      · rw [sUv]
      · exact ⟨by rw [sUnj (by omega), sUnj (by omega)]; exact m4.1, m4.2.congr (by rw [sU_ne (by decide), sU_ne (by decide)])⟩
      · rw [sUnj (by omega), sUnj (by omega)]; exact m5
      · intro i hi; rw [sU_ne (by omega), sU_ne (by omega)]; exact m6 i hi
      · intro i hi; rw [sU_ne (by omega), sU_ne (by omega)]; exact m7 i hi
      · intro i hi; rw [sU_ne (by omega), sU_ne (by omega)]; exact m8 i hi
    · have nw : ∀ (R : Nat) (S S' : Nat → Nat → Prop), R ≠ 33 → Ent σ R (lnA P' x) st1 S → Ent (sU (sU (sU σ 33 5 (σ 33 5 + 1)) 33 1 (r : Int)) 33 2 (p : Int)) R (lnA P' x) (st1 + 1) S' := by
        intro R S S' hR hE i hi
        obtain ⟨a, b, d1, d2, d3, d4⟩ := hE i hi
        exact ⟨a, b, by rw [sU_ne hR, sU_ne hR, sU_ne hR]; exact d1, d2, by omega, fun h => by omega⟩
      refine ⟨st1 + 1, sU σ 33 5 (σ 33 5 + 1), by omega, fun K => ?_, fun k hk => by rw [sU_ne hk, sU_ne hk, sU_ne hk], m1.congr hc (fun k b1 b2 => by rw [sU_ne (by omega), sU_ne (by omega), sU_ne (by omega)]), ?_, ?_, ?_, ?_, ?_, ?_, ?_⟩
      · by_cases z1 : r = r1
        · rw [if_neg (by omega), if_neg (by omega)]
        · rw [if_pos (by omega)]
      · rw [sUnj (by omega), sUv]
      · rw [sUv]
      · exact ⟨by rw [sUnj (by omega), sUnj (by omega), sUnj (by omega)]; exact m4.1, m4.2.congr (by rw [sU_ne (by decide), sU_ne (by decide), sU_ne (by decide)])⟩
      · rw [sUnj (by omega), sUnj (by omega), sUv, m5]; omega
      · exact nw P' _ _ (by omega) m6
      · exact nw (P' + 1) _ _ (by omega) m7
      · exact nw (P' + 2) _ _ (by omega) m8
  have okA0 : okA P' x = true := okA_of (by omega)
  unfold X3_lookBy33
  rw [e1]
  simp only [jn_def, nm_def]
  generalize sU (sU σa 33 1 (r : Int)) 33 2 (p : Int) = σb at *
  -- the room
  have hXb := hMI.1
  obtain ⟨b1, b2', b3, b4, b5, b6, b7, b8⟩ := id hMI
  have e8 : (8 : Int) * ((un c 3 : Nat) : Int) = ((8 * un c 3 : Nat) : Int) := by push_cast; rfl
  rw [b4.1, e8, wiN (n := 8 * un c 3) (by omega), wiN (n := lnA P' x) (by omega), if_pos okA0]
  have hbS : fO σ σb := fun k hk => f1 k (by omega)
  by_cases zr : 8 * un c 3 ≤ lnA P' x
  · refine ⟨_, _, σb, ?_, hbS, st, r0, p0, st0, P, P', rfl, (hA.mono (Nat.le_succ j)).congr hc (fun k d1 d2 => f1 k (by omega)) (f1 _ (by omega)) (f1 _ (by omega)) (f1 _ (by omega)) (f1 _ (by omega)) (f1 _ (by decide)), ⟨hr, hp, hst, a4, a5, a6, a7, hMI⟩, hsep, hlen, hsum, zr⟩
    rw [if_pos (by omega)]
  · rw [if_neg (by omega), if_pos (by omega), if_pos (by omega), if_pos (by omega), Int.toNat_natCast]
    generalize hm : 8 * un c 3 = m at *
    have hmem : m ∈ szL := k1.2
    have hkS := kS_up hmem (n := lnA P' x) (by omega)
    have e86 : 88 + (x ++ [m]).length = 88 + x.length + 1 := by rw [List.length_append]; rfl
    have e87 : 88 + (x ++ [m] ++ [m]).length = 88 + x.length + 2 := by rw [List.length_append, List.length_append]; rfl
    have l3 : (x ++ [m] ++ [m] ++ [m]).length = x.length + 3 := by rw [List.length_append, List.length_append, List.length_append]; rfl
    have s3 : (x ++ [m] ++ [m] ++ [m]).sum = x.sum + 3 * m := by rw [List.sum_append, List.sum_append, List.sum_append]; show x.sum + (m + 0) + (m + 0) + (m + 0) = _; omega
    have lo : ∀ R, R < 88 + x.length → lnA R (x ++ [m] ++ [m] ++ [m]) = lnA R x := fun R hR => by rw [lnA_app (by rw [List.length_append, List.length_append]; omega), lnA_app (by rw [List.length_append]; omega), lnA_app hR]
    have n0 : lnA (88 + x.length) (x ++ [m] ++ [m] ++ [m]) = m := by rw [lnA_app (by rw [List.length_append, List.length_append]; show 88 + x.length < 88 + (x.length + 1 + 1); omega), lnA_app (by rw [List.length_append]; show 88 + x.length < 88 + (x.length + 1); omega), lnA_new]
    have n1 : lnA (88 + x.length + 1) (x ++ [m] ++ [m] ++ [m]) = m := by rw [lnA_app (by rw [List.length_append, List.length_append]; show 88 + x.length + 1 < 88 + (x.length + 1 + 1); omega), ← e86, lnA_new]
    have n2 : lnA (88 + x.length + 2) (x ++ [m] ++ [m] ++ [m]) = m := by rw [← e87, lnA_new]
    rw [e86, e87]
    have fr : ∀ k, k < 88 + x.length → sUc (sUc (sUc σb (88 + x.length) (fun _ => 0)) (88 + x.length + 1) (fun _ => 0)) (88 + x.length + 2) (fun _ => 0) k = σb k := fun k hk => by rw [sUc_ne (by omega), sUc_ne (by omega), sUc_ne (by omega)]
    have z0 : ∀ (τ : sM) (R : Nat) (S : Nat → Nat → Prop), (∀ i, τ R i = 0) → Ent τ R m st S := fun τ R S h0 i _ => ⟨0, 0, by rw [h0]; rfl, by omega, by omega, fun h => by omega⟩
    have hnew : MO c (j + 1) r p st 33 (88 + x.length) (x ++ [m] ++ [m] ++ [m]) (sUc (sUc (sUc σb (88 + x.length) (fun _ => 0)) (88 + x.length + 1) (fun _ => 0)) (88 + x.length + 2) (fun _ => 0)) := by
      refine ⟨hr, hp, hst, Or.inr ⟨by omega, by rw [l3]; omega⟩, by rw [n1, n0], by rw [n2, n0], by rw [n0]; omega, ?_⟩
      rw [n0]
      refine ⟨b1.congr hc (fun k d1 d2 => fr k (by omega)), by rw [fr 33 (by omega)]; exact b2', by rw [fr 33 (by omega)]; exact b3, ⟨by rw [fr 33 (by omega)]; exact b4.1, b4.2.congr (fr _ (by rw [shC33]; omega))⟩, by rw [fr 33 (by omega)]; exact b5, z0 _ _ _ (fun i => ?_), z0 _ _ _ (fun i => ?_), z0 _ _ _ (fun i => ?_)⟩
      · rw [sUc_ne (by omega), sUc_ne (by omega), sUc_at]
      · rw [sUc_ne (by omega), sUc_at]
      · rw [sUc_at]
    have hoth : MO c (j + 1) r0 p0 st0 29 P (x ++ [m] ++ [m] ++ [m]) (sUc (sUc (sUc σb (88 + x.length) (fun _ => 0)) (88 + x.length + 1) (fun _ => 0)) (88 + x.length + 2) (fun _ => 0)) := by
      obtain ⟨y1, y2, y3, y4, y5, y6, y7, y8⟩ := hA
      refine ⟨y1, y2, ⟨y3.1, by omega⟩, by rw [l3]; omega, by rw [lo _ (by omega), lo _ (by omega)]; exact y5, by rw [lo _ (by omega), lo _ (by omega)]; exact y6, by rw [lo _ (by omega)]; exact y7, ?_⟩
      rw [lo _ (by omega)]
      exact y8.congr hc (fun k d1 d2 => by rw [fr k (by omega)]; exact f1 k (by omega)) (by rw [fr _ (by omega)]; exact f1 _ (by omega)) (by rw [fr _ (by omega)]; exact f1 _ (by omega)) (by rw [fr _ (by omega)]; exact f1 _ (by omega)) (by rw [fr _ (by omega)]; exact f1 _ (by omega)) (by rw [fr _ (by rw [shC29]; omega)]; exact f1 _ (by decide))
    refine ⟨_, _, _, rfl, fun k hk => by rw [fr k (by omega)]; exact hbS k hk, st, r0, p0, st0, P, 88 + x.length, rfl, hoth, hnew, by omega, ?_, ?_, ?_⟩
    · rw [l3, lo _ (show P < 88 + x.length by omega), n0]; omega
    · rw [s3, lo _ (show P < 88 + x.length by omega), n0]; omega
    · rw [n0, hm]; exact Nat.le_refl _
