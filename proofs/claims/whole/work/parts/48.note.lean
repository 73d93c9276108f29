theorem e_startAt {F o b : Nat} {σ : sM} (hF : 10 ≤ F) (hb : b < 4) : ∃ σ1, X5_startAt F o σ (b : Int) = some (0, σ1) ∧ (∀ m, m ≠ o + 1 → σ1 m = σ m) ∧ ∀ i, i < 4 → σ1 (o + 1) i = ((if i = b then 1 else 0 : Nat) : Int) := by
  unfold X5_startAt
  refine lp_inv (fun i (x : sM × Int) => x.2 = (i : Int) ∧ (∀ m, m ≠ o + 1 → x.1 m = σ m) ∧ ∀ v, v < i → x.1 (o + 1) v = ((if v = b then 1 else 0 : Nat) : Int)) 4 (fun (r : Option (Int × sM)) => ∃ σ1 : sM, r = some (0, σ1) ∧ (∀ m, m ≠ o + 1 → σ1 m = σ m) ∧ ∀ i, i < 4 → σ1 (o + 1) i = ((if i = b then 1 else 0 : Nat) : Int)) (fun i x hi hI K => ?_) (fun x hI K => ?_) ⟨rfl, fun _ _ => rfl, fun v hv => absurd hv (by omega)⟩ (by omega)
  · obtain ⟨τ, u⟩ := x
    obtain ⟨hu, hf, hr⟩ := hI
    simp only [] at hu hf hr ⊢
    subst hu
    by_cases q : i = b
    · simp (disch := omega) only [b2_if0, b2_ifn, b2_if1, jn_def, nm_def, bp_some, bn_some, wiZ, wlZ, wiD, if_pos, if_neg, if_true, if_false, not_true_eq_false, not_false_eq_true, Int.toNat_natCast]
      refine ⟨_, ⟨?_, fun m hm => ?_, fun v hv => ?_⟩, rfl⟩
      · simp only []; omega
      · simp only []; rw [sU_ne hm]; exact hf m hm
      · simp only []
        by_cases y : v = i
        · subst y; rw [sUv, if_pos q]; rfl
        · rw [sUnj y]; exact hr v (by omega)
    · simp (disch := omega) only [b2_if0, b2_ifn, b2_if1, jn_def, nm_def, bp_some, bn_some, wiZ, wlZ, wiD, if_pos, if_neg, if_true, if_false, not_true_eq_false, not_false_eq_true, Int.toNat_natCast]
      refine ⟨_, ⟨?_, fun m hm => ?_, fun v hv => ?_⟩, rfl⟩
      · simp only []; omega
      · simp only []; rw [sU_ne hm]; exact hf m hm
      · simp only []
        by_cases y : v = i
        · subst y; rw [sUv, if_neg q]; rfl
        · rw [sUnj y]; exact hr v (by omega)
  · obtain ⟨τ, u⟩ := x
    obtain ⟨hu, hf, hr⟩ := hI
    simp only [] at hu hf hr ⊢
    subst hu
    rw [if_pos (by decide)]
    exact ⟨_, rfl, hf, hr⟩
theorem f_think {F : Nat} {σ : sM} (z : Int) (hF : 10 ≤ F) : ∃ σ1, X9_think F σ z = some (0, σ1) ∧ (∀ m, m ≠ 85 → m ≠ 55 → σ1 m = σ m) ∧ (∀ j, j ≠ 36 → σ1 55 j = σ 55 j) ∧ σ1 55 36 = z ∧ ∀ i, i < 4 → σ1 85 i = ((if i = 0 then 1 else 0 : Nat) : Int) := by
  unfold X9_think
  refine lp_inv (fun i (x : sM × Int) => x.2 = (i : Int) ∧ (∀ m, m ≠ 85 → m ≠ 55 → x.1 m = σ m) ∧ (∀ j, j ≠ 36 → x.1 55 j = σ 55 j) ∧ x.1 55 36 = z ∧ ∀ v, v < i → x.1 85 v = ((if v = 0 then 1 else 0 : Nat) : Int)) 4 (fun (r : Option (Int × sM)) => ∃ σ1 : sM, r = some (0, σ1) ∧ (∀ m, m ≠ 85 → m ≠ 55 → σ1 m = σ m) ∧ (∀ j, j ≠ 36 → σ1 55 j = σ 55 j) ∧ σ1 55 36 = z ∧ ∀ i, i < 4 → σ1 85 i = ((if i = 0 then 1 else 0 : Nat) : Int)) (fun i x hi hI K => ?_) (fun x hI K => ?_) ⟨rfl, fun m _ hm => sU_ne hm, fun j hj => sUnj hj, (sUv : sU σ 55 36 z 55 36 = z), fun v hv => absurd hv (by omega)⟩ (by omega)
  · obtain ⟨τ, u⟩ := x
    obtain ⟨hu, hf, hf2, hz, hr⟩ := hI
    simp only [] at hu hf hf2 hz hr ⊢
    subst hu
    by_cases q : i = 0
    · simp (disch := omega) only [b2_if0, b2_ifn, b2_if1, jn_def, nm_def, bp_some, bn_some, wiZ, wlZ, wiD, if_pos, if_neg, if_true, if_false, not_true_eq_false, not_false_eq_true, Int.toNat_natCast]
      refine ⟨_, ⟨?_, fun m hm hm2 => ?_, fun j hj => ?_, ?_, fun v hv => ?_⟩, rfl⟩
      · simp only []; omega
      · simp only []; rw [sU_ne hm]; exact hf m hm hm2
      · simp only []; rw [sU_ne (by omega)]; exact hf2 j hj
      · simp only []; rw [sU_ne (by omega)]; exact hz
      · simp only []
        by_cases y : v = i
        · subst y; rw [sUv, if_pos q]; rfl
        · rw [sUnj y]; exact hr v (by omega)
    · simp (disch := omega) only [b2_if0, b2_ifn, b2_if1, jn_def, nm_def, bp_some, bn_some, wiZ, wlZ, wiD, if_pos, if_neg, if_true, if_false, not_true_eq_false, not_false_eq_true, Int.toNat_natCast]
      refine ⟨_, ⟨?_, fun m hm hm2 => ?_, fun j hj => ?_, ?_, fun v hv => ?_⟩, rfl⟩
      · simp only []; omega
      · simp only []; rw [sU_ne hm]; exact hf m hm hm2
      · simp only []; rw [sU_ne (by omega)]; exact hf2 j hj
      · simp only []; rw [sU_ne (by omega)]; exact hz
      · simp only []
        by_cases y : v = i
        · subst y; rw [sUv, if_neg q]; rfl
        · rw [sUnj y]; exact hr v (by omega)
  · obtain ⟨τ, u⟩ := x
    obtain ⟨hu, hf, hf2, hz, hr⟩ := hI
    simp only [] at hu hf hf2 hz hr ⊢
    subst hu
    rw [if_pos (by decide)]
    exact ⟨_, rfl, hf, hf2, hz, hr⟩
/-- only what is thought changes -/
theorem Jn.thk {c : cC} {j : Nat} {q : qT} {x : List Nat} {t a s p : Nat} {g k l : Int} {σ σ2 : sM} (h : Jn c j q x t a s p g k l σ) (h1 : ∀ k, k ≠ 49 → k ≠ 51 → k ≠ 53 → k ≠ 55 → k ≠ 85 → σ2 k = σ k) (h2 : ∀ j, j ≠ 36 → σ2 55 j = σ 55 j) (ht : Th c σ2) : Inv j q x σ2 := by
  obtain ⟨hc, a1, a2, a3, a4, a5, a6, a7, a8, a9, a10, a11⟩ := h
  have r : ∀ k, k ≠ 49 ∧ k ≠ 51 ∧ k ≠ 53 ∧ k ≠ 55 ∧ k ≠ 85 → σ2 k = σ k := fun k hk => h1 k hk.1 hk.2.1 hk.2.2.1 hk.2.2.2.1 hk.2.2.2.2
  exact ⟨c, t, a, s, p, g, k, l, hc, a1.congr hc (fun k b1 b2 => r k (by omega)), a2.congr (fun k b1 b2 => r k (by omega)), a3.congr (r 26 (by omega)), a4.row hc (fun m b1 b2 => r m (by omega)), a5, a6.congr (r 0 (by omega)) (r 1 (by omega)) (h2 2 (by omega)) (r 56 (by omega)), a7.congr hc (r 27 (by omega)) (r 28 (by omega)) (r 74 (by omega)) (fun m j b1 b2 b3 => by rw [r m (by omega)]) (fun m j b1 b2 b3 => by rw [r m (by omega)]), a8.congr hc (fun k hk => r k (by omega)), a9.congr (r 37 (by omega)) (r 46 (by omega)), ht, by rw [r 54 (by omega), h2 0 (by omega)]; exact a11⟩
theorem e_beginT {F : Nat} {σ : sM} (z : Int) (hF : 10 ≤ F) : ∃ σ1, X6_beginAnew F σ z = some (0, σ1) ∧ (∀ m, m ≠ 49 → m ≠ 51 → σ1 m = σ m) ∧ σ1 49 3 = z ∧ ∀ i, i < 4 → σ1 51 i = ((if i = 0 then 1 else 0 : Nat) : Int) := by
  obtain ⟨σ1, e1, f1, r1⟩ := e_startAt (F := F) (o := 50) (b := 0) (σ := sU σ 49 3 z) hF (by omega)
  refine ⟨σ1, ?_, fun m h1 h2 => ?_, ?_, r1⟩
  · unfold X6_beginAnew
    rw [show ((0 : Nat) : Int) = 0 from rfl] at e1
    rw [e1, bn_some]
  · rw [f1 m h2, sU_ne h1]
  · rw [f1 49 (by omega), sUv]
theorem Th_new {c : cC} {σ : sM} (i : Nat) (hi : i < cS c ∨ i = 0 ∧ cS c = 0) (h1 : σ 49 3 = (i : Int)) (h2 : σ 55 36 = (i : Int)) (h3 : ∀ k, k < 4 → σ 51 k = ((if k = 0 then 1 else 0 : Nat) : Int)) (h4 : ∀ k, k < 4 → σ 85 k = ((if k = 0 then 1 else 0 : Nat) : Int)) : Th c σ := by
  refine ⟨i, fun k => if k = 0 then 1 else 0, h1, h2, hi, fun k hk => ⟨h3 k hk, h4 k hk, ?_⟩, by decide⟩
  show (if k = 0 then 1 else 0) ≤ 1000000000000
  split <;> omega
theorem s_thought {c : cC} {j : Nat} {q : qT} {x : List Nat} {t a s p F : Nat} {g k l : Int} {σ : sM} (h : Jn c j q x t a s p g k l σ) (hF : 10 ≤ F) (a1 : Int) (h1 : wi a1 = a1) : Stq j q x (X8_thought F σ a1) (fun τ => X9_thought F τ a1) := by
  obtain ⟨hc, hX, hM, -⟩ := id h
  have b1 := rng h1
  have c4 := hc.1
  by_cases q1 : 0 ≤ a1 ∧ a1 < (cS c : Int)
  · obtain ⟨i, rfl⟩ : ∃ i : Nat, a1 = i := ⟨a1.toNat, by omega⟩
    obtain ⟨σ1, e1, f1, g1, r1⟩ := e_beginT (F := F) (σ := σ) (i : Int) hF
    obtain ⟨σ2, e2, f2, g2, g3, r2⟩ := f_think (F := F) (σ := σ1) (i : Int) hF
    have e3 : X8_thought F σ (i : Int) = some (1, σ1) := by
      unfold X8_thought X1_isSort
      rw [hX.1, e1]
      simp (disch := omega) only [b2_if0, b2_ifn, b2_if1, jn_def, nm_def, bp_some, bn_some, wiZ, wlZ, wiD, if_pos, if_neg, if_true, if_false, not_true_eq_false, not_false_eq_true, Int.toNat_natCast]
    have e4 : X9_thought F σ1 (i : Int) = some (1, σ2) := by
      unfold X9_thought
      rw [f1 57 (by omega) (by omega), hM.1, f_in _ (i : Int) 0 _ h1 (by decide) (wi_id (by omega) (by omega)), e2]
      simp (disch := omega) only [b2_if0, b2_ifn, b2_if1, jn_def, nm_def, bp_some, bn_some, wiZ, wlZ, wiD, if_pos, if_neg, if_true, if_false, not_true_eq_false, not_false_eq_true, Int.toNat_natCast]
    refine ⟨_, _, _, _, e3, e4, rfl, h.thk (fun k h1 h2 h3 h4 h5 => ?_) (fun j hj => ?_) (Th_new i (Or.inl (by omega)) ?_ g3 (fun k hk => ?_) r2)⟩
    · rw [f2 k h5 h4, f1 k h1 h2]
    · rw [g2 j hj, f1 55 (by omega) (by omega)]
    · rw [f2 49 (by omega) (by omega)]; exact g1
    · rw [f2 51 (by omega) (by omega)]; exact r1 k hk
  · refine ⟨_, _, _, _, (?_ : X8_thought F σ a1 = some (-1, σ)), (?_ : X9_thought F σ a1 = some (-1, σ)), rfl, h.inv⟩
    · unfold X8_thought X1_isSort
      rw [hX.1]
      by_cases z : a1 < 0
      · simp (disch := omega) only [b2_if0, b2_ifn, b2_if1, jn_def, nm_def, bp_some, bn_some, wiZ, wlZ, wiD, if_pos, if_neg, if_true, if_false, not_true_eq_false, not_false_eq_true, Int.toNat_natCast]
      · simp (disch := omega) only [b2_if0, b2_ifn, b2_if1, jn_def, nm_def, bp_some, bn_some, wiZ, wlZ, wiD, if_pos, if_neg, if_true, if_false, not_true_eq_false, not_false_eq_true, Int.toNat_natCast]
    · unfold X9_thought
      rw [hM.1, f_in _ a1 0 _ h1 (by decide) (wi_id (by omega) (by omega))]
      simp (disch := omega) only [b2_if0, b2_ifn, b2_if1, jn_def, nm_def, bp_some, bn_some, wiZ, wlZ, wiD, if_pos, if_neg, if_true, if_false, not_true_eq_false, not_false_eq_true, Int.toNat_natCast]
theorem Jn.nte {c : cC} {j : Nat} {q : qT} {x : List Nat} {t a s p : Nat} {g k l : Int} {σ σ2 : sM} (h : Jn c j q x t a s p g k l σ) (h1 : ∀ k, k ≠ 54 → k ≠ 55 → σ2 k = σ k) (h2 : ∀ j, j ≠ 0 → σ2 55 j = σ 55 j) (ht : σ2 54 1 = σ2 55 0) : Inv j q x σ2 := by
  obtain ⟨hc, a1, a2, a3, a4, a5, a6, a7, a8, a9, a10, a11⟩ := h
  have r : ∀ k, k ≠ 54 ∧ k ≠ 55 → σ2 k = σ k := fun k hk => h1 k hk.1 hk.2
  exact ⟨c, t, a, s, p, g, k, l, hc, a1.congr hc (fun k b1 b2 => r k (by omega)), a2.congr (fun k b1 b2 => r k (by omega)), a3.congr (r 26 (by omega)), a4.row hc (fun m b1 b2 => r m (by omega)), a5, a6.congr (r 0 (by omega)) (r 1 (by omega)) (h2 2 (by omega)) (r 56 (by omega)), a7.congr hc (r 27 (by omega)) (r 28 (by omega)) (r 74 (by omega)) (fun m j b1 b2 b3 => by rw [r m (by omega)]) (fun m j b1 b2 b3 => by rw [r m (by omega)]), a8.congr hc (fun k hk => r k (by omega)), a9.congr (r 37 (by omega)) (r 46 (by omega)), a10.congr (r 49 (by omega)) (h2 36 (by omega)) (r 51 (by omega)) (r 85 (by omega)), ht⟩
/-- what a note asks: N more, and nothing else -/
def Nt (σ : sM) (N : Int) (v : Int) (o : Option (Int × sM)) : Prop := ∃ τ, o = some (v, τ) ∧ (∀ m, m ≠ 54 → τ m = σ m) ∧ τ 54 1 = σ 54 1 + N
theorem e_asRule {σ : sM} {s w : Nat} (hs : s < 4096) (hw : w < 3) : Nt σ 1 (po s w : Int) (X2_asRule σ (s : Int) (w : Int)) := by
  unfold X2_asRule
  rw [e_portionsOf _ hs hw, bp_some]
  exact ⟨_, rfl, fun m hm => sU_ne hm, sUv⟩
theorem e_asOld {σ : sM} {s w : Nat} (hs : s < 4096) (hw : w < 3) : Nt σ 11 ((po s w : Int) + (sp s w : Int)) (X2_asOld σ (s : Int) (w : Int)) := by
  obtain ⟨τ, e, f, g⟩ := e_asRule (σ := sU σ 54 1 (σ 54 1 + 10)) hs hw
  unfold X2_asOld
  rw [e, bn_some, e_stepOf _ hs hw, bp_some]
  exact ⟨_, rfl, fun m hm => by rw [f m hm, sU_ne hm], by rw [g, sUv]; omega⟩
theorem e_asBest {c : cC} {σ : sM} (h : RelX c σ) (hc : OkC c) {s w : Nat} (hs : s < 4096) (hw : w < cW c) : Nt σ 101 ((po s w : Int) * (cT c (cO c w) (sp s w) : Int)) (X2_asBest σ (s : Int) (w : Int)) := by
  have c3 := hc.2.1
  obtain ⟨τ, e, f, g⟩ := e_asRule (σ := sU σ 54 1 (σ 54 1 + 100)) (w := w) hs (by omega)
  have hX : RelX c τ := h.congr hc (fun k b1 b2 => by rw [f k (by omega), sU_ne (by omega)])
  unfold X2_asBest
  rw [e, bn_some, e_goodNow hX hc hs hw, bp_some]
  exact ⟨_, rfl, fun m hm => by rw [f m hm, sU_ne hm], by rw [g, sUv]; omega⟩
theorem e_asLook {c : cC} {σ : sM} (h : RelX c σ) (hc : OkC c) {s w : Nat} (hs : s < 4096) (hw : w < cW c) : Nt σ 1101 ((po s w : Int) * (cT c (cO c w) (sp s w) : Int) + (cT c (cO c w) (10 + sp s w) : Int)) (X2_asLook σ (s : Int) (w : Int)) := by
  have c3 := hc.2.1
  have k1 := sp_lt s w
  have hO := (hc.2.2.2.2.1 w hw).1
  obtain ⟨τ, e, f, g⟩ := e_asBest (σ := sU σ 54 1 (σ 54 1 + 1000)) (h.congr hc (fun k b1 b2 => sU_ne (by omega))) hc hs hw
  have hX : RelX c τ := h.congr hc (fun k b1 b2 => by rw [f k (by omega), sU_ne (by omega)])
  unfold X2_asLook
  rw [e, bn_some, e_sortOf hX hc hw, bp_some, e_stepOf _ hs (by omega), bp_some, show (10 : Int) + (sp s w : Int) = ((10 + sp s w : Nat) : Int) by omega, e_trait hX hc hO (by omega), bp_some]
  exact ⟨_, rfl, fun m hm => by rw [f m hm, sU_ne hm], by rw [g, sUv]; omega⟩
theorem e_asSave {σ : sM} {s w : Nat} (hs : s < 4096) (hw : w < 3) : Nt σ 10001 ((po s w : Int) - (w : Int)) (X2_asSave σ (s : Int) (w : Int)) := by
  obtain ⟨τ, e, f, g⟩ := e_asRule (σ := sU σ 54 1 (σ 54 1 + 10000)) hs hw
  unfold X2_asSave
  rw [e, bn_some]
  exact ⟨_, rfl, fun m hm => by rw [f m hm, sU_ne hm], by rw [g, sUv]; omega⟩
theorem e_asWorst {σ : sM} {s w : Nat} (hs : s < 4096) (hw : w < 3) : Nt σ 100011 (3 * ((po s w : Int) + (sp s w : Int))) (X2_asWorst σ (s : Int) (w : Int)) := by
  obtain ⟨τ, e, f, g⟩ := e_asOld (σ := sU σ 54 1 (σ 54 1 + 100000)) hs hw
  unfold X2_asWorst
  rw [e, bn_some]
  exact ⟨_, rfl, fun m hm => by rw [f m hm, sU_ne hm], by rw [g, sUv]; omega⟩
theorem s_note {c : cC} {j : Nat} {q : qT} {x : List Nat} {t a s p : Nat} {g k l : Int} {σ : sM} (h : Jn c j q x t a s p g k l σ) (a1 a2 : Int) (h1 : wi a1 = a1) (h2 : wi a2 = a2) : Stq j q x (X8_note σ a1 a2) (fun τ => X9_note τ a1 a2) := by
  obtain ⟨hc, hX, hM, hW, hm, hV, hT, hI, hE, hB', hTh, htr⟩ := id h
  have b1 := rng h1
  have b2' := rng h2
  have c3 := hc.2.1
  have c4 := hc.1
  have hs := hV.1.lt hc
  by_cases q1 : 0 ≤ a2 ∧ a2 < (cW c : Int)
  · obtain ⟨w, rfl⟩ : ∃ i : Nat, a2 = i := ⟨a2.toNat, by omega⟩
    have hw : w < cW c := by omega
    obtain ⟨m1, m2, m3⟩ := hm.at0 hw
    have k1 := sp_lt s w
    have k2 := po_lt s w
    have hO := (hc.2.2.2.2.1 w hw).1
    have key : ∀ (N v : Int), Nt σ N v (X2_byKind σ a1 (s : Int) (w : Int)) → (∀ τ : sM, (∀ m, m ≠ 54 → τ m = σ m) → X9_note τ a1 (w : Int) = some (v, sU τ 55 0 (τ 55 0 + N))) → Stq j q x (X8_note σ a1 (w : Int)) (fun τ => X9_note τ a1 (w : Int)) := by
      intro N v hN h9
      obtain ⟨τ, e, f, g'⟩ := hN
      have e0 : X8_note σ a1 (w : Int) = some (v, τ) := by
        unfold X8_note
        rw [hW.2.2.1, e]
        simp (disch := omega) only [b2_if0, b2_ifn, b2_if1, jn_def, nm_def, bp_some, bn_some, wiZ, wlZ, wiD, if_pos, if_neg, if_true, if_false, not_true_eq_false, not_false_eq_true, Int.toNat_natCast, e_isWheelN hX hc]
      refine ⟨_, _, _, _, e0, h9 τ f, rfl, h.nte (fun k y1 y2 => ?_) (fun jj hj => ?_) ?_⟩
      · rw [sU_ne y2, f k y1]
      · rw [sUnj hj, f 55 (by omega)]
      · rw [sU_ne (by omega), sUv, g', f 55 (by omega), htr]
    by_cases q2 : 0 ≤ a1 ∧ a1 ≤ 5
    · have h9 : ∀ τ : sM, (∀ m, m ≠ 54 → τ m = σ m) → RelM c τ ∧ τ 71 w = (sp s w : Int) ∧ τ 72 w = (po s w : Int) ∧ τ 62 w = (cO c w : Int) ∧ τ 61 (14 * cO c w + (10 + sp s w)) = (cT c (cO c w) (10 + sp s w) : Int) := fun τ f => by
        have hMt : RelM c τ := hM.congr (fun k b1 b2 => f k (by omega))
        refine ⟨hMt, by rw [f 71 (by omega)]; exact m1, by rw [f 72 (by omega)]; exact m2, (hMt.2.2.2.2.1 w hw).1, hMt.2.2.2.2.2.2 _ hO _ (by omega)⟩
      rcases (show a1 = 0 ∨ a1 = 1 ∨ a1 = 2 ∨ a1 = 3 ∨ a1 = 4 ∨ a1 = 5 by omega) with z | z | z | z | z | z
      · refine key 1 (po s w : Int) ?_ (fun τ f => ?_)
        · unfold X2_byKind; subst z
          obtain ⟨τ, e, r⟩ := e_asRule (σ := σ) hs (show w < 3 by omega)
          simp (disch := omega) only [b2_if0, b2_ifn, b2_if1, jn_def, nm_def, bp_some, bn_some, wiZ, wlZ, wiD, if_pos, if_neg, if_true, if_false, not_true_eq_false, not_false_eq_true, Int.toNat_natCast, e]; exact ⟨τ, rfl, r⟩
        · obtain ⟨hMt, n1, n2, n3, n4⟩ := h9 τ f
          unfold X9_note; rw [f_in _ a1 0 5 h1 (by decide) (by decide)]
          subst z
          simp (disch := omega) only [b2_if0, b2_ifn, b2_if1, jn_def, nm_def, bp_some, bn_some, wiZ, wlZ, wiD, if_pos, if_neg, if_true, if_false, not_true_eq_false, not_false_eq_true, Int.toNat_natCast, f_isWheelN hMt hc]
          rw [n1, n2]
          simp (disch := omega) only [b2_if0, b2_ifn, b2_if1, jn_def, nm_def, bp_some, bn_some, wiZ, wlZ, wiD, if_pos, if_neg, if_true, if_false, not_true_eq_false, not_false_eq_true, Int.toNat_natCast, f_goodOf hMt hc]
      · refine key 11 ((po s w : Int) + (sp s w : Int)) ?_ (fun τ f => ?_)
        · unfold X2_byKind; subst z
          obtain ⟨τ, e, r⟩ := e_asOld (σ := σ) hs (show w < 3 by omega)
          simp (disch := omega) only [b2_if0, b2_ifn, b2_if1, jn_def, nm_def, bp_some, bn_some, wiZ, wlZ, wiD, if_pos, if_neg, if_true, if_false, not_true_eq_false, not_false_eq_true, Int.toNat_natCast, e]; exact ⟨τ, rfl, r⟩
        · obtain ⟨hMt, n1, n2, n3, n4⟩ := h9 τ f
          unfold X9_note; rw [f_in _ a1 0 5 h1 (by decide) (by decide)]
          subst z
          simp (disch := omega) only [b2_if0, b2_ifn, b2_if1, jn_def, nm_def, bp_some, bn_some, wiZ, wlZ, wiD, if_pos, if_neg, if_true, if_false, not_true_eq_false, not_false_eq_true, Int.toNat_natCast, f_isWheelN hMt hc]
          rw [n1, n2]
          simp (disch := omega) only [b2_if0, b2_ifn, b2_if1, jn_def, nm_def, bp_some, bn_some, wiZ, wlZ, wiD, if_pos, if_neg, if_true, if_false, not_true_eq_false, not_false_eq_true, Int.toNat_natCast, f_goodOf hMt hc]
      · refine key 101 ((po s w : Int) * (cT c (cO c w) (sp s w) : Int)) ?_ (fun τ f => ?_)
        · unfold X2_byKind; subst z
          obtain ⟨τ, e, r⟩ := e_asBest (σ := σ) hX hc hs hw
          simp (disch := omega) only [b2_if0, b2_ifn, b2_if1, jn_def, nm_def, bp_some, bn_some, wiZ, wlZ, wiD, if_pos, if_neg, if_true, if_false, not_true_eq_false, not_false_eq_true, Int.toNat_natCast, e]; exact ⟨τ, rfl, r⟩
        · obtain ⟨hMt, n1, n2, n3, n4⟩ := h9 τ f
          unfold X9_note; rw [f_in _ a1 0 5 h1 (by decide) (by decide)]
          subst z
          simp (disch := omega) only [b2_if0, b2_ifn, b2_if1, jn_def, nm_def, bp_some, bn_some, wiZ, wlZ, wiD, if_pos, if_neg, if_true, if_false, not_true_eq_false, not_false_eq_true, Int.toNat_natCast, f_isWheelN hMt hc]
          rw [n1, n2]
          simp (disch := omega) only [b2_if0, b2_ifn, b2_if1, jn_def, nm_def, bp_some, bn_some, wiZ, wlZ, wiD, if_pos, if_neg, if_true, if_false, not_true_eq_false, not_false_eq_true, Int.toNat_natCast, f_goodOf hMt hc]
      · refine key 1101 ((po s w : Int) * (cT c (cO c w) (sp s w) : Int) + (cT c (cO c w) (10 + sp s w) : Int)) ?_ (fun τ f => ?_)
        · unfold X2_byKind; subst z
          obtain ⟨τ, e, r⟩ := e_asLook (σ := σ) hX hc hs hw
          simp (disch := omega) only [b2_if0, b2_ifn, b2_if1, jn_def, nm_def, bp_some, bn_some, wiZ, wlZ, wiD, if_pos, if_neg, if_true, if_false, not_true_eq_false, not_false_eq_true, Int.toNat_natCast, e]; exact ⟨τ, rfl, r⟩
        · obtain ⟨hMt, n1, n2, n3, n4⟩ := h9 τ f
          unfold X9_note; rw [f_in _ a1 0 5 h1 (by decide) (by decide)]
          subst z
          simp (disch := omega) only [b2_if0, b2_ifn, b2_if1, jn_def, nm_def, bp_some, bn_some, wiZ, wlZ, wiD, if_pos, if_neg, if_true, if_false, not_true_eq_false, not_false_eq_true, Int.toNat_natCast, f_isWheelN hMt hc]
          rw [sU_ne (k' := 62) (by omega), sU_ne (k' := 61) (by omega), n1, n2, n3, show (14 : Int) * (cO c w : Int) + 10 + (sp s w : Int) = ((14 * cO c w + (10 + sp s w) : Nat) : Int) by push_cast; omega]
          simp (disch := omega) only [b2_if0, b2_ifn, b2_if1, jn_def, nm_def, bp_some, bn_some, wiZ, wlZ, wiD, if_pos, if_neg, if_true, if_false, not_true_eq_false, not_false_eq_true, Int.toNat_natCast, f_goodOf hMt hc]
          rw [n4]
      · refine key 10001 ((po s w : Int) - (w : Int)) ?_ (fun τ f => ?_)
        · unfold X2_byKind; subst z
          obtain ⟨τ, e, r⟩ := e_asSave (σ := σ) hs (show w < 3 by omega)
          simp (disch := omega) only [b2_if0, b2_ifn, b2_if1, jn_def, nm_def, bp_some, bn_some, wiZ, wlZ, wiD, if_pos, if_neg, if_true, if_false, not_true_eq_false, not_false_eq_true, Int.toNat_natCast, e]; exact ⟨τ, rfl, r⟩
        · obtain ⟨hMt, n1, n2, n3, n4⟩ := h9 τ f
          unfold X9_note; rw [f_in _ a1 0 5 h1 (by decide) (by decide)]
          subst z
          simp (disch := omega) only [b2_if0, b2_ifn, b2_if1, jn_def, nm_def, bp_some, bn_some, wiZ, wlZ, wiD, if_pos, if_neg, if_true, if_false, not_true_eq_false, not_false_eq_true, Int.toNat_natCast, f_isWheelN hMt hc]
          rw [n1, n2]
          simp (disch := omega) only [b2_if0, b2_ifn, b2_if1, jn_def, nm_def, bp_some, bn_some, wiZ, wlZ, wiD, if_pos, if_neg, if_true, if_false, not_true_eq_false, not_false_eq_true, Int.toNat_natCast, f_goodOf hMt hc]
      · refine key 100011 (3 * ((po s w : Int) + (sp s w : Int))) ?_ (fun τ f => ?_)
        · unfold X2_byKind; subst z
          obtain ⟨τ, e, r⟩ := e_asWorst (σ := σ) hs (show w < 3 by omega)
          simp (disch := omega) only [b2_if0, b2_ifn, b2_if1, jn_def, nm_def, bp_some, bn_some, wiZ, wlZ, wiD, if_pos, if_neg, if_true, if_false, not_true_eq_false, not_false_eq_true, Int.toNat_natCast, e]; exact ⟨τ, rfl, r⟩
        · obtain ⟨hMt, n1, n2, n3, n4⟩ := h9 τ f
          unfold X9_note; rw [f_in _ a1 0 5 h1 (by decide) (by decide)]
          subst z
          simp (disch := omega) only [b2_if0, b2_ifn, b2_if1, jn_def, nm_def, bp_some, bn_some, wiZ, wlZ, wiD, if_pos, if_neg, if_true, if_false, not_true_eq_false, not_false_eq_true, Int.toNat_natCast, f_isWheelN hMt hc]
          rw [n1, n2]
          simp (disch := omega) only [b2_if0, b2_ifn, b2_if1, jn_def, nm_def, bp_some, bn_some, wiZ, wlZ, wiD, if_pos, if_neg, if_true, if_false, not_true_eq_false, not_false_eq_true, Int.toNat_natCast, f_goodOf hMt hc]
    · refine ⟨_, _, _, _, (?_ : X8_note σ a1 (w : Int) = some (-1000000, σ)), (?_ : X9_note σ a1 (w : Int) = some (-1000000, σ)), rfl, h.inv⟩
      · unfold X8_note X2_byKind
        simp (disch := omega) only [b2_if0, b2_ifn, b2_if1, jn_def, nm_def, bp_some, bn_some, wiZ, wlZ, wiD, if_pos, if_neg, if_true, if_false, not_true_eq_false, not_false_eq_true, Int.toNat_natCast, e_isWheelN hX hc]
      · unfold X9_note
        rw [f_in _ a1 0 5 h1 (by decide) (by decide)]
        simp (disch := omega) only [b2_if0, b2_ifn, b2_if1, jn_def, nm_def, bp_some, bn_some, wiZ, wlZ, wiD, if_pos, if_neg, if_true, if_false, not_true_eq_false, not_false_eq_true, Int.toNat_natCast]
  · refine ⟨_, _, _, _, (?_ : X8_note σ a1 a2 = some (-1000000, σ)), (?_ : X9_note σ a1 a2 = some (-1000000, σ)), rfl, h.inv⟩
    · unfold X8_note
      rw [e_isWheel hX hc a2 h2]
      simp (disch := omega) only [b2_if0, b2_ifn, b2_if1, jn_def, nm_def, bp_some, bn_some, wiZ, wlZ, wiD, if_pos, if_neg, if_true, if_false, not_true_eq_false, not_false_eq_true, Int.toNat_natCast]
    · unfold X9_note
      rw [f_in _ a1 0 5 h1 (by decide) (by decide), f_isWheel hM hc a2 h2]
      by_cases z : 0 ≤ a1 ∧ a1 ≤ 5
      · simp only [bp_some, jn_def, b2_if0, b2_ifn, if_pos z, if_neg q1]
      · simp only [bp_some, jn_def, b2_if0, b2_ifn, if_neg z, if_neg q1]
