abbrev pT6 : Type := Nat × Nat × Int × Int × Int × Int
def pl1 (c : cC) (r p t : Nat) (x : pT6) : pT6 := (0, (gs c p t (bh x.2.1 (cN c r p t x.1 x.2.1)) x.2.2.2.2.1 (cW c)).1, (if cN c r p t x.1 x.2.1 < 3 then x.2.2.1 + (hB c x.2.1 (cN c r p t x.1 x.2.1) t : Int) else x.2.2.1), (if 3 ≤ cN c r p t x.1 x.2.1 ∧ cN c r p t x.1 x.2.1 < 6 then x.2.2.2.1 + (hB c x.2.1 (cN c r p t x.1 x.2.1) t : Int) else x.2.2.2.1), (gs c p t (bh x.2.1 (cN c r p t x.1 x.2.1)) x.2.2.2.2.1 (cW c)).2.1, x.2.2.2.2.2 + (hB c x.2.1 (cN c r p t x.1 x.2.1) t : Int))
def pl (c : cC) (r p t : Nat) (x : pT6) : Nat → pT6
  | 0 => x
  | i + 1 => pl1 c r p (t + i) (pl c r p t x i)
theorem pl_VW {c : cC} (hc : OkC c) (r p t : Nat) (x : pT6) (hV : VW c t x.1 x.2.1 p) (n : Nat) (hn : t + n ≤ cK c) : VW c (t + n) (pl c r p t x n).1 (pl c r p t x n).2.1 p := by
  induction n with
  | zero => exact hV
  | succ n ih =>
    have h := ih (by omega)
    have hd := cN_ok hc r p (t + n) (pl c r p t x n).1 (pl c r p t x n).2.1
    exact gs_VW (t := t + n) (a := 0) hc _ ⟨bh_Vs hc h.1 hd, h.2.1, h.2.2.1, Or.inl rfl⟩ (by omega)
def fP (σ σ' : sM) : Prop := ∀ k, (k < 26 ∨ k = 27 ∨ k = 28 ∨ (36 < k ∧ k < 86)) → σ' k = σ k
theorem e_play {c : cC} {j : Nat} {q : qT} {x : List Nat} {t a s p r F : Nat} {g k l : Int} {σ : sM} (hc : OkC c) (hX : RelX c σ) (hE : Me c j q x σ) (hW : WX 26 t a s p g k l σ) (hV : VW c t a s p) (hF : 10 ≤ F) (hj : j < 800000) (hr : r ≤ 4) : ∃ q' x' σ', X8_play F q x σ (r : Int) = some ((pl c r p t (a, s, g, k, l, 0) (cK c - t)).2.2.2.2.2, (q', x', σ')) ∧ fP σ σ' ∧ Me c (j + 20) q' x' σ' ∧ WX 26 (cK c) (pl c r p t (a, s, g, k, l, 0) (cK c - t)).1 (pl c r p t (a, s, g, k, l, 0) (cK c - t)).2.1 p (pl c r p t (a, s, g, k, l, 0) (cK c - t)).2.2.1 (pl c r p t (a, s, g, k, l, 0) (cK c - t)).2.2.2.1 (pl c r p t (a, s, g, k, l, 0) (cK c - t)).2.2.2.2.1 σ' := by
  have c5 := hc.2.2.1
  have ht := hV.2.2.1
  have key : ∀ i, t + i ≤ cK c → VW c (t + i) (pl c r p t (a, s, g, k, l, 0) i).1 (pl c r p t (a, s, g, k, l, 0) i).2.1 p := fun i hi => pl_VW hc r p t _ hV i hi
  have step : ∀ i, pl c r p t (a, s, g, k, l, 0) (i + 1) = pl1 c r p (t + i) (pl c r p t (a, s, g, k, l, 0) i) := fun _ => rfl
  unfold X8_play
  rw [e_isRule hr, bp_some, if_pos (by decide)]
  refine lp_inv (fun i (y : (qT × List Nat × sM) × Int × Int) => y.2.2 = (i : Int) ∧ y.2.1 = (pl c r p t (a, s, g, k, l, 0) i).2.2.2.2.2 ∧ fP σ y.1.2.2 ∧ Me c (j + i) y.1.1 y.1.2.1 y.1.2.2 ∧ WX 26 (t + i) (pl c r p t (a, s, g, k, l, 0) i).1 (pl c r p t (a, s, g, k, l, 0) i).2.1 p (pl c r p t (a, s, g, k, l, 0) i).2.2.1 (pl c r p t (a, s, g, k, l, 0) i).2.2.2.1 (pl c r p t (a, s, g, k, l, 0) i).2.2.2.2.1 y.1.2.2) (cK c - t) (fun (o : Option (Int × qT × List Nat × sM)) => ∃ q' x' σ', o = some ((pl c r p t (a, s, g, k, l, 0) (cK c - t)).2.2.2.2.2, (q', x', σ')) ∧ fP σ σ' ∧ Me c (j + 20) q' x' σ' ∧ WX 26 (cK c) (pl c r p t (a, s, g, k, l, 0) (cK c - t)).1 (pl c r p t (a, s, g, k, l, 0) (cK c - t)).2.1 p (pl c r p t (a, s, g, k, l, 0) (cK c - t)).2.2.1 (pl c r p t (a, s, g, k, l, 0) (cK c - t)).2.2.2.1 (pl c r p t (a, s, g, k, l, 0) (cK c - t)).2.2.2.2.1 σ') (fun i y hi hI K => ?_) (fun y hI K => ?_) ⟨rfl, rfl, fun _ _ => rfl, hE, hW⟩ (by omega)
  · obtain ⟨⟨q1, x1, τ⟩, su, u⟩ := y
    obtain ⟨hu, hsu, hf, hme, hw⟩ := hI
    simp only [] at hu hsu hf hme hw ⊢
    subst hu hsu
    have hVi := key i (by omega)
    rw [step]
    generalize pl c r p t (a, s, g, k, l, 0) i = Y at *
    obtain ⟨a1, s1, g1, k1, l1, m1⟩ := Y
    simp only [] at hVi hw ⊢
    have hX1 : RelX c τ := hX.congr hc (fun k b1 b2 => hf k (by omega))
    have hd := cN_ok hc r p (t + i) a1 s1
    obtain ⟨q2, x2, σ2, e2, f2, m2⟩ := e_choiceNow (F := F) (r := r) hc hX1 hme hw hVi hF (by omega) hr
    have hX2 : RelX c σ2 := hX1.congr hc (fun k b1 b2 => f2 k (by omega))
    obtain ⟨σ3, e3, f3, w3⟩ := e_act hc hX2 (hw.congr (f2 26 (by omega))) hVi.1 (by omega) hd
    have hX3 : RelX c σ3 := hX2.congr hc (fun k b1 b2 => f3 k (by omega))
    obtain ⟨σ4, e4, f4, w4⟩ := e_goOn (F := F) hc hX3 w3 (bh_Vs hc hVi.1 hd) hVi.2.1 (by omega) hF
    rw [if_pos (by omega), if_neg (by rw [wiN (by omega)]; omega)]
    unfold X8_isOver
    rw [hw.1, hX1.2.2.1, if_pos (by rw [wiN (by omega), wiN (by omega)]; omega), bp_some, if_neg (by decide), e2, bn_some]
    simp only []
    rw [e3, bn_some, e4, bn_some]
    refine ⟨((q2, x2, σ4), m1 + (hB c s1 (cN c r p (t + i) a1 s1) (t + i) : Int), (i : Int) + 1), ⟨?_, rfl, fun m hm => ?_, ?_, ?_⟩, rfl⟩
    · simp only []; omega
    · simp only []; rw [f4 m (by omega), f3 m (by omega), f2 m (by omega)]; exact hf m hm
    · exact m2.congr hc (fun k hk => by simp only []; rw [f4 k (by omega), f3 k (by omega)])
    · exact w4
  · obtain ⟨⟨q1, x1, τ⟩, su, u⟩ := y
    obtain ⟨hu, hsu, hf, hme, hw⟩ := hI
    simp only [] at hu hsu hf hme hw ⊢
    subst hu hsu
    rw [show t + (cK c - t) = cK c by omega] at hw
    have hX1 : RelX c τ := hX.congr hc (fun k b1 b2 => hf k (by omega))
    have res : ∃ q' x' σ', some ((pl c r p t (a, s, g, k, l, 0) (cK c - t)).2.2.2.2.2, (q1, x1, τ)) = some ((pl c r p t (a, s, g, k, l, 0) (cK c - t)).2.2.2.2.2, (q', x', σ')) ∧ fP σ σ' ∧ Me c (j + 20) q' x' σ' ∧ WX 26 (cK c) (pl c r p t (a, s, g, k, l, 0) (cK c - t)).1 (pl c r p t (a, s, g, k, l, 0) (cK c - t)).2.1 p (pl c r p t (a, s, g, k, l, 0) (cK c - t)).2.2.1 (pl c r p t (a, s, g, k, l, 0) (cK c - t)).2.2.2.1 (pl c r p t (a, s, g, k, l, 0) (cK c - t)).2.2.2.2.1 σ' := ⟨q1, x1, τ, rfl, hf, hme.mono (by omega), hw⟩
    rw [if_pos (by omega)]
    by_cases z : cK c - t = 8
    · rw [if_pos (by rw [wiN (by omega)]; omega)]; exact res
    · rw [if_neg (by rw [wiN (by omega)]; omega)]
      unfold X8_isOver
      rw [hw.1, hX1.2.2.1, if_neg (by omega), bp_some, if_pos (by decide)]
      exact res
theorem f_play {c : cC} {t a s p r F : Nat} {g k l : Int} {σ : sM} (hc : OkC c) (hM : RelM c σ) (hm : WM c 0 t a s p g k l σ) (hV : VW c t a s p) (hF : 5000 ≤ F) (hr : r ≤ 4) (h1 : wi (r : Int) = (r : Int)) : ∃ σ', X9_play F σ (r : Int) = some ((pl c r p t (a, s, g, k, l, 0) (cK c - t)).2.2.2.2.2, σ') ∧ fM σ σ' ∧ WM c 0 (cK c) (pl c r p t (a, s, g, k, l, 0) (cK c - t)).1 (pl c r p t (a, s, g, k, l, 0) (cK c - t)).2.1 p (pl c r p t (a, s, g, k, l, 0) (cK c - t)).2.2.1 (pl c r p t (a, s, g, k, l, 0) (cK c - t)).2.2.2.1 (pl c r p t (a, s, g, k, l, 0) (cK c - t)).2.2.2.2.1 σ' := by
  have c5 := hc.2.2.1
  have c3 := hc.2.1
  have ht := hV.2.2.1
  have key : ∀ i, t + i ≤ cK c → VW c (t + i) (pl c r p t (a, s, g, k, l, 0) i).1 (pl c r p t (a, s, g, k, l, 0) i).2.1 p := fun i hi => pl_VW hc r p t _ hV i hi
  have step : ∀ i, pl c r p t (a, s, g, k, l, 0) (i + 1) = pl1 c r p (t + i) (pl c r p t (a, s, g, k, l, 0) i) := fun _ => rfl
  unfold X9_play
  rw [f_isRule h1, bp_some, b2_ifn, if_pos (by omega)]
  refine lp_inv (fun i (y : sM × Int) => y.2 = (pl c r p t (a, s, g, k, l, 0) i).2.2.2.2.2 ∧ fM σ y.1 ∧ WM c 0 (t + i) (pl c r p t (a, s, g, k, l, 0) i).1 (pl c r p t (a, s, g, k, l, 0) i).2.1 p (pl c r p t (a, s, g, k, l, 0) i).2.2.1 (pl c r p t (a, s, g, k, l, 0) i).2.2.2.1 (pl c r p t (a, s, g, k, l, 0) i).2.2.2.2.1 y.1) (cK c - t) (fun (o : Option (Int × sM)) => ∃ σ', o = some ((pl c r p t (a, s, g, k, l, 0) (cK c - t)).2.2.2.2.2, σ') ∧ fM σ σ' ∧ WM c 0 (cK c) (pl c r p t (a, s, g, k, l, 0) (cK c - t)).1 (pl c r p t (a, s, g, k, l, 0) (cK c - t)).2.1 p (pl c r p t (a, s, g, k, l, 0) (cK c - t)).2.2.1 (pl c r p t (a, s, g, k, l, 0) (cK c - t)).2.2.2.1 (pl c r p t (a, s, g, k, l, 0) (cK c - t)).2.2.2.2.1 σ') (fun i y hi hI K => ?_) (fun y hI K => ?_) ⟨rfl, fM.refl _, hm⟩ (by omega)
  · obtain ⟨τ, su⟩ := y
    obtain ⟨hsu, hf, hw⟩ := hI
    simp only [] at hsu hf hw ⊢
    subst hsu
    have hVi := key i (by omega)
    rw [step]
    generalize pl c r p t (a, s, g, k, l, 0) i = Y at *
    obtain ⟨a1, s1, g1, k1, l1, m1⟩ := Y
    simp only [] at hVi hw ⊢
    have hM1 : RelM c τ := hM.congr (fun k b1 b2 => hf.row (by omega))
    have hd := cN_ok hc r p (t + i) a1 s1
    have hk7 := mD_k hd
    obtain ⟨σ2, e2, f2, -, -⟩ := f_chooseNow (F := F) (r := r) hc hM1 hw hVi hF hr (by omega)
    have hM2 : RelM c σ2 := hM1.congr (fun k b1 b2 => f2 k (by omega))
    have hw2 : WM c 0 (t + i) a1 s1 p g1 k1 l1 σ2 := hw.row hc (fun m b1 b2 => f2 m (by omega))
    unfold X9_isOver
    rw [hw.1, hM1.2.2.1, if_pos (by rw [wiN (by omega), wiN (by omega)]; omega), bp_some, if_neg (by decide), e2, bn_some]
    simp only [jn_def]
    have hne : cN c r p (t + i) a1 s1 ≠ 6 → t + i < cK c ∧ a1 = 0 := by
      intro z
      by_cases y : t + i < cK c ∧ a1 = 0
      · exact y
      · exact absurd (by unfold cN; rw [if_neg y]) z
    -- the act
    have act : ∃ σ3 a3, (∀ K' : sM × Int → Option (Int × sM), (if ¬ wi (cN c r p (t + i) a1 s1 : Int) = 6 then if 3 ≤ wi (cN c r p (t + i) a1 s1 : Int) then bn (X9_sell F σ2 ((cN c r p (t + i) a1 s1 : Int) - 3)) (fun r19 σ21 => K' (σ21, r19)) else bn (X9_eat F σ2 (cN c r p (t + i) a1 s1 : Int)) (fun r22 σ24 => K' (σ24, r22)) else K' (σ2, 0)) = K' (σ3, (hB c s1 (cN c r p (t + i) a1 s1) (t + i) : Int))) ∧ fM σ2 σ3 ∧ WM c 0 (t + i) a3 (bh s1 (cN c r p (t + i) a1 s1)) p (if cN c r p (t + i) a1 s1 < 3 then g1 + (hB c s1 (cN c r p (t + i) a1 s1) (t + i) : Int) else g1) (if 3 ≤ cN c r p (t + i) a1 s1 ∧ cN c r p (t + i) a1 s1 < 6 then k1 + (hB c s1 (cN c r p (t + i) a1 s1) (t + i) : Int) else k1) l1 σ3 := by
      generalize cN c r p (t + i) a1 s1 = kk at *
      rw [wiN (n := kk) (by omega)]
      by_cases z6 : kk = 6
      · subst z6
        refine ⟨σ2, a1, fun K' => ?_, fM.refl _, ?_⟩
        · rw [if_neg (by omega)]; rfl
        · rw [if_neg (by omega), if_neg (by omega)]; exact hw2
      · obtain ⟨y1, y2⟩ := hne z6
        by_cases z3 : 3 ≤ kk
        · have hS : mS c s1 (kk - 3) := by
            rcases hd with d | d | d
            · exact absurd d z6
            · omega
            · exact d.2.2
          obtain ⟨σ3, e3, f3, w3⟩ := (f_sell (F := F) hc hM2 hw2 hVi (by omega) hS.1).2 ⟨y1, y2, hS⟩
          rw [show 3 + (kk - 3) = kk by omega] at e3 w3
          refine ⟨σ3, 1, fun K' => ?_, f3, ?_⟩
          · rw [if_pos (by omega), if_pos (by omega), show (kk : Int) - 3 = ((kk - 3 : Nat) : Int) by omega, e3, bn_some]
          · rw [if_neg (by omega), if_pos (by omega)]; exact w3
        · have hS : mE c s1 kk := by
            rcases hd with d | d | d
            · exact absurd d z6
            · exact d.2
            · omega
          obtain ⟨σ3, e3, f3, w3⟩ := (f_eat (F := F) hc hM2 hw2 hVi (by omega) hS.1).2 ⟨y1, y2, hS⟩
          refine ⟨σ3, 1, fun K' => ?_, f3, ?_⟩
          · rw [if_pos (by omega), if_neg (by omega), e3, bn_some]
          · rw [if_pos (by omega), if_neg (by omega)]; exact w3
    obtain ⟨σ3, a3, e3, f3, w3⟩ := act
    have hM3 : RelM c σ3 := hM2.congr (fun k b1 b2 => f3.row (by omega))
    obtain ⟨σ4, e4, f4, w4⟩ := f_goNext (F := F) hc hM3 w3 (bh_Vs hc hVi.1 hd) hVi.2.1 (by omega) (by omega)
    have e5 := e3 (fun q12 => bn (X9_goNext F q12.1) (fun r14 σ16 => K (σ16, m1 + q12.2)))
    simp only [] at e5
    rw [e5, e4, bn_some]
    refine ⟨(σ4, m1 + (hB c s1 (cN c r p (t + i) a1 s1) (t + i) : Int)), ⟨rfl, ((hf.trans (fW_fM f2)).trans f3).trans f4, ?_⟩, rfl⟩
    exact w4
  · obtain ⟨τ, su⟩ := y
    obtain ⟨hsu, hf, hw⟩ := hI
    simp only [] at hsu hf hw ⊢
    subst hsu
    rw [show t + (cK c - t) = cK c by omega] at hw
    have hM1 : RelM c τ := hM.congr (fun k b1 b2 => hf.row (by omega))
    unfold X9_isOver
    rw [hw.1, hM1.2.2.1, if_neg (fun h => h rfl), bp_some, if_pos (by decide)]
    exact ⟨_, rfl, hf, hw⟩
theorem s_play {c : cC} {j : Nat} {q : qT} {x : List Nat} {t a s p F : Nat} {g k l : Int} {σ : sM} (h : Jn c j q x t a s p g k l σ) (hF : 5000 ≤ F) (hj : j < 800000) (a1 : Int) (h1 : wi a1 = a1) : StA (j + 20) (X8_play F q x σ a1) (fun τ => X9_play F τ a1) := by
  obtain ⟨hc, hX, hM, hW, hm, hV, hT, hI, hE, hB', hTh, htr⟩ := id h
  have ht := hV.2.2.1
  by_cases y : 0 ≤ a1 ∧ a1 ≤ 4
  · obtain ⟨r, rfl⟩ : ∃ i : Nat, a1 = i := ⟨a1.toNat, by omega⟩
    obtain ⟨q', x', σ1, e1, f1, m1, w1⟩ := e_play (F := F) (r := r) hc hX hE hW hV (by omega) hj (by omega)
    have hM1 : RelM c σ1 := hM.congr (fun k b1 b2 => f1 k (by omega))
    have hm1 : WM c 0 t a s p g k l σ1 := hm.row hc (fun m b1 b2 => f1 m (by omega))
    obtain ⟨σ2, e2, f2, w2⟩ := f_play (F := F) (r := r) hc hM1 hm1 hV hF (by omega) h1
    have hv2 := pl_VW hc r p t (a, s, g, k, l, 0) hV (cK c - t) (by omega)
    rw [show t + (cK c - t) = cK c by omega] at hv2
    exact ⟨_, _, _, _, _, _, e1, e2, rfl, h.gen (fun k hk => f1 k (by omega)) f2 w1 w2 hv2 m1 (hB'.congr (f1 37 (by omega)) (f1 46 (by omega)))⟩
  · refine ⟨_, _, _, _, _, _, (?_ : X8_play F q x σ a1 = some (-1, (q, x, σ))), (?_ : X9_play F σ a1 = some (-1, σ)), rfl, (h.mono (by omega)).inv⟩
    · unfold X8_play
      rw [e_isRuleN h1 y, bp_some, if_neg (by decide)]
    · unfold X9_play
      rw [f_isRule h1, bp_some, b2_ifn, if_neg y]
