def StA (j : Nat) (X : Option (Int × qT × List Nat × sM)) (Y : sM → Option (Int × sM)) : Prop := ∃ r q' x' σ1 r' σ2, X = some (r, (q', x', σ1)) ∧ Y σ1 = some (r', σ2) ∧ wi r = wi r' ∧ Inv j q' x' σ2
theorem f_chooseNow {c : cC} {t a s p r F : Nat} {g k l : Int} {σ : sM} (hc : OkC c) (hM : RelM c σ) (hm : WM c 0 t a s p g k l σ) (hV : VW c t a s p) (hF : 5000 ≤ F) (hr : r ≤ 4) (ht : t < cK c) : ∃ σ2, X9_chooseNow F σ (r : Int) = some ((cN c r p t a s : Int), σ2) ∧ fW σ σ2 ∧ RowF c (Hf c r p (cK c - (t + 1))) σ2 ∧ RowG c (Hg c r p (cK c - (t + 1))) σ2 := by
  have c5 := hc.2.2.1
  have ha := hV.2.2.2
  obtain ⟨σ2, e, h1, h2, h3⟩ := f_work (r := r) (t := t + 1) hM hc hm.relP hF hr (by omega)
  have hM2 : RelM c σ2 := hM.congr (fun k b1 b2 => h3 k (by omega))
  have hm2 : WM c 0 t a s p g k l σ2 := hm.row hc (fun m b1 b2 => h3 m (by omega))
  refine ⟨σ2, ?_, h3, h1, h2⟩
  unfold X9_chooseNow cN
  rw [hm.1, show (t : Int) + 1 = ((t + 1 : Nat) : Int) by omega, e, bn_some, hm2.2.1, hm2.1]
  rcases ha with z | z
  · subst z
    rw [if_pos (by decide), if_pos ⟨ht, rfl⟩, f_stateNow hc hM2 hm2 hV.1 (by omega), bp_some, f_choose hM2 hc hm2.relP (by omega) hV.1 (by omega) hr _ (fun s => Hf_b hc r p (t + 1) s) h1, bp_some]
  · obtain ⟨z, z2⟩ := z
    subst z
    rw [if_neg (by decide), if_neg (fun h => by omega)]
    rfl
theorem f_valueNow {c : cC} {t a s p r F : Nat} {g k l : Int} {σ : sM} (hc : OkC c) (hM : RelM c σ) (hm : WM c 0 t a s p g k l σ) (hV : VW c t a s p) (hF : 5000 ≤ F) (hr : r ≤ 4) : ∃ σ2, X9_valueNow F σ (r : Int) = some ((VN c r p t a s : Int), σ2) ∧ fW σ σ2 := by
  have c5 := hc.2.2.1
  have ha := hV.2.2.2
  have ht := hV.2.2.1
  unfold X9_valueNow X9_isOver
  rw [hm.1, hM.2.2.1, wiN (n := t) (by omega), wiN (n := cK c) (by omega)]
  by_cases y : t < cK c
  · rw [if_pos (by omega), bp_some, if_pos (by decide)]
    obtain ⟨σ2, e, h1, h2, h3⟩ := f_chooseNow (F := F) (r := r) hc hM hm hV hF hr y
    have hM2 : RelM c σ2 := hM.congr (fun k b1 b2 => h1 k (by omega))
    have hm2 : WM c 0 t a s p g k l σ2 := hm.row hc (fun m b1 b2 => h1 m (by omega))
    rw [e, bn_some, f_stateNow hc hM2 hm2 hV.1 (by omega), bp_some, hm2.1, f_bringsBy hM2 hc hm2.relP (by omega) hV.1 (by omega) _ (fun s => Hf_b hc r p (t + 1) s) h2 (cN_ok hc r p t a s), bp_some]
    refine ⟨σ2, ?_, h1⟩
    unfold VN cN
    rcases ha with z | z
    · rw [if_pos ⟨y, z⟩, if_pos z, Hf_t r p y]
    · rw [if_neg (fun h => by omega), if_neg (by omega)]
      unfold br
      have : hB c s 6 t = 0 := rfl
      rw [this, Nat.mul_zero, Nat.zero_add]
      rfl
  · rw [if_neg (by omega), bp_some, if_neg (by decide)]
    refine ⟨σ, ?_, fun _ _ => rfl⟩
    have z : a = 0 := by omega
    unfold VN
    rw [if_pos z, show cK c - t = 0 by omega]
    rfl
theorem s_value {c : cC} {j : Nat} {q : qT} {x : List Nat} {t a s p F : Nat} {g k l : Int} {σ : sM} (h : Jn c j q x t a s p g k l σ) (hF : 5000 ≤ F) (hj : j < 900000) (a1 : Int) (h1 : wi a1 = a1) : StA (j + 20) (X8_value F q x σ a1) (fun τ => X9_value F τ a1) := by
  obtain ⟨hc, hX, hM, hW, hm, hV, hT, hI, hE, hB', hTh, htr⟩ := id h
  by_cases y : 0 ≤ a1 ∧ a1 ≤ 4
  · obtain ⟨r, rfl⟩ : ∃ i : Nat, a1 = i := ⟨a1.toNat, by omega⟩
    obtain ⟨u, q', x', σ1, e1, hu, f1, m1⟩ := e_value (F := F) (r := r) hc hE hW hV (by omega) hj (by omega)
    have hM1 : RelM c σ1 := hM.congr (fun k b1 b2 => f1 k (by omega))
    have hm1 : WM c 0 t a s p g k l σ1 := hm.row hc (fun m b1 b2 => f1 m (by omega))
    obtain ⟨σ2, e2, f2⟩ := f_valueNow (F := F) (r := r) hc hM1 hm1 hV hF (by omega)
    refine ⟨_, _, _, _, (VN c r p t a s : Int), σ2, e1, ?_, ?_, h.gen (fun k hk => f1 k (by omega)) (fW_fM f2) (hW.congr (f1 26 (by omega))) (hm1.row hc (fun m b1 b2 => f2 m (by omega))) hV (m1.mono (by omega)) (hB'.congr (f1 37 (by omega)) (f1 46 (by omega)))⟩
    · show X9_value F σ1 (r : Int) = _
      unfold X9_value
      rw [f_isRule h1, bp_some, b2_if0, if_pos y, e2, bn_some]
    · have := VN_lt hc r p t a s
      rw [hu, wiN (by omega)]
  · refine ⟨_, _, _, _, _, _, (?_ : X8_value F q x σ a1 = some (-1, (q, x, σ))), (?_ : X9_value F σ a1 = some (-1, σ)), rfl, (h.mono (by omega)).inv⟩
    · unfold X8_value
      rw [e_isRuleN h1 y, bp_some, if_pos (by decide)]
    · unfold X9_value
      rw [f_isRule h1, bp_some, b2_if0, if_neg y]
theorem s_left {c : cC} {j : Nat} {q : qT} {x : List Nat} {t a s p F : Nat} {g k l : Int} {σ : sM} (h : Jn c j q x t a s p g k l σ) (hF : 5000 ≤ F) (hj : j < 900000) (a1 : Int) (h1 : wi a1 = a1) : StA (j + 20) (X8_left F q x σ a1) (fun τ => X9_left F τ a1) := by
  obtain ⟨hc, hX, hM, hW, hm, hV, hT, hI, hE, hB', hTh, htr⟩ := id h
  have c5 := hc.2.2.1
  have ha := hV.2.2.2
  have ht := hV.2.2.1
  by_cases y : 0 ≤ a1 ∧ a1 ≤ 4
  · obtain ⟨r, rfl⟩ : ∃ i : Nat, a1 = i := ⟨a1.toNat, by omega⟩
    obtain ⟨u, q', x', σ1, e1, hu, f1, m1⟩ := e_leftN (F := F) (r := r) hc hE hW hV (by omega) hj (by omega)
    have hM1 : RelM c σ1 := hM.congr (fun k b1 b2 => f1 k (by omega))
    have hm1 : WM c 0 t a s p g k l σ1 := hm.row hc (fun m b1 b2 => f1 m (by omega))
    obtain ⟨σ2, e2, f2⟩ : ∃ σ2, X9_left F σ1 (r : Int) = some ((LN c r p t a s : Int), σ2) ∧ fW σ1 σ2 := by
      unfold X9_left X9_isOver
      rw [f_isRule h1, bp_some, b2_ifn, if_pos y, hm1.1, hM1.2.2.1, wiN (n := t) (by omega), wiN (n := cK c) (by omega)]
      by_cases y : t < cK c
      · rw [if_pos (by omega), bp_some, if_pos (by decide)]
        obtain ⟨σ2, e, h1, h2, h3⟩ := f_chooseNow (F := F) (r := r) hc hM1 hm1 hV hF (by omega) y
        have hM2 : RelM c σ2 := hM1.congr (fun k b1 b2 => h1 k (by omega))
        have hm2 : WM c 0 t a s p g k l σ2 := hm1.row hc (fun m b1 b2 => h1 m (by omega))
        have hd := cN_ok hc r p t a s
        rw [e, bn_some, f_stateNow hc hM2 hm2 hV.1 (by omega), bp_some, f_behind hM2 hc (hV.1.lt hc) (mD_k hd) hd, bp_some, hm2.1, f_meanOf hM2 hc hm2.relP (by omega) (bh_Vs hc hV.1 hd) (by omega) 0 (Hg c r p (cK c - (t + 1))) (Or.inr ⟨rfl, h3⟩) (fun s => Hg_b c r p _ s), bp_some]
        refine ⟨σ2, ?_, h1⟩
        unfold LN cN
        rcases ha with z | z
        · rw [if_pos ⟨y, z⟩, if_pos z, Hg_t r p y]
        · rw [if_neg (fun h => by omega), if_neg (by omega)]
          rfl
      · rw [if_neg (by omega), bp_some, if_neg (by decide), f_now hc hM1 hm1 hV (by omega) 4 (by decide), bp_some]
        refine ⟨σ1, ?_, fun _ _ => rfl⟩
        have z : a = 0 := by omega
        unfold LN
        rw [if_pos z, show cK c - t = 0 by omega]
        show some (1000 * ((po s 0 + po s 1 + po s 2 : Nat) : Int), σ1) = some (((1000 * (po s 0 + po s 1 + po s 2) : Nat) : Int), σ1)
        exact congrArg (fun z => some (z, σ1)) (by omega)
    refine ⟨_, _, _, _, (LN c r p t a s : Int), σ2, e1, e2, ?_, h.gen (fun k hk => f1 k (by omega)) (fW_fM f2) (hW.congr (f1 26 (by omega))) (hm1.row hc (fun m b1 b2 => f2 m (by omega))) hV (m1.mono (by omega)) (hB'.congr (f1 37 (by omega)) (f1 46 (by omega)))⟩
    have := LN_lt c r p t a s
    rw [hu, wiN (by omega)]
  · refine ⟨_, _, _, _, _, _, (?_ : X8_left F q x σ a1 = some (-1, (q, x, σ))), (?_ : X9_left F σ a1 = some (-1, σ)), rfl, (h.mono (by omega)).inv⟩
    · unfold X8_left
      rw [e_isRuleN h1 y, bp_some, if_neg (by decide)]
    · unfold X9_left
      rw [f_isRule h1, bp_some, b2_ifn, if_neg y]
theorem s_choice {c : cC} {j : Nat} {q : qT} {x : List Nat} {t a s p F : Nat} {g k l : Int} {σ : sM} (h : Jn c j q x t a s p g k l σ) (hF : 5000 ≤ F) (hj : j < 900000) (a1 : Int) (h1 : wi a1 = a1) : StA (j + 20) (X8_choice F q x σ a1) (fun τ => X9_choice F τ a1) := by
  obtain ⟨hc, hX, hM, hW, hm, hV, hT, hI, hE, hB', hTh, htr⟩ := id h
  have c5 := hc.2.2.1
  have ha := hV.2.2.2
  have ht := hV.2.2.1
  by_cases y : 0 ≤ a1 ∧ a1 ≤ 4
  · obtain ⟨r, rfl⟩ : ∃ i : Nat, a1 = i := ⟨a1.toNat, by omega⟩
    obtain ⟨q', x', σ1, e1, f1, m1⟩ := e_choiceNow (F := F) (r := r) hc hX hE hW hV (by omega) hj (by omega)
    have hM1 : RelM c σ1 := hM.congr (fun k b1 b2 => f1 k (by omega))
    have hm1 : WM c 0 t a s p g k l σ1 := hm.row hc (fun m b1 b2 => f1 m (by omega))
    obtain ⟨σ2, e2, f2⟩ : ∃ σ2, X9_choice F σ1 (r : Int) = some ((cN c r p t a s : Int), σ2) ∧ fW σ1 σ2 := by
      unfold X9_choice X9_isOver
      rw [f_isRule h1, bp_some, b2_ifn, if_pos y, hm1.1, hM1.2.2.1, wiN (n := t) (by omega), wiN (n := cK c) (by omega)]
      by_cases y : t < cK c
      · rw [if_pos (by omega), bp_some, if_pos (by decide)]
        obtain ⟨σ2, e, h1, h2, h3⟩ := f_chooseNow (F := F) (r := r) hc hM1 hm1 hV hF (by omega) y
        rw [e, bn_some]
        exact ⟨σ2, rfl, h1⟩
      · rw [if_neg (by omega), bp_some, if_neg (by decide)]
        refine ⟨σ1, ?_, fun _ _ => rfl⟩
        unfold cN
        rw [if_neg (fun h => y h.1)]
        rfl
    refine ⟨_, _, _, _, (cN c r p t a s : Int), σ2, (?_ : X8_choice F q x σ (r : Int) = some ((cN c r p t a s : Int), (q', x', σ1))), e2, rfl, h.gen (fun k hk => f1 k (by omega)) (fW_fM f2) (hW.congr (f1 26 (by omega))) (hm1.row hc (fun m b1 b2 => f2 m (by omega))) hV (m1.mono (by omega)) (hB'.congr (f1 37 (by omega)) (f1 46 (by omega)))⟩
    unfold X8_choice
    rw [e_isRule (by omega), bp_some, if_neg (by decide), e1, bn_some]
  · refine ⟨_, _, _, _, _, _, (?_ : X8_choice F q x σ a1 = some (-1, (q, x, σ))), (?_ : X9_choice F σ a1 = some (-1, σ)), rfl, (h.mono (by omega)).inv⟩
    · unfold X8_choice
      rw [e_isRuleN h1 y, bp_some, if_pos (by decide)]
    · unfold X9_choice
      rw [f_isRule h1, bp_some, b2_ifn, if_neg y]
theorem bN_lt {c : cC} (hc : OkC c) (p t s k : Nat) : bN c p t s k < 11000000 := by
  unfold bN
  split
  · exact br_lt hc (fun s => Hf_b hc 4 p (t + 1) s) s k
  · omega
theorem s_brings {c : cC} {j : Nat} {q : qT} {x : List Nat} {t a s p F : Nat} {g k l : Int} {σ : sM} (h : Jn c j q x t a s p g k l σ) (hF : 5000 ≤ F) (hj : j < 900000) (a1 : Int) (h1 : wi a1 = a1) : StA (j + 20) (X8_brings F q x σ a1) (fun τ => X9_brings F τ a1) := by
  obtain ⟨hc, hX, hM, hW, hm, hV, hT, hI, hE, hB', hTh, htr⟩ := id h
  have c5 := hc.2.2.1
  have ha := hV.2.2.2
  have ht := hV.2.2.1
  by_cases y : 0 ≤ a1 ∧ a1 ≤ 6
  · obtain ⟨kk, rfl⟩ : ∃ i : Nat, a1 = i := ⟨a1.toNat, by omega⟩
    obtain ⟨b1, b2'⟩ := e_bringsN (F := F) (kk := kk) hc hX hE hW hV (by omega) hj (by omega)
    by_cases z : kk = 6 ∨ t < cK c ∧ a = 0 ∧ mD c s kk
    · obtain ⟨u, q', x', σ1, e1, hu, f1, m1⟩ := b1 z
      have hM1 : RelM c σ1 := hM.congr (fun k b1 b2 => f1 k (by omega))
      have hm1 : WM c 0 t a s p g k l σ1 := hm.row hc (fun m b1 b2 => f1 m (by omega))
      have hd : mD c s kk := by
        rcases z with z | z
        · exact Or.inl z
        · exact z.2.2
      obtain ⟨σ2, e2, f2⟩ : ∃ σ2, X9_brings F σ1 (kk : Int) = some ((bN c p t s kk : Int), σ2) ∧ fW σ1 σ2 := by
        unfold X9_brings X9_isOver bN
        simp only [jn_def]
        rw [f_in _ (kk : Int) 0 6 h1 (by decide) (by decide), bp_some, b2_ifn, if_pos y, hm1.1, hM1.2.2.1, wiN (n := t) (by omega), wiN (n := cK c) (by omega), h1]
        by_cases y : t < cK c
        · rw [if_pos (by omega), bp_some, if_pos (by decide)]
          obtain ⟨σ2, e, g1, g2, g3⟩ := f_work (F := F) (r := 4) (t := t + 1) hM1 hc hm1.relP hF (by omega) (by omega)
          have hM2 : RelM c σ2 := hM1.congr (fun k b1 b2 => g3 k (by omega))
          have hm2 : WM c 0 t a s p g k l σ2 := hm1.row hc (fun m b1 b2 => g3 m (by omega))
          rw [show ((4 : Nat) : Int) = 4 from rfl, show ((t + 1 : Nat) : Int) = (t : Int) + 1 by omega] at e
          rw [e, bn_some, f_stateNow hc hM2 hm2 hV.1 (by omega), bp_some, hm2.1, f_bringsBy hM2 hc hm2.relP (by omega) hV.1 (by omega) _ (fun s => Hf_b hc 4 p (t + 1) s) g1 hd, bp_some, if_pos y, hm1.2.1, f_stateNow hc hM1 hm1 hV.1 (by omega), bp_some, f_mayDo hM1 hc (by omega) hV.1 (by omega), bp_some, b2_ifn, if_pos hd]
          refine ⟨σ2, ?_, g3⟩
          rcases z with z | z
          · rw [if_pos (by omega)]
          · by_cases z6 : kk = 6
            · rw [if_pos (by omega)]
            · rw [if_neg (by omega), if_neg (by rw [z.2.1]; decide)]
        · rw [if_neg (by omega), bp_some, if_neg (by decide), if_neg (by omega), if_neg y]
          exact ⟨σ1, rfl, fun _ _ => rfl⟩
      refine ⟨_, _, _, _, (bN c p t s kk : Int), σ2, e1, e2, ?_, h.gen (fun k hk => f1 k (by omega)) (fW_fM f2) (hW.congr (f1 26 (by omega))) (hm1.row hc (fun m b1 b2 => f2 m (by omega))) hV (m1.mono (by omega)) (hB'.congr (f1 37 (by omega)) (f1 46 (by omega)))⟩
      have := bN_lt hc p t s kk
      rw [hu, wiN (by omega)]
    · refine ⟨_, _, _, _, _, _, b2' z, (?_ : X9_brings F σ (kk : Int) = some (-1000000, σ)), rfl, (h.mono (by omega)).inv⟩
      unfold X9_brings X9_isOver
      simp only [jn_def]
      rw [f_in _ (kk : Int) 0 6 h1 (by decide) (by decide), bp_some, b2_ifn, if_pos y, hm.1, hM.2.2.1, wiN (n := t) (by omega), wiN (n := cK c) (by omega), h1]
      by_cases y : t < cK c
      · rw [if_pos (by omega), bp_some, if_pos (by decide), if_neg (by omega), hm.2.1, f_stateNow hc hM hm hV.1 (by omega), bp_some, f_mayDo hM hc (by omega) hV.1 (by omega), bp_some, b2_ifn]
        by_cases z2 : a = 0
        · rw [if_neg (by rw [z2]; decide), if_neg (fun hd => z (Or.inr ⟨y, z2, hd⟩))]
        · rw [if_pos (by rw [wiN (by omega)]; omega)]
      · rw [if_neg (by omega), bp_some, if_neg (by decide), if_pos (by omega)]
  · refine ⟨_, _, _, _, _, _, (?_ : X8_brings F q x σ a1 = some (-1000000, (q, x, σ))), (?_ : X9_brings F σ a1 = some (-1000000, σ)), rfl, (h.mono (by omega)).inv⟩
    · unfold X8_brings
      simp only [jn_def]
      rw [h1]
      by_cases z : a1 < 0
      · rw [if_pos z]
      · rw [if_neg z, if_neg (by omega)]
    · unfold X9_brings
      rw [f_in _ a1 0 6 h1 (by decide) (by decide), bp_some, b2_ifn, if_neg y]
theorem s_spare {c : cC} {j : Nat} {q : qT} {x : List Nat} {t a s p F : Nat} {g k l : Int} {σ : sM} (h : Jn c j q x t a s p g k l σ) (hF : 5000 ≤ F) (hj : j < 900000) (a1 : Int) (h1 : wi a1 = a1) : StA (j + 20) (X8_spare F q x σ a1) (fun τ => X9_spare F τ a1) := by
  obtain ⟨hc, hX, hM, hW, hm, hV, hT, hI, hE, hB', hTh, htr⟩ := id h
  have c3 := hc.2.1
  have hp := hV.2.1
  by_cases y : 0 ≤ a1 ∧ a1 < (cW c : Int)
  · obtain ⟨w, rfl⟩ : ∃ i : Nat, a1 = i := ⟨a1.toNat, by omega⟩
    have hw : w < cW c := by omega
    have hp' := pS_lt p hp w (by omega)
    have hV' : VW c t a s (pS p w) := ⟨hV.1, hp', hV.2.2⟩
    obtain ⟨q1, x1, σ1, e1, f1, m1⟩ := e_look33 hc hE (r := 4) (p := pS p w) (by omega) hp'
    obtain ⟨st, P, P', k1, k2, hx, hmi, hk⟩ := use33 hc (by omega) m1
    subst k1
    obtain ⟨u1, τ1, e2, hu1, hm1, hf1⟩ := e_vNow (F := F) hx hmi (hW.congr (f1 26 (by omega))) hV (by omega)
    obtain ⟨n1, n2⟩ := hk τ1 hm1 hf1
    have fa := f1.trans n2
    obtain ⟨q3, x3, σ3, e3, f3, m3⟩ := e_outlook4 hc n1.me hp (by rw [fa 26 (by omega)]; exact hW.2.2.2.1)
    obtain ⟨st3, R, R', k3, k4, hx3, hmi3, hk3⟩ := use29 hc (by omega) m3
    subst k3
    have fb := fa.trans f3
    obtain ⟨u2, τ3, e4, hu2, hm3, hf3⟩ := e_vNow (F := F) hx3 hmi3 (hW.congr (fb 26 (by omega))) hV (by omega)
    obtain ⟨n3, n4⟩ := hk3 τ3 hm3 hf3
    have fc := fb.trans n4
    have e0 : X8_spare F q x σ (w : Int) = some (u1 - u2, ((R, R + 1, R + 2, R', R' + 1, R' + 2), x3, τ3)) := by
      unfold X8_spare
      rw [show ((4 : Nat) : Int) = 4 from rfl] at e1
      rw [e_isWheelN hX hc (by omega), bp_some, b2_ifn, if_pos hw, hW.2.2.2.1, pS_e p hp w (by omega), e1, bn_some]
      simp only []
      rw [if_pos k2, e2, bn_some, e3, bn_some]
      simp only [if_true]
      rw [if_pos k4, e4, bn_some]
    have hMa : RelM c τ3 := hM.congr (fun k b1 b2 => fc k (by omega))
    have hma : WM c 0 t a s p g k l τ3 := hm.row hc (fun m b1 b2 => fc m (by omega))
    obtain ⟨σa, ea, fwa⟩ := f_valueNow (F := F) (r := 4) hc hMa hma hV hF (by omega)
    have hMb : RelM c σa := hMa.congr (fun k b1 b2 => fwa k (by omega))
    have hmb : WM c 0 t a s p g k l σa := hma.row hc (fun m b1 b2 => fwa m (by omega))
    have hMc : RelM c (sU σa 73 w 1) := hMb.congr (fun k b1 b2 => sU_ne (by omega))
    have hmc : WM c 0 t a s (pS p w) g k l (sU σa 73 w 1) := by
      obtain ⟨d1, d2, d3, d4, d5, d6⟩ := hmb
      refine ⟨by rw [sU_ne (by omega)]; exact d1, by rw [sU_ne (by omega)]; exact d2, by rw [sU_ne (by omega)]; exact d3, by rw [sU_ne (by omega)]; exact d4, by rw [sU_ne (by omega)]; exact d5, fun v hv => ?_⟩
      obtain ⟨o1, o2, o3⟩ := d6 v hv
      refine ⟨by rw [sU_ne (by omega)]; exact o1, by rw [sU_ne (by omega)]; exact o2, ?_⟩
      rw [pS_s p hp w (by omega) v (by omega), show 3 * 0 + v = v by omega] at *
      by_cases z : v = w
      · subst z; rw [sUv, if_pos rfl]; rfl
      · rw [sUnj z, if_neg z]; exact o3
    obtain ⟨σb, eb, fwb⟩ := f_valueNow (F := F) (r := 4) hc hMc hmc hV' hF (by omega)
    have o3 : σa 73 w = (stp p w : Int) := (hmb.at0 hw).2.2
    have hst := stp_lt p w
    have eqz : q_z (stp p w : Int) = (stp p w : Int) := by
      rcases (show stp p w = 0 ∨ stp p w = 1 by omega) with e | e
      · rw [e]; exact q_z01.1
      · rw [e]; exact q_z01.2
    have e9 : X9_spare F τ3 (w : Int) = some ((VN c 4 (pS p w) t a s : Int) - (VN c 4 p t a s : Int), sU σb 73 w (stp p w : Int)) := by
      unfold X9_spare
      rw [show ((4 : Nat) : Int) = 4 from rfl] at ea eb
      rw [f_isWheelN hMa hc (by omega), bp_some, b2_ifn, if_pos hw, ea, bn_some, wiN (n := w) (by omega), if_pos (by omega), if_pos (by omega), Int.toNat_natCast, q_z01.2, eb, bn_some, if_pos (by omega), o3, eqz]
    have v1 := VN_lt hc 4 (pS p w) t a s
    have v2 := VN_lt hc 4 p t a s
    refine ⟨_, _, _, _, _, _, e0, e9, ?_, h.gen (σ1 := τ3) (fun k hk => fc k (by omega)) (fun k jj hk => ?_) (hW.congr (fc 26 (by omega))) ?_ hV (n3.me.mono (by omega)) (hB'.congr (fc 37 (by omega)) (fc 46 (by omega)))⟩
    · have e5 : wi (u1 - u2) = wi (wi u1 - wi u2) := by
        unfold wi
        rw [Int32.ofInt_sub, Int32.ofInt_sub, Int32.ofInt_toInt, Int32.ofInt_toInt]
      rw [e5, hu1, hu2]
    · by_cases z : k = 73
      · rw [z, sUnj (by omega), fwb 73 (by omega), sUnj (by omega), fwa 73 (by omega)]
      · rw [sU_ne z, fW_fM fwb k jj hk, sU_ne z, fW_fM fwa k jj hk]
    · obtain ⟨d1, d2, d3, d4, d5, d6⟩ := hmb
      refine ⟨by rw [sU_ne (by omega), fwb 66 (by omega), sU_ne (by omega)]; exact d1, by rw [sU_ne (by omega), fwb 67 (by omega), sU_ne (by omega)]; exact d2, by rw [sU_ne (by omega), fwb 68 (by omega), sU_ne (by omega)]; exact d3, by rw [sU_ne (by omega), fwb 69 (by omega), sU_ne (by omega)]; exact d4, by rw [sU_ne (by omega), fwb 70 (by omega), sU_ne (by omega)]; exact d5, fun v hv => ?_⟩
      obtain ⟨o1, o2, o3⟩ := d6 v hv
      refine ⟨by rw [sU_ne (by omega), fwb 71 (by omega), sU_ne (by omega)]; exact o1, by rw [sU_ne (by omega), fwb 72 (by omega), sU_ne (by omega)]; exact o2, ?_⟩
      rw [show 3 * 0 + v = v by omega] at *
      by_cases z : v = w
      · subst z; rw [sUv]
      · rw [sUnj z, fwb 73 (by omega), sUnj z]; exact o3
  · refine ⟨_, _, _, _, _, _, (?_ : X8_spare F q x σ a1 = some (-1000000, (q, x, σ))), (?_ : X9_spare F σ a1 = some (-1000000, σ)), rfl, (h.mono (by omega)).inv⟩
    · unfold X8_spare
      rw [e_isWheel hX hc a1 h1, bp_some, b2_ifn, if_neg y]
    · unfold X9_spare
      rw [f_isWheel hM hc a1 h1, bp_some, b2_ifn, if_neg y]
