theorem Me29.me {c : cC} {j r p : Nat} {q : qT} {x : List Nat} {σ : sM} (h : Me29 c j r p q x σ) : Me c j q x σ := by
  obtain ⟨st, r', p', st', P, P', h1, h2, h3, h4, h5, h6, h7⟩ := h
  exact ⟨r, p, st, r', p', st', P, P', h1, h2, h3, h4, h5, h6⟩
theorem Me33.me {c : cC} {j r p : Nat} {q : qT} {x : List Nat} {σ : sM} (h : Me33 c j r p q x σ) : Me c j q x σ := by
  obtain ⟨st, r', p', st', P, P', h1, h2, h3, h4, h5, h6, h7⟩ := h
  exact ⟨r', p', st', r, p, st, P, P', h1, h2, h3, h4, h5, h6⟩
theorem use29 {c : cC} {j r p : Nat} {q : qT} {x : List Nat} {σ : sM} (hc : OkC c) (hj : j < 1000000) (h : Me29 c j r p q x σ) : ∃ st P P', q = (P, P + 1, P + 2, P', P' + 1, P' + 2) ∧ okO P (P + 1) (P + 2) x = true ∧ Fx c r p st 29 P (P + 1) (P + 2) (lnA P x) ∧ MI c r p st 29 P (P + 1) (P + 2) (lnA P x) σ ∧ ∀ σ', MI c r p st 29 P (P + 1) (P + 2) (lnA P x) σ' → Fr P (P + 1) (P + 2) σ σ' → Me29 c j r p q x σ' ∧ fO σ σ' := by
  obtain ⟨st, r', p', st', P, P', h1, h2, h3, h4, h5, h6, h7⟩ := h
  obtain ⟨m1, m2, m3, m4, m5, m6, m7, m8⟩ := id h2
  have g3 := h3.2.2.2.1
  refine ⟨st, P, P', h1, okO_of (by omega) m5 m6, ⟨hc, m1, m2, by omega, by omega, by rw [shC29]; omega, m7, h7⟩, m8, fun σ' hm hf => ⟨⟨st, r', p', st', P, P', h1, ⟨m1, m2, m3, m4, m5, m6, m7, hm⟩, ?_, h4, h5, h6, h7⟩, fun k hk => hf k (by omega) (by omega) (by omega)⟩⟩
  exact h3.congr hc (fun k d1 d2 => hf k (by omega) (by omega) (by omega)) (hf _ (by omega) (by omega) (by omega)) (hf _ (by omega) (by omega) (by omega)) (hf _ (by omega) (by omega) (by omega)) (hf _ (by omega) (by omega) (by omega)) (hf _ (by rw [shC33]; omega) (by rw [shC33]; omega) (by rw [shC33]; omega))
theorem use33 {c : cC} {j r p : Nat} {q : qT} {x : List Nat} {σ : sM} (hc : OkC c) (hj : j < 1000000) (h : Me33 c j r p q x σ) : ∃ st P P', q = (P, P + 1, P + 2, P', P' + 1, P' + 2) ∧ okO P' (P' + 1) (P' + 2) x = true ∧ Fx c r p st 33 P' (P' + 1) (P' + 2) (lnA P' x) ∧ MI c r p st 33 P' (P' + 1) (P' + 2) (lnA P' x) σ ∧ ∀ σ', MI c r p st 33 P' (P' + 1) (P' + 2) (lnA P' x) σ' → Fr P' (P' + 1) (P' + 2) σ σ' → Me33 c j r p q x σ' ∧ fO σ σ' := by
  obtain ⟨st, r', p', st', P, P', h1, h2, h3, h4, h5, h6, h7⟩ := h
  obtain ⟨m1, m2, m3, m4, m5, m6, m7, m8⟩ := id h3
  have g3 := h2.2.2.2.1
  refine ⟨st, P, P', h1, okO_of (by omega) m5 m6, ⟨hc, m1, m2, by omega, by omega, by rw [shC33]; omega, m7, h7⟩, m8, fun σ' hm hf => ⟨⟨st, r', p', st', P, P', h1, ?_, ⟨m1, m2, m3, m4, m5, m6, m7, hm⟩, h4, h5, h6, h7⟩, fun k hk => hf k (by omega) (by omega) (by omega)⟩⟩
  exact h2.congr hc (fun k d1 d2 => hf k (by omega) (by omega) (by omega)) (hf _ (by omega) (by omega) (by omega)) (hf _ (by omega) (by omega) (by omega)) (hf _ (by omega) (by omega) (by omega)) (hf _ (by omega) (by omega) (by omega)) (hf _ (by rw [shC29]; omega) (by rw [shC29]; omega) (by rw [shC29]; omega))
def VN (c : cC) (r p t a s : Nat) : Nat := if a = 0 then Hf c r p (cK c - t) s else vV c r p t s
def LN (c : cC) (r p t a s : Nat) : Nat := if a = 0 then Hg c r p (cK c - t) s else vW c r p t s
def cN (c : cC) (r p t a s : Nat) : Nat := if t < cK c ∧ a = 0 then ch c r p t (Hf c r p (cK c - (t + 1))) s else 6
theorem cN_ok {c : cC} (hc : OkC c) (r p t a s : Nat) : mD c s (cN c r p t a s) := by
  unfold cN
  split
  · exact ch_ok hc _ _ _ _ _
  · exact Or.inl rfl
theorem VN_lt {c : cC} (hc : OkC c) (r p t a s : Nat) : VN c r p t a s < 10000000 := by
  unfold VN
  split
  · exact Hf_b hc r p t s
  · exact vV_lt hc r p t s
theorem LN_lt (c : cC) (r p t a s : Nat) : LN c r p t a s < 10000000 := by
  unfold LN
  split
  · exact Hg_b c r p _ s
  · exact vW_lt c r p t s
theorem e_vNow {c : cC} {r p st o P V W n F t a s p0 : Nat} {g k l : Int} {σ : sM} (hx : Fx c r p st o P V W n) (hm : MI c r p st o P V W n σ) (hW : WX 26 t a s p0 g k l σ) (hV : VW c t a s p0) (hF : 10 ≤ F) : Rs c r p st o P V W n σ (X8_valueNow F o P V W n σ) (VN c r p t a s) := by
  have hc := hx.1
  have ha := hV.2.2.2
  have ht := hV.2.2.1
  have c5 := hc.2.2.1
  unfold X8_valueNow VN
  rw [hW.1, hW.2.1, hW.2.2.1]
  rcases ha with z | z
  · subst z
    rw [if_pos (by decide), if_pos rfl]
    obtain ⟨u, τ, e, hu, hm1, hf1⟩ := e_ahead hx hF (cK c - t) t (by omega) 80 (by omega) σ _ hm hV.1
    rw [e, bn_some]
    exact ⟨_, _, rfl, hu, hm1, hf1⟩
  · obtain ⟨z, z2⟩ := z
    subst z
    rw [if_neg (by decide), if_neg (by decide)]
    obtain ⟨u, τ, e, hu, hm1, hf1⟩ := (e_week hx hF z2).1 80 (by omega) σ _ hm hV.1
    rw [e, bn_some]
    exact ⟨_, _, rfl, hu, hm1, hf1⟩
theorem e_isRule {σ : sM} {r : Nat} (hr : r ≤ 4) : X8_isRule σ (r : Int) = some 1 := by
  unfold X8_isRule
  rw [if_neg (by rw [wiN (by omega)]; omega), if_neg (by rw [wiN (by omega)]; omega)]
theorem e_isRuleN {σ : sM} {a : Int} (h : wi a = a) (hr : ¬ (0 ≤ a ∧ a ≤ 4)) : X8_isRule σ a = some 0 := by
  unfold X8_isRule
  rw [h]
  by_cases q : a < 0
  · rw [if_pos q]
  · rw [if_neg q, if_pos (by omega)]
theorem f_isRule {σ : sM} {a : Int} (h : wi a = a) : X9_isRule σ a = some (b2 (0 ≤ a ∧ a ≤ 4)) := by
  unfold X9_isRule
  rw [f_in σ a 0 4 h (by decide) (by decide), bp_some, b2_if1]
theorem e_outlook4 {c : cC} {j : Nat} {q : qT} {x : List Nat} {p : Nat} {σ : sM} (hc : OkC c) (h : Me c j q x σ) (hp : p < 8) (hw : σ 26 3 = (p : Int)) : ∃ q' x' σ', X8_outlookBy q x σ 4 = some (29, (q', x', σ')) ∧ fO σ σ' ∧ Me29 c (j + 1) 4 p q' x' σ' := by
  obtain ⟨q', x', σ', e, f, m⟩ := e_look29 hc h (r := 4) (p := p) (by omega) hp
  refine ⟨q', x', σ', ?_, f, m⟩
  unfold X8_outlookBy
  rw [show ((4 : Nat) : Int) = 4 from rfl] at e
  rw [if_neg (by decide), hw, e, bn_some]
  rfl
theorem e_outlookR {c : cC} {j : Nat} {q : qT} {x : List Nat} {p r : Nat} {σ : sM} (hc : OkC c) (h : Me c j q x σ) (hp : p < 8) (hw : σ 26 3 = (p : Int)) (hr : r < 4) : ∃ q' x' σ', X8_outlookBy q x σ (r : Int) = some (33, (q', x', σ')) ∧ fO σ σ' ∧ Me33 c (j + 1) r p q' x' σ' := by
  obtain ⟨q', x', σ', e, f, m⟩ := e_look33 hc h (r := r) (p := p) (by omega) hp
  refine ⟨q', x', σ', ?_, f, m⟩
  unfold X8_outlookBy
  rw [if_pos (by rw [wiN (by omega)]; omega), hw, e, bn_some]
  rfl
/-- an answer of a method that may make rows -/
def RA (c : cC) (j : Nat) (σ : sM) (o : Option (Int × qT × List Nat × sM)) (v : Nat) : Prop := ∃ u q' x' σ1, o = some (u, (q', x', σ1)) ∧ wi u = (v : Int) ∧ fO σ σ1 ∧ Me c j q' x' σ1
theorem e_value {c : cC} {j : Nat} {q : qT} {x : List Nat} {t a s p r F : Nat} {g k l : Int} {σ : sM} (hc : OkC c) (h : Me c j q x σ) (hW : WX 26 t a s p g k l σ) (hV : VW c t a s p) (hF : 10 ≤ F) (hj : j < 900000) (hr : r ≤ 4) : RA c (j + 1) σ (X8_value F q x σ (r : Int)) (VN c r p t a s) := by
  unfold X8_value
  rw [e_isRule hr, bp_some, if_neg (by decide)]
  by_cases z : r = 4
  · subst z
    obtain ⟨q', x', σ', e, f, m⟩ := e_outlook4 hc h hV.2.1 hW.2.2.2.1
    obtain ⟨st, P, P', e1, e2, hx, hm, hk⟩ := use29 hc (by omega) m
    rw [show ((4 : Nat) : Int) = 4 from rfl, e, bn_some]
    subst e1
    obtain ⟨u, τ, e3, hu, hm1, hf1⟩ := e_vNow hx hm (hW.congr (f 26 (by omega))) hV hF
    simp only [if_true]
    rw [if_pos e2, e3, bn_some]
    obtain ⟨k1, k2⟩ := hk τ hm1 hf1
    exact ⟨_, _, _, _, rfl, hu, f.trans k2, k1.me⟩
  · obtain ⟨q', x', σ', e, f, m⟩ := e_outlookR (r := r) hc h hV.2.1 hW.2.2.2.1 (by omega)
    obtain ⟨st, P, P', e1, e2, hx, hm, hk⟩ := use33 hc (by omega) m
    rw [e, bn_some]
    subst e1
    obtain ⟨u, τ, e3, hu, hm1, hf1⟩ := e_vNow hx hm (hW.congr (f 26 (by omega))) hV hF
    simp only [if_true, if_neg (show ¬ (33 : Int) = 29 by decide)]
    rw [if_pos e2, e3, bn_some]
    obtain ⟨k1, k2⟩ := hk τ hm1 hf1
    exact ⟨_, _, _, _, rfl, hu, f.trans k2, k1.me⟩
theorem e_leftX {c : cC} {r p st o P V W n F t a s p0 : Nat} {σ : sM} (hx : Fx c r p st o P V W n) (hm : MI c r p st o P V W n σ) (hV : VW c t a s p0) (hF : 10 ≤ F) : (a = 0 → Rs c r p st o P V W n σ (OUT F o P V W n 80 7 σ (t : Int) (s : Int) 0) (LN c r p t a s)) ∧ (a = 1 → Rs c r p st o P V W n σ (OUT F o P V W n 80 9 σ (t : Int) (s : Int) 0) (LN c r p t a s)) := by
  have hc := hx.1
  have ha := hV.2.2.2
  have ht := hV.2.2.1
  have c5 := hc.2.2.1
  constructor
  · intro z
    subst z
    obtain ⟨u, τ, e, hu, hm1, hf1⟩ := e_left hx hF (cK c - t) t (by omega) 80 (by omega) σ _ hm hV.1
    refine ⟨_, _, e, ?_, hm1, hf1⟩
    unfold LN
    rw [hu, if_pos rfl]
  · intro z
    subst z
    obtain ⟨u, τ, e, hu, hm1, hf1⟩ := e_leftB hx hF (show t < cK c by omega) 80 (by omega) σ _ hm hV.1
    refine ⟨_, _, e, ?_, hm1, hf1⟩
    unfold LN
    rw [hu, if_neg (by decide)]
theorem e_leftN {c : cC} {j : Nat} {q : qT} {x : List Nat} {t a s p r F : Nat} {g k l : Int} {σ : sM} (hc : OkC c) (h : Me c j q x σ) (hW : WX 26 t a s p g k l σ) (hV : VW c t a s p) (hF : 10 ≤ F) (hj : j < 900000) (hr : r ≤ 4) : RA c (j + 1) σ (X8_left F q x σ (r : Int)) (LN c r p t a s) := by
  have ha := hV.2.2.2
  unfold X8_left
  rw [e_isRule hr, bp_some, if_pos (by decide), hW.2.1]
  by_cases z : r = 4
  · subst z
    obtain ⟨q', x', σ', e, f, m⟩ := e_outlook4 hc h hV.2.1 hW.2.2.2.1
    obtain ⟨st, P, P', e1, e2, hx, hm, hk⟩ := use29 hc (by omega) m
    rw [show ((4 : Nat) : Int) = 4 from rfl, e, bn_some, bn_some]
    subst e1
    simp only [if_true, if_pos e2]
    rw [f 26 (by omega), hW.1, hW.2.2.1]
    obtain ⟨y0, y1⟩ := e_leftX (F := F) hx hm hV hF
    rcases ha with z | z
    · rw [if_pos (by rw [z]; decide)]
      obtain ⟨u, τ, e3, hu, hm1, hf1⟩ := y0 z
      rw [e3, bn_some]
      obtain ⟨k1, k2⟩ := hk τ hm1 hf1
      exact ⟨_, _, _, _, rfl, hu, f.trans k2, k1.me⟩
    · rw [if_neg (by rw [z.1]; decide)]
      obtain ⟨u, τ, e3, hu, hm1, hf1⟩ := y1 z.1
      rw [e3, bn_some]
      obtain ⟨k1, k2⟩ := hk τ hm1 hf1
      exact ⟨_, _, _, _, rfl, hu, f.trans k2, k1.me⟩
  · obtain ⟨q', x', σ', e, f, m⟩ := e_outlookR (r := r) hc h hV.2.1 hW.2.2.2.1 (by omega)
    obtain ⟨st, P, P', e1, e2, hx, hm, hk⟩ := use33 hc (by omega) m
    rw [e, bn_some, bn_some]
    subst e1
    simp only [if_true, if_neg (show ¬ (33 : Int) = 29 by decide), if_pos e2]
    rw [f 26 (by omega), hW.1, hW.2.2.1]
    obtain ⟨y0, y1⟩ := e_leftX (F := F) hx hm hV hF
    rcases ha with z | z
    · rw [if_pos (by rw [z]; decide)]
      obtain ⟨u, τ, e3, hu, hm1, hf1⟩ := y0 z
      rw [e3, bn_some]
      obtain ⟨k1, k2⟩ := hk τ hm1 hf1
      exact ⟨_, _, _, _, rfl, hu, f.trans k2, k1.me⟩
    · rw [if_neg (by rw [z.1]; decide)]
      obtain ⟨u, τ, e3, hu, hm1, hf1⟩ := y1 z.1
      rw [e3, bn_some]
      obtain ⟨k1, k2⟩ := hk τ hm1 hf1
      exact ⟨_, _, _, _, rfl, hu, f.trans k2, k1.me⟩
/-- the same with the answer itself -/
def RAE (c : cC) (j : Nat) (σ : sM) (o : Option (Int × qT × List Nat × sM)) (v : Nat) : Prop := ∃ q' x' σ1, o = some ((v : Int), (q', x', σ1)) ∧ fO σ σ1 ∧ Me c j q' x' σ1
theorem e_choiceNow {c : cC} {j : Nat} {q : qT} {x : List Nat} {t a s p r F : Nat} {g k l : Int} {σ : sM} (hc : OkC c) (hX : RelX c σ) (h : Me c j q x σ) (hW : WX 26 t a s p g k l σ) (hV : VW c t a s p) (hF : 10 ≤ F) (hj : j < 900000) (hr : r ≤ 4) : RAE c (j + 1) σ (X8_choiceNow F q x σ (r : Int)) (cN c r p t a s) := by
  have c5 := hc.2.2.1
  unfold X8_choiceNow cN
  rw [e_mayActNow hc hX hW hV, bp_some, b2_if0]
  by_cases y : t < cK c ∧ a = 0
  · rw [if_pos y, if_pos y]
    by_cases z : r = 4
    · subst z
      obtain ⟨q', x', σ', e, f, m⟩ := e_outlook4 hc h hV.2.1 hW.2.2.2.1
      obtain ⟨st, P, P', e1, e2, hx, hm, hk⟩ := use29 hc (by omega) m
      rw [show ((4 : Nat) : Int) = 4 from rfl, e, bn_some]
      subst e1
      simp only [if_true]
      rw [f 26 (by omega), hW.2.2.1, hW.1, if_pos e2]
      obtain ⟨τ, e3, hm1, hf1⟩ := (e_week hx hF y.1).2.2 80 (by omega) σ' _ hm hV.1
      rw [e3, bn_some]
      obtain ⟨k1, k2⟩ := hk τ hm1 hf1
      exact ⟨_, _, _, rfl, f.trans k2, k1.me⟩
    · obtain ⟨q', x', σ', e, f, m⟩ := e_outlookR (r := r) hc h hV.2.1 hW.2.2.2.1 (by omega)
      obtain ⟨st, P, P', e1, e2, hx, hm, hk⟩ := use33 hc (by omega) m
      rw [e, bn_some]
      subst e1
      simp only [if_true, if_neg (show ¬ (33 : Int) = 29 by decide)]
      rw [f 26 (by omega), hW.2.2.1, hW.1, if_pos e2]
      obtain ⟨τ, e3, hm1, hf1⟩ := (e_week hx hF y.1).2.2 80 (by omega) σ' _ hm hV.1
      rw [e3, bn_some]
      obtain ⟨k1, k2⟩ := hk τ hm1 hf1
      exact ⟨_, _, _, rfl, f.trans k2, k1.me⟩
  · rw [if_neg y, if_neg y]
    exact ⟨_, _, _, rfl, fO.refl _, h.mono (Nat.le_succ j)⟩
def bN (c : cC) (p t s k : Nat) : Nat := if t < cK c then br c p t (Hf c 4 p (cK c - (t + 1))) s k else 0
theorem e_bringsN {c : cC} {j : Nat} {q : qT} {x : List Nat} {t a s p kk F : Nat} {g k l : Int} {σ : sM} (hc : OkC c) (hX : RelX c σ) (h : Me c j q x σ) (hW : WX 26 t a s p g k l σ) (hV : VW c t a s p) (hF : 10 ≤ F) (hj : j < 900000) (hk7 : kk < 7) : ((kk = 6 ∨ t < cK c ∧ a = 0 ∧ mD c s kk) → RA c (j + 1) σ (X8_brings F q x σ (kk : Int)) (bN c p t s kk)) ∧ (¬ (kk = 6 ∨ t < cK c ∧ a = 0 ∧ mD c s kk) → X8_brings F q x σ (kk : Int) = some (-1000000, (q, x, σ))) := by
  have c5 := hc.2.2.1
  have ht := hV.2.2.1
  have hs := hV.1.lt hc
  unfold X8_brings
  simp only [jn_def]
  rw [wiN (n := kk) (by omega), if_neg (by omega), if_pos (by omega), e_mayActNow hc hX hW hV, bp_some, b2_if0, hW.2.2.1, e_mayBe hX hc hF hs hk7, bp_some, b2_ifn]
  constructor
  · intro hy
    have hd : mD c s kk := by
      rcases hy with y | y
      · exact Or.inl y
      · exact y.2.2
    have main : RA c (j + 1) σ (bn (X8_outlookBy q x σ 4) (fun r7 σ9 => if r7 = 29 then if okO σ9.1.1 σ9.1.2.1 σ9.1.2.2.1 σ9.2.1 = true then bn (OUT F 29 σ9.1.1 σ9.1.2.1 σ9.1.2.2.1 (lnA σ9.1.1 σ9.2.1) 80 4 σ9.2.2 (σ9.2.2 26 0) (σ9.2.2 26 2) (kk : Int)) (fun r12 σ14 => some (r12, (σ9.1, σ9.2.1, σ14))) else none else if r7 = 33 then if okO σ9.1.2.2.2.1 σ9.1.2.2.2.2.1 σ9.1.2.2.2.2.2 σ9.2.1 = true then bn (OUT F 33 σ9.1.2.2.2.1 σ9.1.2.2.2.2.1 σ9.1.2.2.2.2.2 (lnA σ9.1.2.2.2.1 σ9.2.1) 80 4 σ9.2.2 (σ9.2.2 26 0) (σ9.2.2 26 2) (kk : Int)) (fun r17 σ19 => some (r17, (σ9.1, σ9.2.1, σ19))) else none else none)) (bN c p t s kk) := by
      obtain ⟨q', x', σ', e, f, m⟩ := e_outlook4 hc h hV.2.1 hW.2.2.2.1
      obtain ⟨st, P, P', e1, e2, hx, hm, hk⟩ := use29 hc (by omega) m
      rw [e, bn_some]
      subst e1
      simp only [if_true]
      rw [f 26 (by omega), hW.2.2.1, hW.1, if_pos e2]
      have hd' : mD c s kk := hd
      have hR : Rs c 4 p st 29 P (P + 1) (P + 2) (lnA P x') σ' (OUT F 29 P (P + 1) (P + 2) (lnA P x') 80 4 σ' (t : Int) (s : Int) (kk : Int)) (bN c p t s kk) := by
        unfold bN
        by_cases y : t < cK c
        · rw [if_pos y]
          exact (e_week hx hF y).2.1 80 (by omega) σ' _ kk hm hV.1 hd'
        · have k6 : kk = 6 := by omega
          subst k6
          rw [if_neg y]
          show Rs c 4 p st 29 P (P + 1) (P + 2) (lnA P x') σ' (X3_broughtBy F (OUT F 29 P (P + 1) (P + 2) (lnA P x') 79) 29 P (P + 1) (P + 2) (lnA P x') σ' (t : Int) (s : Int) ((6 : Nat) : Int)) 0
          have := e_broughtBy (k := 6) (v := 0) hx hm (show t < 1000 by omega) hV.1 hd' F (OUT F 29 P (P + 1) (P + 2) (lnA P x') 79) (by omega) (by
            show Rs c 4 p st 29 P (P + 1) (P + 2) (lnA P x') σ' (X3_valueBehind F (OUT F 29 P (P + 1) (P + 2) (lnA P x') 78) 29 P (P + 1) (P + 2) (lnA P x') σ' (t : Int) (sb s 6 : Int)) 0
            have := e_valueBehind hx hm (show t < 1000 by omega) (sb_Vs hc hV.1 hd') F (OUT F 29 P (P + 1) (P + 2) (lnA P x') 78) (fun z => absurd z y)
            rw [if_neg y] at this
            exact this)
          exact this
      obtain ⟨u, τ, e3, hu, hm1, hf1⟩ := hR
      rw [e3, bn_some]
      obtain ⟨k1, k2⟩ := hk τ hm1 hf1
      exact ⟨_, _, _, _, rfl, hu, f.trans k2, k1.me⟩
    rcases hy with y | y
    · rw [if_pos (by omega)]; exact main
    · by_cases z : kk = 6
      · rw [if_pos (by omega)]; exact main
      · rw [if_neg (by omega), if_pos ⟨y.1, y.2.1⟩, if_pos hd]; exact main
  · intro hy
    rw [if_neg (by omega)]
    by_cases y : t < cK c ∧ a = 0
    · rw [if_pos y, if_neg (fun z => hy (Or.inr ⟨y.1, y.2, z⟩))]
    · rw [if_neg y]
