/-- A WINTER in the class's cell o -/
def WX (o t a s p : Nat) (g k l : Int) (σ : sM) : Prop := σ o 0 = (t : Int) ∧ σ o 1 = (a : Int) ∧ σ o 2 = (s : Int) ∧ σ o 3 = (p : Int) ∧ σ o 4 = g ∧ σ o 5 = k ∧ σ o 6 = l
/-- the same in the reference's rows, place i -/
def WM (c : cC) (i t a s p : Nat) (g k l : Int) (σ : sM) : Prop := σ 66 i = (t : Int) ∧ σ 67 i = (a : Int) ∧ σ 68 i = g ∧ σ 69 i = k ∧ σ 70 i = l ∧ ∀ w, w < cW c → σ 71 (3 * i + w) = (sp s w : Int) ∧ σ 72 (3 * i + w) = (po s w : Int) ∧ σ 73 (3 * i + w) = (stp p w : Int)
def VW (c : cC) (t a s p : Nat) : Prop := Vs c s ∧ p < 8 ∧ t ≤ cK c ∧ (a = 0 ∨ a = 1 ∧ t < cK c)
def Tx (σ : sM) : Prop := ∃ n : Nat, n ≤ 400 ∧ σ 0 1 = (n : Int) ∧ σ 55 2 = (n : Int) ∧ ∀ i, i < n → σ 1 i = σ 56 i ∧ -128 ≤ σ 1 i ∧ σ 1 i ≤ 127
def Im (c : cC) (σ : sM) : Prop := ∀ i, i < 2 → ∃ b : Nat, σ (27 + i) 7 = (b : Int) ∧ σ 74 i = (b : Int) ∧ (b = 0 ∨ b = 1 ∧ ∃ t a s p g k l, WX (27 + i) t a s p g k l σ ∧ WM c (1 + i) t a s p g k l σ ∧ VW c t a s p)
/-- the sizes that a row may have -/
def szL : List Nat := [8, 40, 72, 104, 200, 360, 520, 648, 936, 1000, 1352, 1800, 2600, 3240, 4680, 5832, 6760, 8424, 12168, 17576]
def kS (n : Nat) : Nat := (szL.filter (fun z => decide (z ≤ n))).sum
def kC (n : Nat) : Nat := (szL.filter (fun z => decide (z ≤ n))).length
def MO (c : cC) (j r p st o P : Nat) (x : List Nat) (σ : sM) : Prop := r ≤ 4 ∧ p < 8 ∧ (1 ≤ st ∧ st ≤ j) ∧ (P = o + 1 ∨ 88 ≤ P ∧ P + 3 ≤ 88 + x.length) ∧ lnA (P + 1) x = lnA P x ∧ lnA (P + 2) x = lnA P x ∧ lnA P x ≤ 32768 ∧ MI c r p st o P (P + 1) (P + 2) (lnA P x) σ
def Me (c : cC) (j : Nat) (q : qT) (x : List Nat) (σ : sM) : Prop := ∃ r p st r' p' st' P P', q = (P, P + 1, P + 2, P', P' + 1, P' + 2) ∧ MO c j r p st 29 P x σ ∧ MO c j r' p' st' 33 P' x σ ∧ (P + 3 ≤ P' ∨ P' + 3 ≤ P) ∧ x.length ≤ 3 * (kC (lnA P x) + kC (lnA P' x)) ∧ x.sum ≤ 3 * (kS (lnA P x) + kS (lnA P' x))
theorem shC29 : shC 29 = 86 := rfl
theorem shC33 : shC 33 = 87 := rfl
theorem WX.congr {o t a s p : Nat} {g k l : Int} {σ σ' : sM} (h : WX o t a s p g k l σ) (e : σ' o = σ o) : WX o t a s p g k l σ' := by
  unfold WX at *; rw [e]; exact h
theorem MI.congr {c : cC} {r p st o P V W n : Nat} {σ σ' : sM} (hc : OkC c) (h : MI c r p st o P V W n σ) (h1 : ∀ k, 2 ≤ k → k ≤ 11 → σ' k = σ k) (h2 : σ' o = σ o) (h3 : σ' P = σ P) (h4 : σ' V = σ V) (h5 : σ' W = σ W) (h6 : σ' (shC o) = σ (shC o)) : MI c r p st o P V W n σ' := by
  obtain ⟨m1, m2, m3, m4, m5, m6, m7, m8⟩ := h
  refine ⟨m1.congr hc h1, by rw [h2]; exact m2, by rw [h2]; exact m3, ⟨by rw [h2]; exact m4.1, m4.2.congr h6⟩, by rw [h2]; exact m5, ?_, ?_, ?_⟩
  · intro i hi; rw [h3]; exact m6 i hi
  · intro i hi; rw [h4]; exact m7 i hi
  · intro i hi; rw [h5]; exact m8 i hi
theorem MO.congr {c : cC} {j r p st o P : Nat} {x : List Nat} {σ σ' : sM} (hc : OkC c) (h : MO c j r p st o P x σ) (h1 : ∀ k, 2 ≤ k → k ≤ 11 → σ' k = σ k) (h2 : σ' o = σ o) (h3 : σ' P = σ P) (h4 : σ' (P + 1) = σ (P + 1)) (h5 : σ' (P + 2) = σ (P + 2)) (h6 : σ' (shC o) = σ (shC o)) : MO c j r p st o P x σ' := by
  obtain ⟨m1, m2, m3, m4, m5, m6, m7, m8⟩ := h
  exact ⟨m1, m2, m3, m4, m5, m6, m7, m8.congr hc h1 h2 h3 h4 h5 h6⟩
theorem MO.mono {c : cC} {j j' r p st o P : Nat} {x : List Nat} {σ : sM} (h : MO c j r p st o P x σ) (hj : j ≤ j') : MO c j' r p st o P x σ := by
  obtain ⟨m1, m2, m3, m4, m5, m6, m7, m8⟩ := h
  exact ⟨m1, m2, ⟨m3.1, by omega⟩, m4, m5, m6, m7, m8⟩
theorem Me.congr {c : cC} {j : Nat} {q : qT} {x : List Nat} {σ σ' : sM} (hc : OkC c) (h : Me c j q x σ) (he : ∀ k, 2 ≤ k ∧ k ≤ 11 ∨ 29 ≤ k ∧ k ≤ 36 ∨ 86 ≤ k → σ' k = σ k) : Me c j q x σ' := by
  obtain ⟨r, p, st, r', p', st', P, P', h1, h2, h3, h4, h5, h6⟩ := h
  have g2 := h2.2.2.2.1
  have g3 := h3.2.2.2.1
  exact ⟨r, p, st, r', p', st', P, P', h1, h2.congr hc (fun k a b => he k (by omega)) (he _ (by omega)) (he _ (by omega)) (he _ (by omega)) (he _ (by omega)) (he _ (by rw [shC29]; omega)), h3.congr hc (fun k a b => he k (by omega)) (he _ (by omega)) (he _ (by omega)) (he _ (by omega)) (he _ (by omega)) (he _ (by rw [shC33]; omega)), h4, h5, h6⟩
theorem Me.mono {c : cC} {j j' : Nat} {q : qT} {x : List Nat} {σ : sM} (h : Me c j q x σ) (hj : j ≤ j') : Me c j' q x σ := by
  obtain ⟨r, p, st, r', p', st', P, P', h1, h2, h3, h4, h5, h6⟩ := h
  exact ⟨r, p, st, r', p', st', P, P', h1, h2.mono hj, h3.mono hj, h4, h5, h6⟩
/-- what the reference's winter methods may change -/
def fM (σ σ' : sM) : Prop := ∀ k j, (k < 66 ∨ k = 74 ∨ 85 ≤ k ∨ (66 ≤ k ∧ k ≤ 70 ∧ j ≠ 0) ∨ (71 ≤ k ∧ k ≤ 73 ∧ 3 ≤ j)) → σ' k j = σ k j
theorem fM.refl (σ : sM) : fM σ σ := fun _ _ _ => rfl
theorem fM.trans {a b d : sM} (h : fM a b) (h2 : fM b d) : fM a d := fun k j hk => by rw [h2 k j hk, h k j hk]
theorem fW_fM {σ σ' : sM} (h : fW σ σ') : fM σ σ' := fun k j hk => by rw [h k (by omega)]
theorem fM.row {σ σ' : sM} (h : fM σ σ') {k : Nat} (hk : k < 66 ∨ k = 74 ∨ 85 ≤ k) : σ' k = σ k := funext fun j => h k j (by omega)
/-- what the class's winter methods may change -/
def fX (σ σ' : sM) : Prop := ∀ k, (k < 26 ∨ k = 27 ∨ k = 28 ∨ (47 ≤ k ∧ k ≤ 85 ∧ k ≠ 48)) → σ' k = σ k
theorem fX.refl (σ : sM) : fX σ σ := fun _ _ => rfl
theorem fX.trans {a b d : sM} (h : fX a b) (h2 : fX b d) : fX a d := fun k hk => by rw [h2 k hk, h k hk]
theorem WM.congr {c : cC} {i t a s p : Nat} {g k l : Int} {σ σ' : sM} (hc : OkC c) (h : WM c i t a s p g k l σ) (he : ∀ m, 66 ≤ m → m ≤ 70 → σ' m i = σ m i) (he2 : ∀ m w, 71 ≤ m → m ≤ 73 → w < 3 → σ' m (3 * i + w) = σ m (3 * i + w)) : WM c i t a s p g k l σ' := by
  obtain ⟨h1, h2, h3, h4, h5, h6⟩ := h
  have h7 := hc.2.1
  refine ⟨by rw [he 66 (by omega) (by omega)]; exact h1, by rw [he 67 (by omega) (by omega)]; exact h2, by rw [he 68 (by omega) (by omega)]; exact h3, by rw [he 69 (by omega) (by omega)]; exact h4, by rw [he 70 (by omega) (by omega)]; exact h5, fun w hw => ?_⟩
  rw [he2 71 w (by omega) (by omega) (by omega), he2 72 w (by omega) (by omega) (by omega), he2 73 w (by omega) (by omega) (by omega)]
  exact h6 w hw
theorem WM.row {c : cC} {i t a s p : Nat} {g k l : Int} {σ σ' : sM} (hc : OkC c) (h : WM c i t a s p g k l σ) (he : ∀ m, 66 ≤ m → m ≤ 73 → σ' m = σ m) : WM c i t a s p g k l σ' :=
  h.congr hc (fun m h1 h2 => by rw [he m h1 (by omega)]) (fun m w h1 h2 h3 => by rw [he m (by omega) h2])
theorem WM.relP {c : cC} {t a s p : Nat} {g k l : Int} {σ : sM} (h : WM c 0 t a s p g k l σ) : RelP c p σ := by
  intro w hw
  have := (h.2.2.2.2.2 w hw).2.2
  rw [show 3 * 0 + w = w by omega] at this
  exact this
theorem Tx.congr {σ σ' : sM} (h : Tx σ) (h0 : σ' 0 = σ 0) (h1 : σ' 1 = σ 1) (h2 : σ' 55 2 = σ 55 2) (h3 : σ' 56 = σ 56) : Tx σ' := by
  obtain ⟨n, a, b, d, e⟩ := h
  exact ⟨n, a, by rw [h0]; exact b, by rw [h2]; exact d, fun i hi => by rw [h1, h3]; exact e i hi⟩
theorem Im.congr {c : cC} {σ σ' : sM} (hc : OkC c) (h : Im c σ) (h1 : σ' 27 = σ 27) (h2 : σ' 28 = σ 28) (h3 : σ' 74 = σ 74) (h4 : ∀ m j, 66 ≤ m → m ≤ 70 → j ≠ 0 → σ' m j = σ m j) (h5 : ∀ m j, 71 ≤ m → m ≤ 73 → 3 ≤ j → σ' m j = σ m j) : Im c σ' := by
  intro i hi
  obtain ⟨b, e1, e2, e3⟩ := h i hi
  have hr : σ' (27 + i) = σ (27 + i) := by
    rcases (show i = 0 ∨ i = 1 by omega) with q | q
    · subst q; exact h1
    · subst q; exact h2
  refine ⟨b, by rw [hr]; exact e1, by rw [h3]; exact e2, ?_⟩
  rcases e3 with e3 | ⟨e3, t, a, s, p, g, k, l, f1, f2, f3⟩
  · exact Or.inl e3
  · exact Or.inr ⟨e3, t, a, s, p, g, k, l, f1.congr hr, f2.congr hc (fun m a b => h4 m _ a b (by omega)) (fun m w a b d => h5 m _ a b (by omega)), f3⟩
/-- THE SPREAD, one week on -/
def ag (x W : Nat → Nat) : Nat → Nat
  | 0 => W 0 * (10 - x 0)
  | i + 1 => W (i + 1) * (10 - x (i + 1)) + W i * x i
def xr (c : cC) (p w z t i : Nat) : Nat := if stp p w = 1 ∨ 3 ≤ i then 0 else tq c (cO c w) (z + i) t
def gw (c : cC) (p s w cu t : Nat) : Nat → Nat → Nat
  | 0, i => if i = sp s w then 1 else 0
  | n + 1, i => ag (xr c p w (if cu < 8 ∧ t + n < cu then 4 else 7) (t + n)) (gw c p s w cu t n) i
def sg (c : cC) (i : Nat) (W : Nat → Nat) : Nat := W 0 * cT c i 0 + W 1 * cT c i 1 + W 2 * cT c i 2 + W 3 * cT c i 3
/-- THE MEAN of a wheel that was cut in week cu (8: before), eaten in week u; the winter stands at t -/
def gn (c : cC) (p s t w cu u : Nat) : Nat := sg c (cO c w) (gw c p s w cu t (u - t)) * 1000 / 10 ^ (u - t)
def cuE (cu : Nat → Nat) (w u : Nat) (v : Nat) : Nat := if v = w ∧ cu v = 9 then u else cu v
def paS (pa : Nat → Nat) (k v : Nat) (i : Nat) : Nat := if i = k then v else pa i
/-- THE SEARCH of all rows in their order: one wheel's try, then all -/
def usp (c : cC) (G : Nat → Nat → Nat → Nat) (k u : Nat) (R : Nat → (Nat → Nat) → Nat → (Nat → Nat) → Int × (Nat → Nat) → Int × (Nat → Nat)) (s : Nat) (cu : Nat → Nat) (sum : Nat) (pa : Nat → Nat) (w : Nat) (b : Int × (Nat → Nat)) : Int × (Nat → Nat) := if mE c s w then R (bh s w) (cuE cu w u) (sum + G w (cuE cu w u w) u) (paS pa k w) b else b
def uPd (c : cC) (G : Nat → Nat → Nat → Nat) (f n : Nat) : Nat → Nat → (Nat → Nat) → Nat → (Nat → Nat) → Int × (Nat → Nat) → Int × (Nat → Nat)
  | 0 => fun _ _ sum pa b => if b.1 < (sum : Int) then ((sum : Int), pa) else b
  | m + 1 => fun s cu sum pa b => uPd c G f n m s cu sum (paS pa (n - (m + 1)) 6) (usp c G (n - (m + 1)) (f + (n - (m + 1))) (uPd c G f n m) s cu sum pa 2 (usp c G (n - (m + 1)) (f + (n - (m + 1))) (uPd c G f n m) s cu sum pa 1 (usp c G (n - (m + 1)) (f + (n - (m + 1))) (uPd c G f n m) s cu sum pa 0 b)))
def cu0 (c : cC) (s w : Nat) : Nat := if po s w < cZ c w then 8 else 9
def bst (c : cC) (t a s p : Nat) : Int × (Nat → Nat) := uPd c (gn c p s t) (t + a) (cK c - (t + a)) (cK c - (t + a)) s (cu0 c s) 0 (fun _ => 0) (-1, fun _ => 0)
def BlOk (c : cC) (t a s p : Nat) (σ : sM) : Prop := σ 37 9 = ((cK c - (t + a) : Nat) : Int) ∧ σ 37 8 = (bst c t a s p).1 ∧ ∀ k, k < cK c - (t + a) → σ 46 k = ((bst c t a s p).2 k : Int)
def Bl (c : cC) (σ : sM) : Prop := σ 37 11 = 0 ∨ (σ 37 11 = 1 ∧ ∃ t a s p : Nat, σ 37 12 = (t : Int) ∧ σ 37 13 = (a : Int) ∧ σ 37 14 = (s : Int) ∧ σ 37 15 = (p : Int) ∧ VW c t a s p ∧ BlOk c t a s p σ)
theorem Bl.congr {c : cC} {σ σ' : sM} (h : Bl c σ) (h1 : σ' 37 = σ 37) (h2 : σ' 46 = σ 46) : Bl c σ' := by
  unfold Bl BlOk at *; rw [h1, h2]; exact h
def Th (c : cC) (σ : sM) : Prop := ∃ (i : Nat) (W : Nat → Nat), σ 49 3 = (i : Int) ∧ σ 55 36 = (i : Int) ∧ (i < cS c ∨ i = 0 ∧ cS c = 0) ∧ (∀ k, k < 4 → σ 51 k = (W k : Int) ∧ σ 85 k = (W k : Int) ∧ W k ≤ 1000000000000) ∧ 0 < W 0 + W 1 + W 2 + W 3
theorem Th.congr {c : cC} {σ σ' : sM} (h : Th c σ) (h1 : σ' 49 = σ 49) (h2 : σ' 55 36 = σ 55 36) (h3 : σ' 51 = σ 51) (h4 : σ' 85 = σ 85) : Th c σ' := by
  unfold Th at *; rw [h1, h2, h3, h4]; exact h
/-- ALL that holds between two calls -/
def Jn (c : cC) (j : Nat) (q : qT) (x : List Nat) (t a s p : Nat) (g k l : Int) (σ : sM) : Prop := OkC c ∧ RelX c σ ∧ RelM c σ ∧ WX 26 t a s p g k l σ ∧ WM c 0 t a s p g k l σ ∧ VW c t a s p ∧ Tx σ ∧ Im c σ ∧ Me c j q x σ ∧ Bl c σ ∧ Th c σ ∧ σ 54 1 = σ 55 0
def Inv (j : Nat) (q : qT) (x : List Nat) (σ : sM) : Prop := ∃ c t a s p g k l, Jn c j q x t a s p g k l σ
theorem Jn.gen {c : cC} {j j' : Nat} {q q' : qT} {x x' : List Nat} {t a s p t' a' s' p' : Nat} {g k l g' k' l' : Int} {σ σ1 σ2 : sM} (h : Jn c j q x t a s p g k l σ) (h1 : fX σ σ1) (h2 : fM σ1 σ2) (hw : WX 26 t' a' s' p' g' k' l' σ1) (hm : WM c 0 t' a' s' p' g' k' l' σ2) (hv : VW c t' a' s' p') (he : Me c j' q' x' σ1) (hb : Bl c σ1) : Inv j' q' x' σ2 := by
  obtain ⟨hc, a1, a2, a3, a4, a5, a6, a7, a8, a9, a10, a11⟩ := h
  have r2 : ∀ k, k < 26 ∨ k = 27 ∨ k = 28 ∨ (47 ≤ k ∧ k < 66 ∧ k ≠ 48) ∨ k = 74 ∨ k = 85 → σ2 k = σ k := fun k hk => by rw [h2.row (by omega), h1 k (by omega)]
  refine ⟨c, t', a', s', p', g', k', l', hc, a1.congr hc (fun k b1 b2 => r2 k (by omega)), a2.congr (fun k b1 b2 => r2 k (by omega)), hw.congr (h2.row (by omega)), hm, hv, a6.congr (r2 0 (by omega)) (r2 1 (by omega)) (by rw [r2 55 (by omega)]) (r2 56 (by omega)), a7.congr hc (r2 27 (by omega)) (r2 28 (by omega)) (r2 74 (by omega)) (fun m j b1 b2 b3 => ?_) (fun m j b1 b2 b3 => ?_), he.congr hc (fun k hk => h2.row (by omega)), hb.congr (h2.row (by omega)) (h2.row (by omega)), a10.congr (r2 49 (by omega)) (by rw [r2 55 (by omega)]) (r2 51 (by omega)) (r2 85 (by omega)), ?_⟩
  · rw [h2 m j (by omega), h1 m (by omega)]
  · rw [h2 m j (by omega), h1 m (by omega)]
  · rw [r2 54 (by omega), r2 55 (by omega)]; exact a11
theorem Jn.mono {c : cC} {j j' : Nat} {q : qT} {x : List Nat} {t a s p : Nat} {g k l : Int} {σ : sM} (h : Jn c j q x t a s p g k l σ) (hj : j ≤ j') : Jn c j' q x t a s p g k l σ := by
  obtain ⟨hc, a1, a2, a3, a4, a5, a6, a7, a8, a9, a10, a11⟩ := h
  exact ⟨hc, a1, a2, a3, a4, a5, a6, a7, a8.mono hj, a9, a10, a11⟩
theorem Jn.inv {c : cC} {j : Nat} {q : qT} {x : List Nat} {t a s p : Nat} {g k l : Int} {σ : sM} (h : Jn c j q x t a s p g k l σ) : Inv j q x σ := ⟨c, t, a, s, p, g, k, l, h⟩
theorem Inv.mono {j j' : Nat} {q : qT} {x : List Nat} {σ : sM} (h : Inv j q x σ) (hj : j ≤ j') : Inv j' q x σ := by
  obtain ⟨c, t, a, s, p, g, k, l, h⟩ := h
  exact (h.mono hj).inv
/-- only the winter changes: Me and Bl stay -/
theorem Jn.win {c : cC} {j : Nat} {q : qT} {x : List Nat} {t a s p t' a' s' p' : Nat} {g k l g' k' l' : Int} {σ σ1 σ2 : sM} (h : Jn c j q x t a s p g k l σ) (h1 : ∀ k, k ≠ 26 → σ1 k = σ k) (h2 : fM σ1 σ2) (hw : WX 26 t' a' s' p' g' k' l' σ1) (hm : WM c 0 t' a' s' p' g' k' l' σ2) (hv : VW c t' a' s' p') : Inv j q x σ2 :=
  h.gen (fun k hk => h1 k (by omega)) h2 hw hm hv (h.2.2.2.2.2.2.2.2.1.congr h.1 (fun k hk => h1 k (by omega))) (h.2.2.2.2.2.2.2.2.2.1.congr (h1 37 (by omega)) (h1 46 (by omega)))
