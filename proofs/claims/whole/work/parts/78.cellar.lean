/-- the reference's loop over items, and what follows a good text -/
def rfC (F : Nat) (q7 : sM × Int) : Option (Int × sM) := nm (sU (sU (sU q7.1 57 0 (q7.1 57 1)) 58 0 ((sU q7.1 57 0 (q7.1 57 1)) 58 1)) 59 0 ((sU (sU q7.1 57 0 (q7.1 57 1)) 58 0 ((sU q7.1 57 0 (q7.1 57 1)) 58 1)) 59 1)) (fun σ12 => lp (fun K15 (q14 : sM × Int) => if 56 ≤ wi q14.2 then lp (fun K18 (q17 : sM × Int) => if 3 ≤ wi q17.2 then lp (fun K21 (q20 : sM × Int) => if 8 ≤ wi q20.2 then bn (X9_begin F q20.1) (fun r23 σ25 => bn (X9_think F (sU (sU σ25 74 0 (q_z 0)) 74 1 (q_z 0)) 0) (fun r26 σ28 => some (q7.2, (sU σ28 55 2 0)))) else if 0 ≤ wi (8 + q20.2) ∧ wi (8 + q20.2) < 16 then if 0 ≤ wi q20.2 ∧ wi q20.2 < 16 then if 0 ≤ wi (8 + q20.2) ∧ wi (8 + q20.2) < 16 then if 0 ≤ wi q20.2 ∧ wi q20.2 < 16 then nm (sU (sU q20.1 64 (wi q20.2).toNat (q20.1 64 (wi (8 + q20.2)).toNat)) 65 (wi q20.2).toNat ((sU q20.1 64 (wi q20.2).toNat (q20.1 64 (wi (8 + q20.2)).toNat)) 65 (wi (8 + q20.2)).toNat)) (fun σ33 => K21 (σ33, q20.2 + 1)) else none else none else none else none) F (q17.1, 0) else if 0 ≤ wi (3 + q17.2) ∧ wi (3 + q17.2) < 6 then if 0 ≤ wi q17.2 ∧ wi q17.2 < 6 then if 0 ≤ wi (3 + q17.2) ∧ wi (3 + q17.2) < 6 then if 0 ≤ wi q17.2 ∧ wi q17.2 < 6 then nm (sU (sU q17.1 62 (wi q17.2).toNat (q17.1 62 (wi (3 + q17.2)).toNat)) 63 (wi q17.2).toNat ((sU q17.1 62 (wi q17.2).toNat (q17.1 62 (wi (3 + q17.2)).toNat)) 63 (wi (3 + q17.2)).toNat)) (fun σ39 => K18 (σ39, q17.2 + 1)) else none else none else none else none) F (q14.1, 0) else if 0 ≤ wi (56 + q14.2) ∧ wi (56 + q14.2) < 112 then if 0 ≤ wi q14.2 ∧ wi q14.2 < 112 then K15 ((sU q14.1 61 (wi q14.2).toNat (q14.1 61 (wi (56 + q14.2)).toNat)), q14.2 + 1) else none else none) F ((sU σ12 60 0 (σ12 60 1)), 0))
def rfB (F : Nat) (K8 : sM × Int → Option (Int × sM)) (q7 : sM × Int) : Option (Int × sM) := jn (fun q9 : Unit => if wi (q7.1 55 16) = (-9) then nm (sU (sU (sU q7.1 57 0 (q7.1 57 1)) 58 0 ((sU q7.1 57 0 (q7.1 57 1)) 58 1)) 59 0 ((sU (sU q7.1 57 0 (q7.1 57 1)) 58 0 ((sU q7.1 57 0 (q7.1 57 1)) 58 1)) 59 1)) (fun σ12 => lp (fun K15 (q14 : sM × Int) => if 56 ≤ wi q14.2 then lp (fun K18 (q17 : sM × Int) => if 3 ≤ wi q17.2 then lp (fun K21 (q20 : sM × Int) => if 8 ≤ wi q20.2 then bn (X9_begin F q20.1) (fun r23 σ25 => bn (X9_think F (sU (sU σ25 74 0 (q_z 0)) 74 1 (q_z 0)) 0) (fun r26 σ28 => some (q7.2, (sU σ28 55 2 0)))) else if 0 ≤ wi (8 + q20.2) ∧ wi (8 + q20.2) < 16 then if 0 ≤ wi q20.2 ∧ wi q20.2 < 16 then if 0 ≤ wi (8 + q20.2) ∧ wi (8 + q20.2) < 16 then if 0 ≤ wi q20.2 ∧ wi q20.2 < 16 then nm (sU (sU q20.1 64 (wi q20.2).toNat (q20.1 64 (wi (8 + q20.2)).toNat)) 65 (wi q20.2).toNat ((sU q20.1 64 (wi q20.2).toNat (q20.1 64 (wi (8 + q20.2)).toNat)) 65 (wi (8 + q20.2)).toNat)) (fun σ33 => K21 (σ33, q20.2 + 1)) else none else none else none else none) F (q17.1, 0) else if 0 ≤ wi (3 + q17.2) ∧ wi (3 + q17.2) < 6 then if 0 ≤ wi q17.2 ∧ wi q17.2 < 6 then if 0 ≤ wi (3 + q17.2) ∧ wi (3 + q17.2) < 6 then if 0 ≤ wi q17.2 ∧ wi q17.2 < 6 then nm (sU (sU q17.1 62 (wi q17.2).toNat (q17.1 62 (wi (3 + q17.2)).toNat)) 63 (wi q17.2).toNat ((sU q17.1 62 (wi q17.2).toNat (q17.1 62 (wi (3 + q17.2)).toNat)) 63 (wi (3 + q17.2)).toNat)) (fun σ39 => K18 (σ39, q17.2 + 1)) else none else none else none else none) F (q14.1, 0) else if 0 ≤ wi (56 + q14.2) ∧ wi (56 + q14.2) < 112 then if 0 ≤ wi q14.2 ∧ wi q14.2 < 112 then K15 ((sU q14.1 61 (wi q14.2).toNat (q14.1 61 (wi (56 + q14.2)).toNat)), q14.2 + 1) else none else none) F ((sU σ12 60 0 (σ12 60 1)), 0)) else some ((-10) - (q7.1 55 16), q7.1)) (fun K10 => if ¬ wi (q7.1 55 16) = (-9) then K10 () else if wi (q7.1 55 14) = 0 then K10 () else bn (X9_item F q7.1 (q7.1 55 14) q7.2) (fun r45 σ47 => K8 (σ47, q7.2 + 1)))
theorem rfB_i {F : Nat} {b : Nat → Int} {n : Nat} (K : sM × Int → Option (Int × sM)) (k : Nat) (τ : sM) (it : Int) (h : Rf b n k τ) (hk : Tk b n k ≠ 0) : rfB F K (τ, it) = bn (X9_item F τ (τ 55 14) it) (fun r45 σ47 => K (σ47, it + 1)) := by
  have hT := Tk_le b n k
  have hm := mpK_i hT
  unfold rfB
  rw [jn_def]
  simp only []
  rw [if_neg (show ¬ ¬ wi (τ 55 16) = -9 by rw [h.2.1]; decide), if_neg (show ¬ wi (τ 55 14) = 0 by rw [h.knd, wiN (by omega)]; omega)]
theorem rfB_n {F : Nat} {b : Nat → Int} {n k : Nat} (hb : Bt b n) (K : sM × Int → Option (Int × sM)) (τ : sM) (it : Int) (h : τ 55 16 = (pP b n k : Int)) : rfB F K (τ, it) = some ((-10) - (pP b n k : Int), τ) := by
  unfold rfB
  rw [jn_def]
  simp only []
  rw [if_pos (flt hb h), if_neg (flt hb h), h]
theorem rfB_y {F : Nat} (K : sM × Int → Option (Int × sM)) (τ : sM) (it : Int) (h : τ 55 16 = -9) (h2 : τ 55 14 = 0) : rfB F K (τ, it) = rfC F (τ, it) := by
  unfold rfB
  rw [jn_def]
  simp only []
  rw [if_neg (show ¬ ¬ wi (τ 55 16) = -9 by rw [h]; decide), if_pos (show wi (τ 55 14) = 0 by rw [h2]; decide), if_pos (show wi (τ 55 16) = -9 by rw [h]; decide)]
  rfl
def d0 : cC := fun m x => if m = 0 then (if x = 2 then 6 else if x = 3 then 3 else 0) else 0
theorem d0_ok : OkC d0 := by
  refine ⟨by decide, by decide, by decide, by decide, fun w hw => absurd hw (by show ¬ w < 0; omega), fun w _ => rfl, fun t => ⟨by show (0 : Nat) ≤ 5; omega, by show (0 : Nat) ≤ 99; omega⟩, fun t _ => ⟨rfl, rfl⟩, fun i k => ?_⟩
  show d0 (5 + i) k ≤ 99 ∧ (4 ≤ k → d0 (5 + i) k ≤ 10)
  unfold d0; rw [if_neg (by omega)]; omega
theorem e_becomeEmpty {F : Nat} {σ : sM} (hF : 500 ≤ F) : ∃ σ1, X1_becomeEmpty F σ = some (0, σ1) ∧ RelY d0 σ1 ∧ ∀ k, k ≠ 12 → k ≠ 19 → k ≠ 20 → k ≠ 21 → σ1 k = σ k := by
  unfold X1_becomeEmpty
  obtain ⟨x, e1, x1, x2, -⟩ := e_fill (F := F) (o := 19) (n := 3) (σ := sU (sU (sU (sU σ 12 5 0) 12 6 0) 12 7 6) 12 8 3) 0 (by omega) (by omega)
  obtain ⟨y, e2, y1, y2, -⟩ := e_fill (F := F) (o := 20) (n := 8) (σ := x) 0 (by omega) (by omega)
  obtain ⟨z, e3, z1, z2, -⟩ := e_fill (F := F) (o := 21) (n := 8) (σ := y) 0 (by omega) (by omega)
  refine ⟨z, by rw [e1, bn_some, e2, bn_some, e3, bn_some], ⟨?_, ?_, ?_, ?_, fun w hw => ?_, fun w hw => absurd hw (by show ¬ w < 0; omega), fun t ht => ⟨?_, ?_⟩, fun i hi => absurd hi (by show ¬ i < 0; omega)⟩, fun k a1 a2 a3 a4 => ?_⟩
  · rw [z1 12 (by omega), y1 12 (by omega), x1 12 (by omega), sUnj (by omega), sUnj (by omega), sUnj (by omega), sUv]; rfl
  · rw [z1 12 (by omega), y1 12 (by omega), x1 12 (by omega), sUnj (by omega), sUnj (by omega), sUv]; rfl
  · rw [z1 12 (by omega), y1 12 (by omega), x1 12 (by omega), sUnj (by omega), sUv]; rfl
  · rw [z1 12 (by omega), y1 12 (by omega), x1 12 (by omega), sUv]; rfl
  · rw [z1 19 (by omega), y1 19 (by omega), x2 w hw]; rfl
  · rw [z1 20 (by omega), y2 t ht]; rfl
  · rw [z2 t ht]; rfl
  · rw [z1 k a4, y1 k a3, x1 k a2, sU_ne a1, sU_ne a1, sU_ne a1, sU_ne a1]
theorem Jn.rdg {c : cC} {j : Nat} {q : qT} {x : List Nat} {t a s p : Nat} {g k l : Int} {σ σ2 : sM} (h : Jn c j q x t a s p g k l σ) (he : ∀ k j, (k < 12 ∨ k = 13 ∨ 26 ≤ k ∧ k < 55 ∨ k = 56 ∨ 66 ≤ k ∨ k = 55 ∧ (j < 12 ∨ 17 ≤ j) ∨ 57 ≤ k ∧ k ≤ 60 ∧ j ≠ 1 ∨ k = 61 ∧ j < 56 ∨ 62 ≤ k ∧ k ≤ 63 ∧ j < 3 ∨ 64 ≤ k ∧ k ≤ 65 ∧ j < 8) → σ2 k j = σ k j) : Inv j q x σ2 := by
  obtain ⟨hc, a1, a2, a3, a4, a5, a6, a7, a8, a9, a10, a11⟩ := h
  have r : ∀ k, k < 12 ∨ k = 13 ∨ 26 ≤ k ∧ k < 55 ∨ k = 56 ∨ 66 ≤ k → σ2 k = σ k := fun k hk => funext fun j => he k j (by omega)
  have c1 := hc.1
  have c2 := hc.2.1
  refine ⟨c, t, a, s, p, g, k, l, hc, a1.congr hc (fun k b1 b2 => r k (by omega)), ?_, a3.congr (r 26 (by omega)), a4.row hc (fun m b1 b2 => r m (by omega)), a5, a6.congr (r 0 (by omega)) (r 1 (by omega)) (he 55 2 (by omega)) (r 56 (by omega)), a7.congr hc (r 27 (by omega)) (r 28 (by omega)) (r 74 (by omega)) (fun m j b1 b2 b3 => by rw [r m (by omega)]) (fun m j b1 b2 b3 => by rw [r m (by omega)]), a8.congr hc (fun k hk => r k (by omega)), a9.congr (r 37 (by omega)) (r 46 (by omega)), a10.congr (r 49 (by omega)) (he 55 36 (by omega)) (r 51 (by omega)) (r 85 (by omega)), by rw [r 54 (by omega), he 55 0 (by omega)]; exact a11⟩
  obtain ⟨m1, m2, m3, m4, m5, m6, m7⟩ := a2
  refine ⟨by rw [he 57 0 (by omega)]; exact m1, by rw [he 58 0 (by omega)]; exact m2, by rw [he 59 0 (by omega)]; exact m3, by rw [he 60 0 (by omega)]; exact m4, fun w hw => ?_, fun t ht => ?_, fun i hi k hk => ?_⟩
  · rw [he 62 w (by omega), he 63 w (by omega)]; exact m5 w hw
  · rw [he 64 t (by omega), he 65 t (by omega)]; exact m6 t ht
  · rw [he 61 (14 * i + k) (by omega)]; exact m7 i hi k hk
/-- the class reads its text -/
theorem e_readPre {F : Nat} {b : Nat → Int} {n : Nat} {σ : sM} (hF : 500 ≤ F) (hb : Bt b n) (h1 : ∀ i, i < n → σ 1 i = b i) : ∃ σ1 N, X4_readAll F σ (n : Int) = lp (clA F) F (σ1, ((0 : Nat) : Int)) ∧ Cq b n N 0 σ1 ∧ RelY d0 σ1 ∧ fCq σ σ1 := by
  have hn := hb.1
  have e0 : (if wi 0 < wi (if wi 400 < wi (n : Int) then 400 else (n : Int)) then (if wi 400 < wi (n : Int) then 400 else (n : Int)) else 0) = (n : Int) := by
    rw [wiN (n := n) (by omega), if_neg (show ¬ wi 400 < (n : Int) by rw [show wi 400 = 400 by decide]; omega), wiN (n := n) (by omega), show wi 0 = 0 by decide]
    by_cases q : (0 : Int) < (n : Int)
    · rw [if_pos q]
    · rw [if_neg q]; omega
  unfold X4_readAll
  rw [e0, nm_def]
  obtain ⟨x, N, e1, x1, x2⟩ := e_cutUp (σ := sU σ 22 5 (n : Int)) hF hb (fun i hi => by rw [sU_ne (by omega)]; exact h1 i hi) sUv
  obtain ⟨y, e2, y1, y2⟩ := e_becomeEmpty (σ := x) hF
  have A2 : Ar b n N y := x2.congr (y2 23 (by omega) (by omega) (by omega) (by omega)) (y2 24 (by omega) (by omega) (by omega) (by omega)) (y2 25 (by omega) (by omega) (by omega) (by omega))
  obtain ⟨z, e3, z1, z2⟩ := e_look4 (k := 0) hb A2 (Nat.zero_le _)
  refine ⟨z, N, ?_, z1, y1.congr d0_ok (fun k a1 a2 => z2 k (by omega)), fun k hk => ?_⟩
  · rw [show ((0 : Nat) : Int) = 0 from rfl] at e3
    rw [e1, bn_some, e2, bn_some, e3, bn_some]
    rfl
  · rw [z2 k (by omega), y2 k (by omega) (by omega) (by omega) (by omega), x1 k (by omega) (by omega) (by omega), sU_ne (by omega)]
/-- the reference reads its text -/
theorem f_readPre {F : Nat} {b : Nat → Int} {n : Nat} {τ : sM} (hF : 500 ≤ F) (hb : Bt b n) (h : Rt b n τ) : ∃ x, X9_cellar F τ = lp (rfB F) F (x, ((0 : Nat) : Int)) ∧ Rf b n 0 x ∧ RelN d0 x ∧ fD τ x := by
  unfold X9_cellar
  generalize hτ : sU (sU (sU (sU (sU (sU τ 55 12 0) 55 16 (-9)) 57 1 0) 58 1 0) 59 1 6) 60 1 3 = τ0
  have t0 : fD τ τ0 := by rw [← hτ]; exact ((((((fD.refl τ).set _ (by omega)).set _ (by omega)).set _ (by omega)).set _ (by omega)).set _ (by omega)).set _ (by omega)
  have g12 : τ0 55 12 = 0 := by rw [← hτ, sU_ne (by omega), sU_ne (by omega), sU_ne (by omega), sU_ne (by omega), sUnj (by omega), sUv]
  have g16 : τ0 55 16 = -9 := by rw [← hτ, sU_ne (by omega), sU_ne (by omega), sU_ne (by omega), sU_ne (by omega), sUv]
  have g57 : τ0 57 1 = 0 := by rw [← hτ, sU_ne (by omega), sU_ne (by omega), sU_ne (by omega), sUv]
  have g58 : τ0 58 1 = 0 := by rw [← hτ, sU_ne (by omega), sU_ne (by omega), sUv]
  have g59 : τ0 59 1 = 6 := by rw [← hτ, sU_ne (by omega), sUv]
  have g60 : τ0 60 1 = 3 := by rw [← hτ, sUv]
  refine lp_inv (fun i (x : sM × Int) => x.2 = (i : Int) ∧ (∀ m, m ≠ 64 → m ≠ 65 → x.1 m = τ0 m) ∧ fD τ x.1 ∧ ∀ t, t < i → x.1 64 (8 + t) = 0 ∧ x.1 65 (8 + t) = 0) 8 (fun (o : Option (Int × sM)) => ∃ x, o = lp (rfB F) F (x, ((0 : Nat) : Int)) ∧ Rf b n 0 x ∧ RelN d0 x ∧ fD τ x) (fun i x hi hI K => ?_) (fun x hI K => ?_) ⟨rfl, fun _ _ _ => rfl, t0, fun t ht => absurd ht (by omega)⟩ (by omega)
  · obtain ⟨x, v⟩ := x
    obtain ⟨hv, h1, h2, h3⟩ := hI
    simp only [] at hv h1 h2 h3 ⊢
    subst hv
    rw [if_neg (by rw [wiN (by omega)]; omega), show (8 : Int) + (i : Int) = ((8 + i : Nat) : Int) by omega, wiN (n := 8 + i) (by omega), if_pos (by omega), if_pos (by omega), Int.toNat_natCast]
    refine ⟨_, ⟨rfl, fun m a1 a2 => ?_, (h2.set _ (by omega)).set _ (by omega), fun t ht => ?_⟩, rfl⟩
    · simp only []; rw [sU_ne a2, sU_ne a1]; exact h1 m a1 a2
    · simp only []
      by_cases w : t = i
      · subst w; rw [sU_ne (by omega), sUv, sUv]; exact ⟨rfl, rfl⟩
      · rw [sU_ne (by omega), sUnj (by omega), sUnj (by omega), sU_ne (by omega)]; exact h3 t (by omega)
  · obtain ⟨x, v⟩ := x
    obtain ⟨hv, h1, h2, h3⟩ := hI
    simp only [] at hv h1 h2 h3 ⊢
    subst hv
    rw [if_pos (show 8 ≤ wi ((8 : Nat) : Int) by decide)]
    have hx : Rt b n x := ⟨by rw [h2 55 2 (by omega)]; exact h.1, fun i hi => by rw [h2 56 i (by omega)]; exact h.2 i hi⟩
    obtain ⟨y, e, r1, r2⟩ := f_read (i := 0) hF hb hx (by rw [h1 55 (by omega) (by omega)]; exact g12) (Nat.zero_le _)
    rw [e, bn_some]
    refine ⟨y, rfl, ⟨hx.fR r1, ?_, r2⟩, ?_, h2.trans r1.qQ.dD⟩
    · rw [r1.2 16 (by omega) (by omega) (by omega) (by omega), h1 55 (by omega) (by omega)]; exact g16
    · refine ⟨?_, ?_, ?_, ?_, fun w hw => absurd hw (by show ¬ w < 0; omega), fun t ht => ?_, fun i hi => absurd hi (by show ¬ i < 0; omega)⟩
      · rw [r1.1 57 (by omega), h1 57 (by omega) (by omega)]; exact g57
      · rw [r1.1 58 (by omega), h1 58 (by omega) (by omega)]; exact g58
      · rw [r1.1 59 (by omega), h1 59 (by omega) (by omega)]; exact g59
      · rw [r1.1 60 (by omega), h1 60 (by omega) (by omega)]; exact g60
      · rw [r1.1 64 (by omega), r1.1 65 (by omega)]; exact h3 t ht
