theorem NN_le {n : Nat} (h : n ≤ 8) : NN n ≤ 109225 := by
  have : ∀ n, n < 9 → NN n ≤ 109225 := by decide +kernel
  exact this n (by omega)
theorem f_firstWeek {τ : sM} {t a : Nat} (h66 : τ 66 0 = (t : Int)) (h67 : τ 67 0 = (a : Int)) (ha : a < 2) : X9_firstWeek τ = some ((t + a : Nat) : Int) := by
  unfold X9_firstWeek
  rw [jn_def, h66, h67]
  rcases (show a = 0 ∨ a = 1 by omega) with e | e
  · subst e; rw [if_pos (by decide)]; exact congrArg some (by omega)
  · subst e; rw [if_neg (by decide)]; exact congrArg some (by omega)
def fG (σ σ' : sM) : Prop := ∀ m, m < 79 ∨ m = 80 ∨ m = 81 ∨ 84 < m → σ' m = σ m
theorem f_findRow {c : cC} {t a s p F : Nat} {g k l : Int} {σ : sM} (hc : OkC c) (hM : RelM c σ) (hm : WM c 0 t a s p g k l σ) (hV : VW c t a s p) (hF : 200000 ≤ F) (hn0 : t + a < cK c) : ∃ σ2, X9_findRow F σ = some ((bst c t a s p).1, σ2) ∧ (∀ m, m < 79 ∨ 84 < m → σ2 m = σ m) ∧ ∀ i, i < cK c - (t + a) → σ2 81 i = ((bst c t a s p).2 i : Int) := by
  have c3 := hc.2.1
  have c5 := hc.2.2.1
  have ha : a < 2 := by have := hV.2.2.2; omega
  have hp := hV.2.1
  rw [row_eq, f_firstWeek hm.1 hm.2.1 ha, bp_some]
  refine lp_inv (fun i (y : sM × Int) => y.2 = (i : Int) ∧ fG σ y.1 ∧ ∀ w, w < i → w < cW c → (y.1 83 w = (po s w : Int) ∧ y.1 82 w = encM (cu0 c s w)) ∧ ∀ cu u, cu ≤ 8 → t + a ≤ u → u < cK c → (cu = 8 ∨ cu ≤ u) → y.1 79 (72 * w + 8 * cu + u) = (gn c p s t w cu u : Int)) (cW c) (fun (r : Option (Int × sM)) => ∃ σ2 : sM, r = some ((bst c t a s p).1, σ2) ∧ (∀ m, m < 79 ∨ 84 < m → σ2 m = σ m) ∧ ∀ i, i < cK c - (t + a) → σ2 81 i = ((bst c t a s p).2 i : Int)) (fun i y hi hI K => ?_) (fun y hI K => ?_) ⟨rfl, fun _ _ => rfl, fun w hw => absurd hw (by omega)⟩ (by omega)
  · obtain ⟨τ, v⟩ := y
    obtain ⟨hv, hf, hr⟩ := hI
    simp only [] at hv hf hr ⊢
    subst hv
    have hMτ : RelM c τ := hM.congr (fun k b1 b2 => hf k (by omega))
    obtain ⟨h62, h63⟩ := hMτ.2.2.2.2.1 i hi
    have h72 : τ 72 i = (po s i : Int) := by rw [hf 72 (by omega)]; exact (hm.at0 hi).2.1
    have hpo := po_lt s i
    have hpl := hV.1.2 i (by omega)
    have hzl := cZ_le hc i
    simp only [jn_def]
    rw [hMτ.2.1, if_neg (by rw [wiN (by omega), wiN (by omega)]; omega), wiN (n := i) (by omega)]
    simp only [if_pos (show 0 ≤ (i : Int) ∧ (i : Int) < 9 by omega), if_pos (show 0 ≤ (i : Int) ∧ (i : Int) < 3 by omega), if_pos (show 0 ≤ (i : Int) ∧ (i : Int) < 6 by omega), Int.toNat_natCast]
    rw [sU_ne (k' := 63) (by omega), sU_ne (k' := 72) (by omega), h63, h72, wiN (n := cZ c i) (by omega), wiN (n := po s i) (by omega)]
    have main : ∀ q64 : Int, q64 = encM (cu0 c s i) → ∃ x' : sM × Int, (x'.2 = ((i + 1 : Nat) : Int) ∧ fG σ x'.1 ∧ ∀ w, w < i + 1 → w < cW c → (x'.1 83 w = (po s w : Int) ∧ x'.1 82 w = encM (cu0 c s w)) ∧ ∀ cu u, cu ≤ 8 → t + a ≤ u → u < cK c → (cu = 8 ∨ cu ≤ u) → x'.1 79 (72 * w + 8 * cu + u) = (gn c p s t w cu u : Int)) ∧ (lp (fun K68 (q67 : sM × Int) => if 8 < wi q67.2 then K (q67.1, (i : Int) + 1) else bp (X9_firstWeek q67.1) (fun r70 => lp (fun K73 (q72 : sM × Int) => if wi (q72.1 59 0) ≤ wi q72.2 then K68 (q72.1, q67.2 + 1) else if wi q67.2 = 8 then bn (X9_gainOf F q72.1 (i : Int) q67.2 q72.2) (fun r80 σ82 => if 0 ≤ wi (((72 * (i : Int)) + (8 * q67.2)) + q72.2) ∧ wi (((72 * (i : Int)) + (8 * q67.2)) + q72.2) < 216 then K73 ((sU σ82 79 (wi (((72 * (i : Int)) + (8 * q67.2)) + q72.2)).toNat r80), q72.2 + 1) else none) else if wi q72.2 < wi q67.2 then (if 0 ≤ wi (((72 * (i : Int)) + (8 * q67.2)) + q72.2) ∧ wi (((72 * (i : Int)) + (8 * q67.2)) + q72.2) < 216 then K73 ((sU q72.1 79 (wi (((72 * (i : Int)) + (8 * q67.2)) + q72.2)).toNat 0), q72.2 + 1) else none) else bn (X9_gainOf F q72.1 (i : Int) q67.2 q72.2) (fun r80 σ82 => if 0 ≤ wi (((72 * (i : Int)) + (8 * q67.2)) + q72.2) ∧ wi (((72 * (i : Int)) + (8 * q67.2)) + q72.2) < 216 then K73 ((sU σ82 79 (wi (((72 * (i : Int)) + (8 * q67.2)) + q72.2)).toNat r80), q72.2 + 1) else none)) F (q67.1, r70))) F ((sU (sU τ 83 i ((po s i : Nat) : Int)) 82 i q64), 0)) = K x' := by
      intro q64 hq64
      refine lp_inv (fun d (y : sM × Int) => y.2 = (d : Int) ∧ fG σ y.1 ∧ y.1 83 i = (po s i : Int) ∧ y.1 82 i = encM (cu0 c s i) ∧ (∀ w, w < i → w < cW c → (y.1 83 w = (po s w : Int) ∧ y.1 82 w = encM (cu0 c s w)) ∧ ∀ cu u, cu ≤ 8 → t + a ≤ u → u < cK c → (cu = 8 ∨ cu ≤ u) → y.1 79 (72 * w + 8 * cu + u) = (gn c p s t w cu u : Int)) ∧ ∀ cu u, cu < d → t + a ≤ u → u < cK c → (cu = 8 ∨ cu ≤ u) → y.1 79 (72 * i + 8 * cu + u) = (gn c p s t i cu u : Int)) 9 (fun (r : Option (Int × sM)) => ∃ x' : sM × Int, (x'.2 = ((i + 1 : Nat) : Int) ∧ fG σ x'.1 ∧ ∀ w, w < i + 1 → w < cW c → (x'.1 83 w = (po s w : Int) ∧ x'.1 82 w = encM (cu0 c s w)) ∧ ∀ cu u, cu ≤ 8 → t + a ≤ u → u < cK c → (cu = 8 ∨ cu ≤ u) → x'.1 79 (72 * w + 8 * cu + u) = (gn c p s t w cu u : Int)) ∧ r = K x') (fun d y hd hD K1 => ?_) (fun y hD K1 => ?_) ⟨rfl, fun m hm' => ?_, ?_, ?_, fun w hw hw2 => ?_, fun cu u h => absurd h (by omega)⟩ (by omega)
      · obtain ⟨τ1, v⟩ := y
        obtain ⟨hv, hf1, h83, h82, hold, hnew⟩ := hD
        simp only [] at hv hf1 h83 h82 hold hnew ⊢
        subst hv
        rw [if_neg (by rw [wiN (by omega)]; omega), f_firstWeek (t := t) (a := a) (by rw [hf1 66 (by omega)]; exact hm.1) (by rw [hf1 67 (by omega)]; exact hm.2.1) ha, bp_some]
        refine lp_inv (fun e (y : sM × Int) => y.2 = ((t + a + e : Nat) : Int) ∧ fG σ y.1 ∧ y.1 83 i = (po s i : Int) ∧ y.1 82 i = encM (cu0 c s i) ∧ (∀ w, w < i → w < cW c → (y.1 83 w = (po s w : Int) ∧ y.1 82 w = encM (cu0 c s w)) ∧ ∀ cu u, cu ≤ 8 → t + a ≤ u → u < cK c → (cu = 8 ∨ cu ≤ u) → y.1 79 (72 * w + 8 * cu + u) = (gn c p s t w cu u : Int)) ∧ (∀ cu u, cu < d → t + a ≤ u → u < cK c → (cu = 8 ∨ cu ≤ u) → y.1 79 (72 * i + 8 * cu + u) = (gn c p s t i cu u : Int)) ∧ ∀ u, t + a ≤ u → u < t + a + e → (d = 8 ∨ d ≤ u) → y.1 79 (72 * i + 8 * d + u) = (gn c p s t i d u : Int)) (cK c - (t + a)) (fun (r : Option (Int × sM)) => ∃ x' : sM × Int, (x'.2 = ((d + 1 : Nat) : Int) ∧ fG σ x'.1 ∧ x'.1 83 i = (po s i : Int) ∧ x'.1 82 i = encM (cu0 c s i) ∧ (∀ w, w < i → w < cW c → (x'.1 83 w = (po s w : Int) ∧ x'.1 82 w = encM (cu0 c s w)) ∧ ∀ cu u, cu ≤ 8 → t + a ≤ u → u < cK c → (cu = 8 ∨ cu ≤ u) → x'.1 79 (72 * w + 8 * cu + u) = (gn c p s t w cu u : Int)) ∧ ∀ cu u, cu < d + 1 → t + a ≤ u → u < cK c → (cu = 8 ∨ cu ≤ u) → x'.1 79 (72 * i + 8 * cu + u) = (gn c p s t i cu u : Int)) ∧ r = K1 x') (fun e y he hE K2 => ?_) (fun y hE K2 => ?_) ⟨rfl, hf1, h83, h82, hold, hnew, fun u h1 h2 => absurd h2 (by omega)⟩ (by omega)
        · obtain ⟨τ2, v⟩ := y
          obtain ⟨hv, hf2, g83, g82, gold, gnew, gcur⟩ := hE
          simp only [] at hv hf2 g83 g82 gold gnew gcur ⊢
          subst hv
          have hM2 : RelM c τ2 := hM.congr (fun k b1 b2 => hf2 k (by omega))
          have hm2 : WM c 0 t a s p g k l τ2 := hm.row hc (fun m b1 b2 => hf2 m (by omega))
          rw [hM2.2.2.1, if_neg (by rw [wiN (by omega), wiN (by omega)]; omega), wiN (n := d) (by omega), wiN (n := t + a + e) (by omega), show (72 : Int) * (i : Int) + 8 * (d : Int) + ((t + a + e : Nat) : Int) = ((72 * i + 8 * d + (t + a + e) : Nat) : Int) by push_cast; omega, wiN (n := 72 * i + 8 * d + (t + a + e)) (by omega)]
          simp only [if_pos (show 0 ≤ ((72 * i + 8 * d + (t + a + e) : Nat) : Int) ∧ ((72 * i + 8 * d + (t + a + e) : Nat) : Int) < 216 by omega), Int.toNat_natCast]
          have fin : ∀ (τ3 : sM) (v : Int), (∀ m, m ≠ 84 → τ3 m = τ2 m) → ((d = 8 ∨ d ≤ t + a + e) → v = (gn c p s t i d (t + a + e) : Int)) → ∃ x' : sM × Int, (x'.2 = ((t + a + (e + 1) : Nat) : Int) ∧ fG σ x'.1 ∧ x'.1 83 i = (po s i : Int) ∧ x'.1 82 i = encM (cu0 c s i) ∧ (∀ w, w < i → w < cW c → (x'.1 83 w = (po s w : Int) ∧ x'.1 82 w = encM (cu0 c s w)) ∧ ∀ cu u, cu ≤ 8 → t + a ≤ u → u < cK c → (cu = 8 ∨ cu ≤ u) → x'.1 79 (72 * w + 8 * cu + u) = (gn c p s t w cu u : Int)) ∧ (∀ cu u, cu < d → t + a ≤ u → u < cK c → (cu = 8 ∨ cu ≤ u) → x'.1 79 (72 * i + 8 * cu + u) = (gn c p s t i cu u : Int)) ∧ ∀ u, t + a ≤ u → u < t + a + (e + 1) → (d = 8 ∨ d ≤ u) → x'.1 79 (72 * i + 8 * d + u) = (gn c p s t i d u : Int)) ∧ K2 (sU τ3 79 (72 * i + 8 * d + (t + a + e)) v, ((t + a + e : Nat) : Int) + 1) = K2 x' := by
            intro τ3 v h3 hv
            refine ⟨(sU τ3 79 (72 * i + 8 * d + (t + a + e)) v, ((t + a + e : Nat) : Int) + 1), ⟨?_, fun m hm' => ?_, ?_, ?_, fun w hw hw2 => ⟨⟨?_, ?_⟩, fun cu u a1 a2 a3 a4 => ?_⟩, fun cu u a1 a2 a3 a4 => ?_, fun u a1 a2 a3 => ?_⟩, rfl⟩
            · simp only []; omega
            · simp only []; rw [sU_ne (by omega), h3 m (by omega)]; exact hf2 m hm'
            · simp only []; rw [sU_ne (by omega), h3 83 (by omega)]; exact g83
            · simp only []; rw [sU_ne (by omega), h3 82 (by omega)]; exact g82
            · simp only []; rw [sU_ne (by omega), h3 83 (by omega)]; exact ((gold w hw hw2).1).1
            · simp only []; rw [sU_ne (by omega), h3 82 (by omega)]; exact ((gold w hw hw2).1).2
            · simp only []; rw [sUnj (by omega), h3 79 (by omega)]; exact (gold w hw hw2).2 cu u a1 a2 a3 a4
            · simp only []; rw [sUnj (by omega), h3 79 (by omega)]; exact gnew cu u a1 a2 a3 a4
            · simp only []
              by_cases z : u = t + a + e
              · subst z; rw [sUv]; exact hv a3
              · rw [sUnj (by omega), h3 79 (by omega)]; exact gcur u a1 (by omega) a3
          have gain : ∃ τ3, X9_gainOf F τ2 (i : Int) (d : Int) ((t + a + e : Nat) : Int) = some ((gn c p s t i d (t + a + e) : Int), τ3) ∧ (∀ m, m ≠ 84 → τ3 m = τ2 m) := f_gainOf (F := F) hc hM2 hm2 hV (by omega) hi (by omega) (by omega) (by omega)
          obtain ⟨τ3, e3, f3⟩ := gain
          by_cases z8 : d = 8
          · rw [if_pos (by omega), e3, bn_some]
            exact fin τ3 _ f3 (fun _ => rfl)
          · rw [if_neg (by omega)]
            by_cases z9 : t + a + e < d
            · rw [if_pos (by omega)]
              exact fin τ2 0 (fun _ _ => rfl) (fun h => by omega)
            · rw [if_neg (by omega), e3, bn_some]
              exact fin τ3 _ f3 (fun _ => rfl)
        · obtain ⟨τ2, v⟩ := y
          obtain ⟨hv, hf2, g83, g82, gold, gnew, gcur⟩ := hE
          simp only [] at hv hf2 g83 g82 gold gnew gcur ⊢
          subst hv
          have hM2 : RelM c τ2 := hM.congr (fun k b1 b2 => hf2 k (by omega))
          rw [hM2.2.2.1, if_pos (by rw [wiN (by omega), wiN (by omega)]; omega)]
          refine ⟨_, ⟨?_, hf2, g83, g82, gold, fun cu u a1 a2 a3 a4 => ?_⟩, rfl⟩
          · simp only []; omega
          · simp only []
            by_cases z : cu = d
            · subst z; exact gcur u a2 (by omega) a4
            · exact gnew cu u (by omega) a2 a3 a4
      · obtain ⟨τ1, v⟩ := y
        obtain ⟨hv, hf1, h83, h82, hold, hnew⟩ := hD
        simp only [] at hv hf1 h83 h82 hold hnew ⊢
        subst hv
        rw [if_pos (by decide)]
        refine ⟨_, ⟨?_, hf1, fun w hw hw2 => ?_⟩, rfl⟩
        · simp only []; omega
        · simp only []
          by_cases z : w = i
          · subst z; exact ⟨⟨h83, h82⟩, fun cu u a1 a2 a3 a4 => hnew cu u (by omega) a2 a3 a4⟩
          · exact hold w (by omega) hw2
      · simp only []; rw [sU_ne (by omega), sU_ne (by omega)]; exact hf m hm'
      · simp only []; rw [sU_ne (by omega), sUv]
      · simp only []; rw [sUv]; exact hq64
      · simp only []
        obtain ⟨⟨o1, o2⟩, o3⟩ := hr w hw hw2
        refine ⟨⟨?_, ?_⟩, fun cu u a1 a2 a3 a4 => ?_⟩
        · rw [sU_ne (by omega), sUnj (by omega)]; exact o1
        · rw [sUnj (by omega), sU_ne (by omega)]; exact o2
        · rw [sU_ne (by omega), sU_ne (by omega)]; exact o3 cu u a1 a2 a3 a4
    by_cases z : cZ c i ≤ po s i
    · rw [if_pos (by omega)]
      have h9 : cu0 c s i = 9 := by unfold cu0; rw [if_neg (by omega)]
      exact main (-9) (by rw [h9]; rfl)
    · rw [if_neg (by omega)]
      have h9 : cu0 c s i = 8 := by unfold cu0; rw [if_pos (by omega)]
      exact main 8 (by rw [h9]; rfl)
  · obtain ⟨τ, v⟩ := y
    obtain ⟨hv, hf, hr⟩ := hI
    simp only [] at hv hf hr ⊢
    subst hv
    have hMτ : RelM c τ := hM.congr (fun k b1 b2 => hf k (by omega))
    rw [hMτ.2.1, if_pos (by omega), hM.2.2.1, if_pos (by rw [wi_id (by omega) (by omega)]; omega)]
    have hMs : RelM c (sU τ 80 0 (-1)) := hMτ.congr (fun k b1 b2 => sU_ne (by omega))
    have hTg : Tg c p s t (t + a) (sU τ 80 0 (-1)) := fun w cu u a1 a2 a3 a4 a5 => by rw [sU_ne (by omega)]; exact (hr w a1 a1).2 cu u a2 a3 a4 a5
    have hn : t + a + (cK c - (t + a)) = cK c := by omega
    obtain ⟨m, hm1⟩ : ∃ m, cK c - (t + a) = m + 1 := ⟨cK c - (t + a) - 1, by omega⟩
    have hfw : ∀ τ', fQ (sU τ 80 0 (-1)) τ' → X9_firstWeek τ' = some ((t + a : Nat) : Int) := fun τ' h' => f_firstWeek (by rw [h' 66 (by omega), sU_ne (by omega), hf 66 (by omega)]; exact hm.1) (by rw [h' 67 (by omega), sU_ne (by omega), hf 67 (by omega)]; exact hm.2.1) ha
    have key := o_tree (σ := σ) (F := F) hc hMs hTg hfw hn (by omega) hM.2.2.1 m (by omega) s (cu0 c s) 0 (fun _ => 0) (-1, fun _ => 0) (sU τ 80 0 (-1)) ⟨hV.1, by rw [hm1, Nat.sub_self, Nat.add_zero]; exact Nd_0 s (t + a) hV.1 hc⟩ (fun i hi => by omega) (by rw [Nat.zero_add]; exact Nat.mul_le_mul_left _ (by omega)) (by decide) (by decide) (by rw [hm1, Nat.sub_self, sUv]) (fun w hw => by rw [sU_ne (by omega), sU_ne (by omega)]; exact (hr w hw hw).1) (fun i hi => by omega) (Or.inl rfl) (fun _ _ => rfl)
    obtain ⟨cnt, τ', d1, d2, d3, d4, d5, d6⟩ := key
    have hNN := NN_le (n := m + 1) (by omega)
    have e1 := d2 F (by omega)
    have eb : bst c t a s p = uPd c (gn c p s t) (t + a) (cK c - (t + a)) (m + 1) s (cu0 c s) 0 (fun _ => 0) (-1, fun _ => 0) := by
      unfold bst
      rw [hm1]
    rw [← eb] at e1 d5
    rw [show cK c - (t + a) - (m + 1) = 0 by omega] at e1
    show ∃ σ2, lp (oB F σ ((t + a : Nat) : Int)) F (sU τ 80 0 (-1), -1, 0, 0) = _ ∧ _
    have e2 : lp (oB F σ ((t + a : Nat) : Int)) F (sU τ 80 0 (-1), -1, 0, 0) = some ((bst c t a s p).1, τ') := by
      refine Eq.trans e1 ?_
      obtain ⟨G, hG⟩ : ∃ G, F - cnt = G + 1 := ⟨F - cnt - 1, by omega⟩
      rw [hG, lp_succ]
      unfold oB
      simp only []
      rw [if_pos (by decide)]
    refine ⟨τ', e2, fun m hm' => by rw [d6 m (by omega), sU_ne (by omega)]; exact hf m (by omega), ?_⟩
    have hpos : 0 ≤ (bst c t a s p).1 := by unfold bst; exact uPd_pos _ _ _ _ _ _
    rcases d5 with y | y
    · rw [y] at hpos; exact absurd hpos (by decide)
    · exact y
theorem bst_0 {c : cC} {t a s p : Nat} (h : cK c - (t + a) = 0) : (bst c t a s p).1 = 0 := by
  unfold bst
  rw [h]
  show (if (-1 : Int) < ((0 : Nat) : Int) then (((0 : Nat) : Int), (fun _ => 0 : Nat → Nat)) else ((-1 : Int), (fun _ => 0 : Nat → Nat))).1 = 0
  rw [if_pos (by decide)]
  rfl
theorem fM_of {σ σ' : sM} (h : ∀ m, m < 79 ∨ 84 < m → σ' m = σ m) : fM σ σ' := fun k j hk => by rw [h k (by omega)]
theorem s_blind {c : cC} {j : Nat} {q : qT} {x : List Nat} {t a s p F : Nat} {g k l : Int} {σ : sM} (h : Jn c j q x t a s p g k l σ) (hF : 200000 ≤ F) (a1 : Int) (h1 : wi a1 = a1) : Stq j q x (X8_blind F σ a1) (fun τ => X9_blind F τ a1) := by
  obtain ⟨hc, hX, hM, hW, hm, hV, hT, hI, hE, hB', hTh, htr⟩ := id h
  have c5 := hc.2.2.1
  have ht := hV.2.2.1
  have ha : a < 2 := by have := hV.2.2.2; omega
  have hfk : t + a ≤ cK c := by have := hV.2.2.2; omega
  -- the reference's number of weeks
  have hnR : ∀ τ : sM, τ 66 0 = (t : Int) → τ 67 0 = (a : Int) → RelM c τ → ∀ J : Int → Option (Int × sM), bp (X9_isOver τ) (fun r1 => if wi r1 = 0 then bp (X9_firstWeek τ) (fun r18 => J ((τ 59 0) - r18)) else J 0) = J ((cK c - (t + a) : Nat) : Int) := by
    intro τ h66 h67 hMτ J
    unfold X9_isOver
    rw [h66, hMτ.2.2.1, wiN (n := t) (by omega), wiN (n := cK c) (by omega)]
    by_cases y : t = cK c
    · have a0 : a = 0 := by omega
      rw [if_neg (fun hh => hh (by omega)), bp_some, if_neg (by decide), show cK c - (t + a) = 0 by omega]
      rfl
    · rw [if_pos (by omega), bp_some, if_pos (by decide), f_firstWeek h66 h67 ha, bp_some, show (cK c : Int) - ((t + a : Nat) : Int) = ((cK c - (t + a) : Nat) : Int) by omega]
  by_cases y : -2 ≤ a1
  · obtain ⟨σ1, e1, f1, b1, b2'⟩ := e_lookFrom (F := F) hc hX hW hV hB' (by omega)
    obtain ⟨k1, k2, k3⟩ := b2'
    have hM1 : RelM c σ1 := hM.congr (fun k b1 b2 => f1 k (by omega))
    have hm1 : WM c 0 t a s p g k l σ1 := hm.row hc (fun m b1 b2 => f1 m (by omega))
    have hE1 : Me c j q x σ1 := hE.congr hc (fun k hk => f1 k (by omega))
    have e9 : X9_blind F σ1 a1 = (if -2 ≤ a1 ∧ a1 ≤ ((cK c - (t + a) : Nat) : Int) - 1 then (if ¬ wi ((cK c - (t + a) : Nat) : Int) = 0 then bn (X9_findRow F σ1) (fun r14 σ16 => if ¬ wi a1 = (-2) then if ¬ wi a1 = (-1) then if 0 ≤ wi a1 ∧ wi a1 < 8 then some (σ16 81 (wi a1).toNat, σ16) else none else some (r14, σ16) else some (((cK c - (t + a) : Nat) : Int), σ16)) else (if ¬ wi a1 = (-2) then if ¬ wi a1 = (-1) then if 0 ≤ wi a1 ∧ wi a1 < 8 then some (σ1 81 (wi a1).toNat, σ1) else none else some (0, σ1) else some (((cK c - (t + a) : Nat) : Int), σ1))) else some ((-1000000), σ1)) := by
      unfold X9_blind
      simp only [jn_def]
      rw [hnR σ1 hm1.1 hm1.2.1 hM1 (fun q3 => bp (X9_in σ1 a1 (-2) (q3 - 1)) (fun r5 => if ¬ wi r5 = 0 then (if ¬ wi q3 = 0 then bn (X9_findRow F σ1) (fun r14 σ16 => if ¬ wi a1 = (-2) then if ¬ wi a1 = (-1) then if 0 ≤ wi a1 ∧ wi a1 < 8 then some (σ16 81 (wi a1).toNat, σ16) else none else some (r14, σ16) else some (q3, σ16)) else (if ¬ wi a1 = (-2) then if ¬ wi a1 = (-1) then if 0 ≤ wi a1 ∧ wi a1 < 8 then some (σ1 81 (wi a1).toNat, σ1) else none else some (0, σ1) else some (q3, σ1))) else some ((-1000000), σ1)))]
      rw [f_in σ1 a1 (-2) _ h1 (by decide) (wi_id (by omega) (by omega)), bp_some, b2_ifn]
    have e8 : X8_blind F σ a1 = (if ¬ wi a1 = (-1) then if ¬ wi a1 = (-2) then if wi (σ1 37 9) ≤ wi a1 then some ((-1000000), σ1) else bp (X0_codeAt σ1 a1) (fun r8 => some (r8, σ1)) else some (σ1 37 9, σ1) else some (σ1 37 8, σ1)) := by
      unfold X8_blind
      rw [if_pos (by rw [h1]; exact y), e1, bn_some]
    have fin : ∀ (r r' : Int) (σ2 : sM), X8_blind F σ a1 = some (r, σ1) → X9_blind F σ1 a1 = some (r', σ2) → wi r = wi r' → (∀ m, m < 79 ∨ 84 < m → σ2 m = σ1 m) → Stq j q x (X8_blind F σ a1) (fun τ => X9_blind F τ a1) := by
      intro r r' σ2 q1 q2 q3 q4
      exact ⟨r, σ1, r', σ2, q1, q2, q3, h.gen (fun k hk => f1 k (by omega)) (fM_of q4) (hW.congr (f1 26 (by omega))) (hm1.row hc (fun m b1 b2 => q4 m (by omega))) hV hE1 b1⟩
    rw [k1, k2, h1] at e8
    rw [h1] at e9
    by_cases z0 : cK c - (t + a) = 0
    · have hb0 := bst_0 (c := c) (t := t) (a := a) (s := s) (p := p) z0
      rw [z0] at e8 e9
      rw [hb0] at e8
      rw [if_neg (show ¬ ¬ wi ((0 : Nat) : Int) = 0 by decide)] at e9
      by_cases z1 : a1 = -1
      · rw [if_neg (fun hh => hh z1)] at e8
        rw [if_pos (by omega), if_pos (by omega), if_neg (fun hh => hh z1)] at e9
        exact fin _ _ σ1 e8 e9 rfl (fun _ _ => rfl)
      · by_cases z2 : a1 = -2
        · rw [if_pos z1, if_neg (fun hh => hh z2)] at e8
          rw [if_pos (by omega), if_neg (fun hh => hh z2)] at e9
          exact fin _ _ σ1 e8 e9 rfl (fun _ _ => rfl)
        · rw [if_pos z1, if_pos z2, if_pos (by rw [show wi ((0 : Nat) : Int) = 0 by decide]; omega)] at e8
          rw [if_neg (by omega)] at e9
          exact fin _ _ σ1 e8 e9 rfl (fun _ _ => rfl)
    · obtain ⟨σ2, e2, f2, g2⟩ := f_findRow (F := F) hc hM1 hm1 hV hF (by omega)
      rw [if_pos (show ¬ wi ((cK c - (t + a) : Nat) : Int) = 0 by rw [wiN (by omega)]; omega), e2, bn_some] at e9
      rw [wiN (n := cK c - (t + a)) (by omega)] at e8
      by_cases z1 : a1 = -1
      · rw [if_neg (fun hh => hh z1)] at e8
        rw [if_pos (by omega), if_pos (by omega), if_neg (fun hh => hh z1)] at e9
        exact fin _ _ σ2 e8 e9 rfl f2
      · by_cases z2 : a1 = -2
        · rw [if_pos z1, if_neg (fun hh => hh z2)] at e8
          rw [if_pos (by omega), if_neg (fun hh => hh z2)] at e9
          exact fin _ _ σ2 e8 e9 rfl f2
        · by_cases z3 : a1 < ((cK c - (t + a) : Nat) : Int)
          · obtain ⟨i, rfl⟩ : ∃ i : Nat, a1 = i := ⟨a1.toNat, by omega⟩
            have e7 : X0_codeAt σ1 (i : Int) = some (((bst c t a s p).2 i : Nat) : Int) := by
              unfold X0_codeAt
              rw [h1, if_neg (by omega), if_neg (by omega), if_pos (by omega), Int.toNat_natCast, k3 i (by omega)]
            rw [if_pos z1, if_pos z2, if_neg (by omega), e7, bp_some] at e8
            rw [if_pos (by omega), if_pos z2, if_pos z1, if_pos (by omega), Int.toNat_natCast, g2 i (by omega)] at e9
            exact fin _ _ σ2 e8 e9 rfl f2
          · rw [if_pos z1, if_pos z2, if_pos (by omega)] at e8
            rw [if_neg (by omega)] at e9
            exact fin _ _ σ1 e8 e9 rfl (fun _ _ => rfl)
  · refine ⟨_, _, _, _, (?_ : X8_blind F σ a1 = some (-1000000, σ)), (?_ : X9_blind F σ a1 = some (-1000000, σ)), rfl, h.inv⟩
    · unfold X8_blind
      rw [if_neg (by rw [h1]; exact y)]
    · unfold X9_blind
      simp only [jn_def]
      rw [hnR σ hm.1 hm.2.1 hM (fun q3 => bp (X9_in σ a1 (-2) (q3 - 1)) (fun r5 => if ¬ wi r5 = 0 then (if ¬ wi q3 = 0 then bn (X9_findRow F σ) (fun r14 σ16 => if ¬ wi a1 = (-2) then if ¬ wi a1 = (-1) then if 0 ≤ wi a1 ∧ wi a1 < 8 then some (σ16 81 (wi a1).toNat, σ16) else none else some (r14, σ16) else some (q3, σ16)) else (if ¬ wi a1 = (-2) then if ¬ wi a1 = (-1) then if 0 ≤ wi a1 ∧ wi a1 < 8 then some (σ 81 (wi a1).toNat, σ) else none else some (0, σ) else some (q3, σ))) else some ((-1000000), σ)))]
      rw [f_in σ a1 (-2) _ h1 (by decide) (wi_id (by omega) (by omega)), bp_some, b2_ifn, if_neg (by omega)]
theorem s_know {c : cC} {j : Nat} {q : qT} {x : List Nat} {t a s p F : Nat} {g k l : Int} {σ : sM} (h : Jn c j q x t a s p g k l σ) (hF : 200000 ≤ F) (hj : j < 800000) : StA (j + 20) (X8_know F q x σ) (fun τ => X9_know F τ) := by
  obtain ⟨hc, hX, hM, hW, hm, hV, hT, hI, hE, hB', hTh, htr⟩ := id h
  have c5 := hc.2.2.1
  have ht := hV.2.2.1
  have ha : a < 2 := by have := hV.2.2.2; omega
  have hfk : t + a ≤ cK c := by have := hV.2.2.2; omega
  obtain ⟨σ1, e1, f1, b1, k1, k2, k3⟩ := e_lookFrom (F := F) hc hX hW hV hB' (by omega)
  have hE1 : Me c j q x σ1 := hE.congr hc (fun k hk => f1 k (by omega))
  obtain ⟨q3, x3, σ3, e3, f3, m3⟩ := e_outlook4 hc hE1 hV.2.1 (by rw [f1 26 (by omega)]; exact hW.2.2.2.1)
  obtain ⟨st3, R, R', n3, n4, hx3, hmi3, hk3⟩ := use29 hc (by omega) m3
  subst n3
  have w3 : WX 26 t a s p g k l σ3 := hW.congr (by rw [f3 26 (by omega), f1 26 (by omega)])
  obtain ⟨u2, τ3, e4, hu2, hm3, hf3⟩ := e_vNow (F := F) hx3 hmi3 w3 hV (by omega)
  obtain ⟨o3, o4⟩ := hk3 τ3 hm3 hf3
  have fo := f3.trans o4
  have fc : ∀ k, k < 29 ∨ (46 < k ∧ k < 86) → τ3 k = σ k := fun k hk => by rw [fo k (by omega), f1 k (by omega)]
  have e0 : X8_know F q x σ = some (u2 - (bst c t a s p).1, ((R, R + 1, R + 2, R', R' + 1, R' + 2), x3, τ3)) := by
    unfold X8_know
    rw [e1, bn_some, e3, bn_some]
    simp only [if_true]
    rw [if_pos n4, e4, bn_some, fo 37 (by omega), k2]
  have hMa : RelM c τ3 := hM.congr (fun k b1 b2 => fc k (by omega))
  have hma : WM c 0 t a s p g k l τ3 := hm.row hc (fun m b1 b2 => fc m (by omega))
  obtain ⟨σa, ea, fwa⟩ := f_valueNow (F := F) (r := 4) hc hMa hma hV (by omega) (by omega)
  have hMb : RelM c σa := hMa.congr (fun k b1 b2 => fwa k (by omega))
  have hmb : WM c 0 t a s p g k l σa := hma.row hc (fun m b1 b2 => fwa m (by omega))
  obtain ⟨σb, eb, fb⟩ : ∃ σb, X9_blindNow F σa = some ((bst c t a s p).1, σb) ∧ ∀ m, m < 79 ∨ 84 < m → σb m = σa m := by
    unfold X9_blindNow X9_isOver
    rw [hmb.1, hMb.2.2.1, wiN (n := t) (by omega), wiN (n := cK c) (by omega)]
    by_cases y : t = cK c
    · have a0 : a = 0 := by omega
      rw [if_neg (fun hh => hh (by omega)), bp_some, if_pos (by decide), bst_0 (by omega)]
      exact ⟨σa, rfl, fun _ _ => rfl⟩
    · rw [if_pos (by omega), bp_some, if_neg (by decide), f_firstWeek hmb.1 hmb.2.1 ha, bp_some, wiN (n := t + a) (by omega)]
      by_cases y2 : t + a = cK c
      · rw [if_neg (fun hh => hh (by omega)), bst_0 (by omega)]
        exact ⟨σa, rfl, fun _ _ => rfl⟩
      · rw [if_pos (by omega)]
        obtain ⟨σ2, e2, f2, g2⟩ := f_findRow (F := F) hc hMb hmb hV hF (by omega)
        rw [e2, bn_some]
        exact ⟨σ2, rfl, f2⟩
  have e9 : X9_know F τ3 = some ((VN c 4 p t a s : Int) - (bst c t a s p).1, σb) := by
    unfold X9_know
    rw [show ((4 : Nat) : Int) = 4 from rfl] at ea
    rw [ea, bn_some, eb, bn_some]
  refine ⟨_, _, _, _, _, _, e0, e9, ?_, h.gen (σ1 := τ3) (fun k hk => fc k (by omega)) ((fW_fM fwa).trans (fM_of fb)) (hW.congr (fc 26 (by omega))) (hmb.row hc (fun m b1 b2 => fb m (by omega))) hV (o3.me.mono (by omega)) (b1.congr (fo 37 (by omega)) (fo 46 (by omega)))⟩
  have e5 : wi (u2 - (bst c t a s p).1) = wi (wi u2 - (bst c t a s p).1) := by
    unfold wi
    rw [Int32.ofInt_sub, Int32.ofInt_sub, Int32.ofInt_toInt]
  rw [e5, hu2]
