def lo2 (l : Int) : Int := l * 1103515245 + 12345
def rl (l : Int) : Int := wi (q_rem (q_ushr l 16) 10)
/-- the week's going on, wheel by wheel: stand, lot, how many went -/
def gs (c : cC) (p t s : Nat) (l : Int) : Nat → Nat × Int × Nat
  | 0 => (s, l, 0)
  | w + 1 => if gO (gs c p t s l w).1 p w then (if rl (lo2 (gs c p t s l w).2.1) < (tn c (gs c p t s l w).1 p w t : Int) then ((gs c p t s l w).1 + 4 * 16 ^ w, lo2 (gs c p t s l w).2.1, (gs c p t s l w).2.2 + 1) else ((gs c p t s l w).1, lo2 (gs c p t s l w).2.1, (gs c p t s l w).2.2)) else gs c p t s l w
theorem up_po {s w : Nat} (hs : s < 4096) (hw : w < 3) (h : sp s w < 3) {v : Nat} (hv : v < 3) : po (s + 4 * 16 ^ w) v = po s v ∧ sp (s + 4 * 16 ^ w) v = (if v = w then sp s v + 1 else sp s v) := by
  have hd := dig hs
  have l0 := po_lt s 0
  have l1 := po_lt s 1
  have l2 := po_lt s 2
  have k0 := sp_lt s 0
  have k1 := sp_lt s 1
  have k2 := sp_lt s 2
  rcases (show w = 0 ∨ w = 1 ∨ w = 2 by omega) with rfl | rfl | rfl
  · obtain ⟨e1, e2, e3, e4, e5, e6⟩ := en_po (b := sp s 0 + 1) l0 (by omega) l1 k1 l2 k2
    rw [show s + 4 * 16 ^ 0 = en (po s 0) (sp s 0 + 1) (po s 1) (sp s 1) (po s 2) (sp s 2) by show s + 4 * 1 = _; unfold en at *; omega]
    rcases (show v = 0 ∨ v = 1 ∨ v = 2 by omega) with rfl | rfl | rfl
    · rw [if_pos rfl]; exact ⟨e1, e2⟩
    · rw [if_neg (by decide)]; exact ⟨e3, e4⟩
    · rw [if_neg (by decide)]; exact ⟨e5, e6⟩
  · obtain ⟨e1, e2, e3, e4, e5, e6⟩ := en_po (e := sp s 1 + 1) l0 k0 l1 (by omega) l2 k2
    rw [show s + 4 * 16 ^ 1 = en (po s 0) (sp s 0) (po s 1) (sp s 1 + 1) (po s 2) (sp s 2) by show s + 4 * 16 = _; unfold en at *; omega]
    rcases (show v = 0 ∨ v = 1 ∨ v = 2 by omega) with rfl | rfl | rfl
    · rw [if_neg (by decide)]; exact ⟨e1, e2⟩
    · rw [if_pos rfl]; exact ⟨e3, e4⟩
    · rw [if_neg (by decide)]; exact ⟨e5, e6⟩
  · obtain ⟨e1, e2, e3, e4, e5, e6⟩ := en_po (g := sp s 2 + 1) l0 k0 l1 k1 l2 (by omega)
    rw [show s + 4 * 16 ^ 2 = en (po s 0) (sp s 0) (po s 1) (sp s 1) (po s 2) (sp s 2 + 1) by show s + 4 * 256 = _; unfold en at *; omega]
    rcases (show v = 0 ∨ v = 1 ∨ v = 2 by omega) with rfl | rfl | rfl
    · rw [if_neg (by decide)]; exact ⟨e1, e2⟩
    · rw [if_neg (by decide)]; exact ⟨e3, e4⟩
    · rw [if_pos rfl]; exact ⟨e5, e6⟩
theorem up_Vs {c : cC} (hc : OkC c) {s p w : Nat} (hv : Vs c s) (hw : w < 3) (h : gO s p w) : Vs c (s + 4 * 16 ^ w) := by
  have hs := hv.lt hc
  have h3 := hc.2.1
  have hcw : w < cW c := by
    by_cases q : w < cW c
    · exact q
    · have := po_hi hc hv (w := w) (by omega); have := h.1; omega
  refine ⟨?_, fun v hv' => by rw [(up_po hs hw h.2.2 hv').1]; exact hv.2 v hv'⟩
  have hd := dig hs
  have l0 := po_lt s 0
  have l1 := po_lt s 1
  have l2 := po_lt s 2
  have k0 := sp_lt s 0
  have k1 := sp_lt s 1
  have k2 := sp_lt s 2
  have h1 := hv.1
  have hg := h.2.2
  unfold en at hd
  rcases (show cW c = 1 ∨ cW c = 2 ∨ cW c = 3 by omega) with q | q | q
  · rw [q] at h1 ⊢
    have w0 : w = 0 := by omega
    subst w0
    show s + 4 * 1 < 16
    have : 16 ^ 1 = 16 := rfl
    omega
  · rw [q] at h1 ⊢
    have : 16 ^ 2 = 256 := rfl
    rcases (show w = 0 ∨ w = 1 by omega) with rfl | rfl
    · show s + 4 * 1 < 256
      omega
    · show s + 4 * 16 < 256
      omega
  · rw [q] at h1 ⊢
    have : 16 ^ 3 = 4096 := rfl
    rcases (show w = 0 ∨ w = 1 ∨ w = 2 by omega) with rfl | rfl | rfl
    · show s + 4 * 1 < 4096
      omega
    · show s + 4 * 16 < 4096
      omega
    · show s + 4 * 256 < 4096
      omega
theorem gs_Vs {c : cC} (hc : OkC c) (p t : Nat) {s : Nat} (l : Int) (hv : Vs c s) (n : Nat) (hn : n ≤ 3) : Vs c (gs c p t s l n).1 ∧ (gs c p t s l n).2.2 ≤ n := by
  induction n with
  | zero => exact ⟨hv, Nat.le_refl _⟩
  | succ n ih =>
    obtain ⟨h1, h2⟩ := ih (by omega)
    have e : gs c p t s l (n + 1) = if gO (gs c p t s l n).1 p n then (if rl (lo2 (gs c p t s l n).2.1) < (tn c (gs c p t s l n).1 p n t : Int) then ((gs c p t s l n).1 + 4 * 16 ^ n, lo2 (gs c p t s l n).2.1, (gs c p t s l n).2.2 + 1) else ((gs c p t s l n).1, lo2 (gs c p t s l n).2.1, (gs c p t s l n).2.2)) else gs c p t s l n := rfl
    rw [e]
    by_cases q : gO (gs c p t s l n).1 p n
    · rw [if_pos q]
      by_cases q2 : rl (lo2 (gs c p t s l n).2.1) < (tn c (gs c p t s l n).1 p n t : Int)
      · rw [if_pos q2]; exact ⟨up_Vs hc h1 (by omega) q, by simp only []; omega⟩
      · rw [if_neg q2]; exact ⟨h1, by simp only []; omega⟩
    · rw [if_neg q]; exact ⟨h1, by omega⟩
theorem gs_hi {c : cC} (hc : OkC c) (p t : Nat) {s : Nat} (l : Int) (hv : Vs c s) : gs c p t s l 3 = gs c p t s l (cW c) := by
  have h3 := hc.2.1
  have key : ∀ n, cW c ≤ n → n < 3 → gs c p t s l (n + 1) = gs c p t s l n := by
    intro n h1 h2
    have e : gs c p t s l (n + 1) = if gO (gs c p t s l n).1 p n then (if rl (lo2 (gs c p t s l n).2.1) < (tn c (gs c p t s l n).1 p n t : Int) then ((gs c p t s l n).1 + 4 * 16 ^ n, lo2 (gs c p t s l n).2.1, (gs c p t s l n).2.2 + 1) else ((gs c p t s l n).1, lo2 (gs c p t s l n).2.1, (gs c p t s l n).2.2)) else gs c p t s l n := rfl
    have := po_hi hc (gs_Vs hc p t l hv n (by omega)).1 h1
    rw [e, if_neg (fun h => by have := h.1; omega)]
  rcases (show cW c = 0 ∨ cW c = 1 ∨ cW c = 2 ∨ cW c = 3 by omega) with q | q | q | q
  · rw [key 2 (by omega) (by omega), key 1 (by omega) (by omega), key 0 (by omega) (by omega), q]
  · rw [key 2 (by omega) (by omega), key 1 (by omega) (by omega), q]
  · rw [key 2 (by omega) (by omega), q]
  · rw [q]
theorem e_goOn {c : cC} {t a s p F : Nat} {g k l : Int} {σ : sM} (hc : OkC c) (hX : RelX c σ) (hW : WX 26 t a s p g k l σ) (hv : Vs c s) (hp : p < 8) (ht : t < 1000) (hF : 10 ≤ F) : ∃ σ1, X7_goOn F σ = some (((gs c p t s l (cW c)).2.2 : Int), σ1) ∧ (∀ m, m ≠ 26 → σ1 m = σ m) ∧ WX 26 (t + 1) 0 (gs c p t s l (cW c)).1 p g k (gs c p t s l (cW c)).2.1 σ1 := by
  rw [← gs_hi hc p t l hv]
  unfold X7_goOn
  refine lp_inv (fun w (x : sM × Int × Int) => x.2.2 = (w : Int) ∧ x.2.1 = ((gs c p t s l w).2.2 : Int) ∧ (∀ m, m ≠ 26 → x.1 m = σ m) ∧ WX 26 t a (gs c p t s l w).1 p g k (gs c p t s l w).2.1 x.1) 3 (fun (o : Option (Int × sM)) => ∃ σ1 : sM, o = some (((gs c p t s l 3).2.2 : Int), σ1) ∧ (∀ m, m ≠ 26 → σ1 m = σ m) ∧ WX 26 (t + 1) 0 (gs c p t s l 3).1 p g k (gs c p t s l 3).2.1 σ1) (fun w x hw hI K => ?_) (fun x hI K => ?_) ⟨rfl, rfl, fun _ _ => rfl, hW⟩ (by omega)
  · obtain ⟨τ, n, u⟩ := x
    obtain ⟨hu, hn, hf, hw1⟩ := hI
    simp only [] at hu hn hf hw1 ⊢
    subst hu hn
    obtain ⟨hV1, hle⟩ := gs_Vs hc p t l hv w (by omega)
    have e : gs c p t s l (w + 1) = if gO (gs c p t s l w).1 p w then (if rl (lo2 (gs c p t s l w).2.1) < (tn c (gs c p t s l w).1 p w t : Int) then ((gs c p t s l w).1 + 4 * 16 ^ w, lo2 (gs c p t s l w).2.1, (gs c p t s l w).2.2 + 1) else ((gs c p t s l w).1, lo2 (gs c p t s l w).2.1, (gs c p t s l w).2.2)) else gs c p t s l w := rfl
    rw [e]
    generalize gs c p t s l w = G at *
    obtain ⟨s1, l1, n1⟩ := G
    simp only [] at hle hV1 hw1 ⊢
    have hs1 := hV1.lt hc
    obtain ⟨w1, w2, w3, w4, w5, w6, w7⟩ := hw1
    rw [if_neg (show ¬ 3 ≤ wi (w : Int) by rw [wiN (by omega)]; omega), w3, w4, e_mayGoOn (c := c) hs1 hw hp, bp_some]
    simp only [jn_def, nm_def]
    rw [b2_if0, w7]
    by_cases q : gO s1 p w
    · rw [if_pos q, if_pos q]
      have hXl : RelX c (sU τ 26 6 (l1 * 1103515245 + 12345)) := hX.congr hc (fun k b1 b2 => by rw [sU_ne (by omega)]; exact hf k (by omega))
      have h0 : sU τ 26 6 (l1 * 1103515245 + 12345) 26 0 = (t : Int) := by rw [sUnj (by omega)]; exact w1
      have h2 : sU τ 26 6 (l1 * 1103515245 + 12345) 26 2 = (s1 : Int) := by rw [sUnj (by omega)]; exact w3
      have h3 : sU τ 26 6 (l1 * 1103515245 + 12345) 26 3 = (p : Int) := by rw [sUnj (by omega)]; exact w4
      have h6 : sU τ 26 6 (l1 * 1103515245 + 12345) 26 6 = l1 * 1103515245 + 12345 := sUv
      have htn := tn_le c s1 p w t
      rw [h0, h2, h3, h6, e_tenthsNow hXl hc hs1 hw hp ht (hV1.2 w hw), bp_some, wiN (n := tn c s1 p w t) (by omega)]
      show ∃ x', _ ∧ (if (tn c s1 p w t : Int) ≤ rl (lo2 l1) then _ else _) = K x'
      by_cases q2 : rl (lo2 l1) < (tn c s1 p w t : Int)
      · rw [if_pos q2, if_neg (by omega)]
        have f1 := e_fd (sU τ 26 6 (l1 * 1103515245 + 12345)) (w := w) (g := 1) hw (by omega)
        rw [show ((1 : Nat) : Int) = 1 from rfl] at f1
        rw [f1, bp_some]
        refine ⟨_, ⟨?_, ?_, fun m hm => ?_, ?_, ?_, ?_, ?_, ?_, ?_, ?_⟩, rfl⟩
        · simp only []; omega
        · simp only []; omega
        · simp only []; rw [sU_ne hm, sU_ne hm]; exact hf m hm
        · simp only []; rw [sUnj (by omega)]; exact h0
        · simp only []; rw [sUnj (by omega), sUnj (by omega)]; exact w2
        · simp only []; rw [sUv]; push_cast; omega
        · simp only []; rw [sUnj (by omega)]; exact h3
        · simp only []; rw [sUnj (by omega), sUnj (by omega)]; exact w5
        · simp only []; rw [sUnj (by omega), sUnj (by omega)]; exact w6
        · simp only []; rw [sUnj (by omega)]; exact h6
      · rw [if_neg q2, if_pos (by omega)]
        refine ⟨_, ⟨?_, ?_, fun m hm => ?_, ?_, ?_, ?_, ?_, ?_, ?_, ?_⟩, rfl⟩
        · simp only []; omega
        · rfl
        · simp only []; rw [sU_ne hm]; exact hf m hm
        · exact h0
        · simp only []; rw [sUnj (by omega)]; exact w2
        · exact h2
        · exact h3
        · simp only []; rw [sUnj (by omega)]; exact w5
        · simp only []; rw [sUnj (by omega)]; exact w6
        · exact h6
    · rw [if_neg q, if_neg q]
      exact ⟨_, ⟨by simp only []; omega, rfl, hf, ⟨w1, w2, w3, w4, w5, w6, w7⟩⟩, rfl⟩
  · obtain ⟨τ, n, u⟩ := x
    obtain ⟨hu, hn, hf, ⟨w1, w2, w3, w4, w5, w6, w7⟩⟩ := hI
    simp only [] at hu hn hf w1 w2 w3 w4 w5 w6 w7 ⊢
    subst hu hn
    rw [if_pos (by decide)]
    refine ⟨_, rfl, fun m hm => by rw [sU_ne hm, sU_ne hm]; exact hf m hm, ?_, ?_, ?_, ?_, ?_, ?_, ?_⟩
    · rw [sUnj (by omega), sUv, w1]; omega
    · rw [sUv]; rfl
    · rw [sUnj (by omega), sUnj (by omega)]; exact w3
    · rw [sUnj (by omega), sUnj (by omega)]; exact w4
    · rw [sUnj (by omega), sUnj (by omega)]; exact w5
    · rw [sUnj (by omega), sUnj (by omega)]; exact w6
    · rw [sUnj (by omega), sUnj (by omega)]; exact w7
theorem f_goNext {c : cC} {t a s p F : Nat} {g k l : Int} {σ : sM} (hc : OkC c) (hM : RelM c σ) (hm : WM c 0 t a s p g k l σ) (hv : Vs c s) (hp : p < 8) (ht : t < 1000) (hF : 10 ≤ F) : ∃ σ2, X9_goNext F σ = some (((gs c p t s l (cW c)).2.2 : Int), σ2) ∧ fM σ σ2 ∧ WM c 0 (t + 1) 0 (gs c p t s l (cW c)).1 p g k (gs c p t s l (cW c)).2.1 σ2 := by
  have c3 := hc.2.1
  unfold X9_goNext
  refine lp_inv (fun w (x : sM × Int × Int) => x.2.2 = (w : Int) ∧ x.2.1 = ((gs c p t s l w).2.2 : Int) ∧ fM σ x.1 ∧ WM c 0 t a (gs c p t s l w).1 p g k (gs c p t s l w).2.1 x.1) (cW c) (fun (o : Option (Int × sM)) => ∃ σ2 : sM, o = some (((gs c p t s l (cW c)).2.2 : Int), σ2) ∧ fM σ σ2 ∧ WM c 0 (t + 1) 0 (gs c p t s l (cW c)).1 p g k (gs c p t s l (cW c)).2.1 σ2) (fun w x hw hI K => ?_) (fun x hI K => ?_) ⟨rfl, rfl, fM.refl _, hm⟩ (by omega)
  · obtain ⟨τ, n, u⟩ := x
    obtain ⟨hu, hn, hf, hw1⟩ := hI
    simp only [] at hu hn hf hw1 ⊢
    subst hu hn
    obtain ⟨hV1, hle⟩ := gs_Vs hc p t l hv w (by omega)
    have e : gs c p t s l (w + 1) = if gO (gs c p t s l w).1 p w then (if rl (lo2 (gs c p t s l w).2.1) < (tn c (gs c p t s l w).1 p w t : Int) then ((gs c p t s l w).1 + 4 * 16 ^ w, lo2 (gs c p t s l w).2.1, (gs c p t s l w).2.2 + 1) else ((gs c p t s l w).1, lo2 (gs c p t s l w).2.1, (gs c p t s l w).2.2)) else gs c p t s l w := rfl
    rw [e]
    generalize gs c p t s l w = G at *
    obtain ⟨s1, l1, n1⟩ := G
    simp only [] at hle hV1 hw1 ⊢
    have hs1 := hV1.lt hc
    obtain ⟨m1, m2, m3⟩ := hw1.at0 hw
    have k1 := sp_lt s1 w
    have k2 := po_lt s1 w
    have k3 := stp_lt p w
    have hM1 : RelM c τ := hM.congr (fun k b1 b2 => hf.row (by omega))
    simp only [jn_def, nm_def]
    rw [hM1.2.1, hw1.2.2.2.2.1]
    simp (disch := omega) only [b2_if0, b2_ifn, b2_if1, jn_def, nm_def, bp_some, bn_some, wiZ, wlZ, wiD, if_pos, if_neg, if_true, if_false, not_true_eq_false, not_false_eq_true, Int.toNat_natCast]
    rw [m1, m2, m3]
    by_cases q : gO s1 p w
    · have q1 := q.1
      have q2 := q.2.1
      have q3 := q.2.2
      rw [if_pos q]
      have hMl : RelM c (sU τ 70 0 (l1 * 1103515245 + 12345)) := hM1.congr (fun k b1 b2 => sU_ne (by omega))
      have hPl : RelP c p (sU τ 70 0 (l1 * 1103515245 + 12345)) := hw1.relP.congr (sU_ne (by omega))
      have g0 : sU τ 70 0 (l1 * 1103515245 + 12345) 66 0 = (t : Int) := by rw [sU_ne (by omega)]; exact hw1.1
      have g1 : sU τ 70 0 (l1 * 1103515245 + 12345) 71 w = (sp s1 w : Int) := by rw [sU_ne (by omega)]; exact m1
      have g2 : sU τ 70 0 (l1 * 1103515245 + 12345) 72 w = (po s1 w : Int) := by rw [sU_ne (by omega)]; exact m2
      have g6 : sU τ 70 0 (l1 * 1103515245 + 12345) 70 0 = l1 * 1103515245 + 12345 := sUv
      have htn := tn_le c s1 p w t
      rw [g0, g1, g2, g6, f_goes hMl hc hPl hw k1 k2 ht, rg_tn]
      simp (disch := omega) only [b2_if0, b2_ifn, b2_if1, jn_def, nm_def, bp_some, bn_some, wiZ, wlZ, wiD, if_pos, if_neg, if_true, if_false, not_true_eq_false, not_false_eq_true, Int.toNat_natCast]
      show ∃ x', _ ∧ (if (tn c s1 p w t : Int) ≤ rl (lo2 l1) then _ else _) = K x'
      by_cases q4 : rl (lo2 l1) < (tn c s1 p w t : Int)
      · rw [if_pos q4, if_neg (by omega)]
        refine ⟨_, ⟨?_, ?_, fun m jj hmj => ?_, ?_, ?_, ?_, ?_, ?_, fun v hv' => ?_⟩, rfl⟩
        · simp only []; omega
        · simp only []; omega
        · simp only []
          by_cases y : m = 71
          · rw [y, sUnj (by omega), sU_ne (by omega)]; rw [y] at hmj; exact hf 71 jj hmj
          · rw [sU_ne y]
            by_cases y2 : m = 70
            · rw [y2, sUnj (by omega)]; rw [y2] at hmj; exact hf 70 jj hmj
            · rw [sU_ne y2]; exact hf m jj hmj
        · simp only []; rw [sU_ne (by omega)]; exact g0
        · simp only []; rw [sU_ne (by omega), sU_ne (by omega)]; exact hw1.2.1
        · simp only []; rw [sU_ne (by omega), sU_ne (by omega)]; exact hw1.2.2.1
        · simp only []; rw [sU_ne (by omega), sU_ne (by omega)]; exact hw1.2.2.2.1
        · simp only []; rw [sU_ne (by omega)]; exact g6
        · obtain ⟨m1', m2', m3'⟩ := hw1.at0 hv'
          obtain ⟨o1, o2⟩ := up_po hs1 (w := w) (by omega) q3 (v := v) (by omega)
          simp only []
          rw [show 3 * 0 + v = v by omega, o1, o2]
          refine ⟨?_, ?_, ?_⟩
          · by_cases y : v = w
            · subst y; rw [sUv, if_pos rfl]; omega
            · rw [sUnj y, sU_ne (by omega), if_neg y]; exact m1'
          · rw [sU_ne (by omega), sU_ne (by omega)]; exact m2'
          · rw [sU_ne (by omega), sU_ne (by omega)]; exact m3'
      · rw [if_neg q4, if_pos (by omega)]
        refine ⟨_, ⟨?_, ?_, fun m jj hmj => ?_, ?_, ?_, ?_, ?_, ?_, fun v hv' => ?_⟩, rfl⟩
        · simp only []; omega
        · rfl
        · simp only []
          by_cases y2 : m = 70
          · rw [y2, sUnj (by omega)]; rw [y2] at hmj; exact hf 70 jj hmj
          · rw [sU_ne y2]; exact hf m jj hmj
        · exact g0
        · simp only []; rw [sU_ne (by omega)]; exact hw1.2.1
        · simp only []; rw [sU_ne (by omega)]; exact hw1.2.2.1
        · simp only []; rw [sU_ne (by omega)]; exact hw1.2.2.2.1
        · exact g6
        · simp only []; rw [sU_ne (by omega), sU_ne (by omega), sU_ne (by omega)]; exact hw1.2.2.2.2.2 v hv'
    · rw [if_neg q]
      refine ⟨(τ, (n1 : Int), (w : Int) + 1), ⟨by simp only []; omega, rfl, hf, hw1⟩, ?_⟩
      by_cases y1 : po s1 w = 0
      · simp (disch := omega) only [b2_if0, b2_ifn, b2_if1, jn_def, nm_def, bp_some, bn_some, wiZ, wlZ, wiD, if_pos, if_neg, if_true, if_false, not_true_eq_false, not_false_eq_true, Int.toNat_natCast]
      · by_cases y2 : stp p w = 0
        · have y3 : ¬ sp s1 w < 3 := fun h => q ⟨by omega, y2, h⟩
          simp (disch := omega) only [b2_if0, b2_ifn, b2_if1, jn_def, nm_def, bp_some, bn_some, wiZ, wlZ, wiD, if_pos, if_neg, if_true, if_false, not_true_eq_false, not_false_eq_true, Int.toNat_natCast]
        · simp (disch := omega) only [b2_if0, b2_ifn, b2_if1, jn_def, nm_def, bp_some, bn_some, wiZ, wlZ, wiD, if_pos, if_neg, if_true, if_false, not_true_eq_false, not_false_eq_true, Int.toNat_natCast]
  · obtain ⟨τ, n, u⟩ := x
    obtain ⟨hu, hn, hf, hw1⟩ := hI
    simp only [] at hu hn hf hw1 ⊢
    subst hu hn
    have hM1 : RelM c τ := hM.congr (fun k b1 b2 => hf.row (by omega))
    rw [hM1.2.1, if_pos (by omega), q_z01.1]
    refine ⟨_, rfl, fun m jj hmj => ?_, ?_, ?_, ?_, ?_, ?_, fun v hv' => ?_⟩
    · by_cases y : m = 67
      · rw [y, sUnj (by omega), sU_ne (by omega)]; rw [y] at hmj; exact hf 67 jj hmj
      · rw [sU_ne y]
        by_cases y2 : m = 66
        · rw [y2, sUnj (by omega)]; rw [y2] at hmj; exact hf 66 jj hmj
        · rw [sU_ne y2]; exact hf m jj hmj
    · rw [sU_ne (by omega), sUv, hw1.1]; omega
    · rw [sUv]; rfl
    · rw [sU_ne (by omega), sU_ne (by omega)]; exact hw1.2.2.1
    · rw [sU_ne (by omega), sU_ne (by omega)]; exact hw1.2.2.2.1
    · rw [sU_ne (by omega), sU_ne (by omega)]; exact hw1.2.2.2.2.1
    · rw [sU_ne (by omega), sU_ne (by omega), sU_ne (by omega), sU_ne (by omega), sU_ne (by omega), sU_ne (by omega)]; exact hw1.2.2.2.2.2 v hv'
theorem gs_VW {c : cC} (hc : OkC c) {t a s p : Nat} (l : Int) (hV : VW c t a s p) (ht : t < cK c) : VW c (t + 1) 0 (gs c p t s l (cW c)).1 p := ⟨(gs_Vs hc p t l hV.1 (cW c) hc.2.1).1, hV.2.1, by omega, Or.inl rfl⟩
theorem s_next {c : cC} {j : Nat} {q : qT} {x : List Nat} {t a s p F : Nat} {g k l : Int} {σ : sM} (h : Jn c j q x t a s p g k l σ) (hF : 10 ≤ F) : Stq j q x (X8_next F σ) (fun τ => X9_next F τ) := by
  obtain ⟨hc, hX, hM, hW, hm, hV, -⟩ := id h
  have c5 := hc.2.2.1
  have ht := hV.2.2.1
  by_cases z : t < cK c
  · obtain ⟨σ1, e1, f1, w1⟩ := e_goOn hc hX hW hV.1 hV.2.1 (by omega) hF
    have hM1 : RelM c σ1 := hM.congr (fun k b1 b2 => f1 k (by omega))
    have hm1 : WM c 0 t a s p g k l σ1 := hm.row hc (fun m b1 b2 => f1 m (by omega))
    obtain ⟨σ2, e2, f2, w2⟩ := f_goNext hc hM1 hm1 hV.1 hV.2.1 (by omega) hF
    have e3 : X8_next F σ = some (((gs c p t s l (cW c)).2.2 : Int), σ1) := by
      unfold X8_next X8_isOver
      rw [hW.1, hX.2.2.1, e1]
      simp (disch := omega) only [b2_if0, b2_ifn, b2_if1, jn_def, nm_def, bp_some, bn_some, wiZ, wlZ, wiD, if_pos, if_neg, if_true, if_false, not_true_eq_false, not_false_eq_true, Int.toNat_natCast]
    have e4 : X9_next F σ1 = some (((gs c p t s l (cW c)).2.2 : Int), σ2) := by
      unfold X9_next X9_isOver
      rw [hm1.1, hM1.2.2.1, e2]
      simp (disch := omega) only [b2_if0, b2_ifn, b2_if1, jn_def, nm_def, bp_some, bn_some, wiZ, wlZ, wiD, if_pos, if_neg, if_true, if_false, not_true_eq_false, not_false_eq_true, Int.toNat_natCast]
    exact ⟨_, _, _, _, e3, e4, rfl, h.win f1 f2 w1 w2 (gs_VW hc l hV z)⟩
  · refine ⟨_, _, _, _, (?_ : X8_next F σ = some (-2, σ)), (?_ : X9_next F σ = some (-2, σ)), rfl, h.inv⟩
    · unfold X8_next X8_isOver
      rw [hW.1, hX.2.2.1]
      simp (disch := omega) only [b2_if0, b2_ifn, b2_if1, jn_def, nm_def, bp_some, bn_some, wiZ, wlZ, wiD, if_pos, if_neg, if_true, if_false, not_true_eq_false, not_false_eq_true, Int.toNat_natCast]
    · unfold X9_next X9_isOver
      rw [hm.1, hM.2.2.1]
      simp (disch := omega) only [b2_if0, b2_ifn, b2_if1, jn_def, nm_def, bp_some, bn_some, wiZ, wlZ, wiD, if_pos, if_neg, if_true, if_false, not_true_eq_false, not_false_eq_true, Int.toNat_natCast]
