theorem WM.at0 {c : cC} {t a s p : Nat} {g k l : Int} {σ : sM} (h : WM c 0 t a s p g k l σ) {w : Nat} (hw : w < cW c) : σ 71 w = (sp s w : Int) ∧ σ 72 w = (po s w : Int) ∧ σ 73 w = (stp p w : Int) := by
  have := h.2.2.2.2.2 w hw
  rw [show 3 * 0 + w = w by omega] at this
  exact this
theorem e_isOpen {c : cC} {σ : sM} (h : RelX c σ) (hc : OkC c) {s w : Nat} (hs : s < 4096) (hw : w < 3) (hv : po s w ≤ cZ c w) : X1_isOpen σ (s : Int) (w : Int) = some (opn c s w : Int) := by
  have h1 := po_lt s w
  unfold X1_isOpen opn
  simp (disch := omega) only [b2_if0, b2_ifn, b2_if1, jn_def, nm_def, bp_some, bn_some, wiZ, wlZ, wiD, if_pos, if_neg, if_true, if_false, not_true_eq_false, not_false_eq_true, Int.toNat_natCast, e_portionsOf, e_isWhole h hc]
  by_cases q : po s w = 0
  · simp (disch := omega) only [b2_if0, b2_ifn, b2_if1, jn_def, nm_def, bp_some, bn_some, wiZ, wlZ, wiD, if_pos, if_neg, if_true, if_false, not_true_eq_false, not_false_eq_true, Int.toNat_natCast]; rfl
  · by_cases q2 : po s w = cZ c w
    · simp (disch := omega) only [b2_if0, b2_ifn, b2_if1, jn_def, nm_def, bp_some, bn_some, wiZ, wlZ, wiD, if_pos, if_neg, if_true, if_false, not_true_eq_false, not_false_eq_true, Int.toNat_natCast]; rfl
    · simp (disch := omega) only [b2_if0, b2_ifn, b2_if1, jn_def, nm_def, bp_some, bn_some, wiZ, wlZ, wiD, if_pos, if_neg, if_true, if_false, not_true_eq_false, not_false_eq_true, Int.toNat_natCast]; rfl
theorem s_wheel {c : cC} {j : Nat} {q : qT} {x : List Nat} {t a s p : Nat} {g k l : Int} {σ : sM} (h : Jn c j q x t a s p g k l σ) (a1 a2 : Int) (h1 : wi a1 = a1) (h2 : wi a2 = a2) : ∃ r, X8_wheel σ a1 a2 = some r ∧ X9_wheel σ a1 a2 = some r := by
  obtain ⟨hc, hX, hM, hW, hm, hV, -⟩ := h
  have b1 := rng h1
  have b2' := rng h2
  have c3 := hc.2.1
  have c5 := hc.2.2.1
  have hs := hV.1.lt hc
  have hp := hV.2.1
  have ht := hV.2.2.1
  unfold X8_wheel X9_wheel
  rw [e_isWheel hX hc a1 h1, f_isWheel hM hc a1 h1, hW.1, hW.2.2.1, hW.2.2.2.1]
  by_cases q1 : 0 ≤ a1 ∧ a1 < (cW c : Int)
  · obtain ⟨w, rfl⟩ : ∃ i : Nat, a1 = i := ⟨a1.toNat, by omega⟩
    have hw : w < cW c := by omega
    obtain ⟨m1, m2, m3⟩ := hm.at0 hw
    have k1 := sp_lt s w
    have k2 := po_lt s w
    have k3 := stp_lt p w
    have k4 := cZ_le hc w
    have k5 := hV.1.2 w (by omega)
    obtain ⟨n1, n2⟩ := hM.2.2.2.2.1 w hw
    rw [hm.1]
    simp only [bp_some, b2_ifn, if_pos q1, wiN (n := w) (show w < 2 ^ 31 by omega), if_pos (show 0 ≤ (w : Int) ∧ (w : Int) < 6 by omega), if_pos (show 0 ≤ (w : Int) ∧ (w : Int) < 9 by omega), Int.toNat_natCast, h2]
    rw [m1, m2, m3, n1, n2]
    by_cases z0 : a2 = 0
    · refine ⟨(cO c w : Int), ?_, ?_⟩
      · simp (disch := omega) only [b2_if0, b2_ifn, b2_if1, jn_def, nm_def, bp_some, bn_some, wiZ, wlZ, wiD, if_pos, if_neg, if_true, if_false, not_true_eq_false, not_false_eq_true, Int.toNat_natCast, e_sortOf hX hc]
      · simp (disch := omega) only [b2_if0, b2_ifn, b2_if1, jn_def, nm_def, bp_some, bn_some, wiZ, wlZ, wiD, if_pos, if_neg, if_true, if_false, not_true_eq_false, not_false_eq_true, Int.toNat_natCast]
    by_cases z1 : a2 = 1
    · refine ⟨(cZ c w : Int), ?_, ?_⟩
      · simp (disch := omega) only [b2_if0, b2_ifn, b2_if1, jn_def, nm_def, bp_some, bn_some, wiZ, wlZ, wiD, if_pos, if_neg, if_true, if_false, not_true_eq_false, not_false_eq_true, Int.toNat_natCast, e_size hX]
      · simp (disch := omega) only [b2_if0, b2_ifn, b2_if1, jn_def, nm_def, bp_some, bn_some, wiZ, wlZ, wiD, if_pos, if_neg, if_true, if_false, not_true_eq_false, not_false_eq_true, Int.toNat_natCast]
    by_cases z2 : a2 = 2
    · refine ⟨(sp s w : Int), ?_, ?_⟩
      · simp (disch := omega) only [b2_if0, b2_ifn, b2_if1, jn_def, nm_def, bp_some, bn_some, wiZ, wlZ, wiD, if_pos, if_neg, if_true, if_false, not_true_eq_false, not_false_eq_true, Int.toNat_natCast, e_stepOf]
      · simp (disch := omega) only [b2_if0, b2_ifn, b2_if1, jn_def, nm_def, bp_some, bn_some, wiZ, wlZ, wiD, if_pos, if_neg, if_true, if_false, not_true_eq_false, not_false_eq_true, Int.toNat_natCast]
    by_cases z3 : a2 = 3
    · refine ⟨(po s w : Int), ?_, ?_⟩
      · simp (disch := omega) only [b2_if0, b2_ifn, b2_if1, jn_def, nm_def, bp_some, bn_some, wiZ, wlZ, wiD, if_pos, if_neg, if_true, if_false, not_true_eq_false, not_false_eq_true, Int.toNat_natCast, e_portionsOf]
      · simp (disch := omega) only [b2_if0, b2_ifn, b2_if1, jn_def, nm_def, bp_some, bn_some, wiZ, wlZ, wiD, if_pos, if_neg, if_true, if_false, not_true_eq_false, not_false_eq_true, Int.toNat_natCast]
    by_cases z4 : a2 = 4
    · refine ⟨(opn c s w : Int), ?_, ?_⟩
      · have := opn_le c s w
        simp (disch := omega) only [b2_if0, b2_ifn, b2_if1, jn_def, nm_def, bp_some, bn_some, wiZ, wlZ, wiD, if_pos, if_neg, if_true, if_false, not_true_eq_false, not_false_eq_true, Int.toNat_natCast, e_isOpen hX hc]
        by_cases z : opn c s w = 0
        · simp (disch := omega) only [b2_if0, b2_ifn, b2_if1, jn_def, nm_def, bp_some, bn_some, wiZ, wlZ, wiD, if_pos, if_neg, if_true, if_false, not_true_eq_false, not_false_eq_true, Int.toNat_natCast]; rw [z]; rfl
        · simp (disch := omega) only [b2_if0, b2_ifn, b2_if1, jn_def, nm_def, bp_some, bn_some, wiZ, wlZ, wiD, if_pos, if_neg, if_true, if_false, not_true_eq_false, not_false_eq_true, Int.toNat_natCast]; rw [show opn c s w = 1 by omega]; rfl
      · unfold opn
        by_cases z : po s w = 0
        · simp (disch := omega) only [b2_if0, b2_ifn, b2_if1, jn_def, nm_def, bp_some, bn_some, wiZ, wlZ, wiD, if_pos, if_neg, if_true, if_false, not_true_eq_false, not_false_eq_true, Int.toNat_natCast]; rfl
        · by_cases z' : po s w < cZ c w
          · simp (disch := omega) only [b2_if0, b2_ifn, b2_if1, jn_def, nm_def, bp_some, bn_some, wiZ, wlZ, wiD, if_pos, if_neg, if_true, if_false, not_true_eq_false, not_false_eq_true, Int.toNat_natCast]; rfl
          · simp (disch := omega) only [b2_if0, b2_ifn, b2_if1, jn_def, nm_def, bp_some, bn_some, wiZ, wlZ, wiD, if_pos, if_neg, if_true, if_false, not_true_eq_false, not_false_eq_true, Int.toNat_natCast]; rfl
    by_cases z5 : a2 = 5
    · refine ⟨(stp p w : Int), ?_, ?_⟩
      · simp (disch := omega) only [b2_if0, b2_ifn, b2_if1, jn_def, nm_def, bp_some, bn_some, wiZ, wlZ, wiD, if_pos, if_neg, if_true, if_false, not_true_eq_false, not_false_eq_true, Int.toNat_natCast, e_has]
        by_cases z : stp p w = 0
        · simp (disch := omega) only [b2_if0, b2_ifn, b2_if1, jn_def, nm_def, bp_some, bn_some, wiZ, wlZ, wiD, if_pos, if_neg, if_true, if_false, not_true_eq_false, not_false_eq_true, Int.toNat_natCast]; rw [z]; rfl
        · simp (disch := omega) only [b2_if0, b2_ifn, b2_if1, jn_def, nm_def, bp_some, bn_some, wiZ, wlZ, wiD, if_pos, if_neg, if_true, if_false, not_true_eq_false, not_false_eq_true, Int.toNat_natCast]; rw [show stp p w = 1 by omega]; rfl
      · by_cases z : stp p w = 0
        · simp (disch := omega) only [b2_if0, b2_ifn, b2_if1, jn_def, nm_def, bp_some, bn_some, wiZ, wlZ, wiD, if_pos, if_neg, if_true, if_false, not_true_eq_false, not_false_eq_true, Int.toNat_natCast]; rw [z]; rfl
        · simp (disch := omega) only [b2_if0, b2_ifn, b2_if1, jn_def, nm_def, bp_some, bn_some, wiZ, wlZ, wiD, if_pos, if_neg, if_true, if_false, not_true_eq_false, not_false_eq_true, Int.toNat_natCast]; rw [show stp p w = 1 by omega]; rfl
    by_cases z6 : a2 = 6
    · refine ⟨(cT c (cO c w) (sp s w) : Int), ?_, ?_⟩
      · simp (disch := omega) only [b2_if0, b2_ifn, b2_if1, jn_def, nm_def, bp_some, bn_some, wiZ, wlZ, wiD, if_pos, if_neg, if_true, if_false, not_true_eq_false, not_false_eq_true, Int.toNat_natCast, e_goodNow hX hc]
      · simp (disch := omega) only [b2_if0, b2_ifn, b2_if1, jn_def, nm_def, bp_some, bn_some, wiZ, wlZ, wiD, if_pos, if_neg, if_true, if_false, not_true_eq_false, not_false_eq_true, Int.toNat_natCast, f_goodOf hM hc]
    by_cases z7 : a2 = 7
    · refine ⟨(tn c s p w t : Int), ?_, ?_⟩
      · simp (disch := omega) only [b2_if0, b2_ifn, b2_if1, jn_def, nm_def, bp_some, bn_some, wiZ, wlZ, wiD, if_pos, if_neg, if_true, if_false, not_true_eq_false, not_false_eq_true, Int.toNat_natCast, e_tenthsNow hX hc]
      · simp (disch := omega) only [b2_if0, b2_ifn, b2_if1, jn_def, nm_def, bp_some, bn_some, wiZ, wlZ, wiD, if_pos, if_neg, if_true, if_false, not_true_eq_false, not_false_eq_true, Int.toNat_natCast, f_goes hM hc hm.relP, rg_tn]
    refine ⟨-1, ?_, ?_⟩
    · simp (disch := omega) only [b2_if0, b2_ifn, b2_if1, jn_def, nm_def, bp_some, bn_some, wiZ, wlZ, wiD, if_pos, if_neg, if_true, if_false, not_true_eq_false, not_false_eq_true, Int.toNat_natCast]
    · simp (disch := omega) only [b2_if0, b2_ifn, b2_if1, jn_def, nm_def, bp_some, bn_some, wiZ, wlZ, wiD, if_pos, if_neg, if_true, if_false, not_true_eq_false, not_false_eq_true, Int.toNat_natCast]
  · refine ⟨-1, ?_, ?_⟩
    · rw [bp_some, b2_ifn, if_neg q1]
    · rw [bp_some, b2_ifn, if_neg q1]
def ns (s w b k : Nat) : Nat := wo s w + (4 * b + k) * 16 ^ w
theorem or_wo : (∀ a, a < 16 → ∀ b, b < 16 → ∀ d, d < 16 → q_or ((16 * b + 256 * d : Nat) : Int) ((a : Nat) : Int) = ((16 * b + 256 * d + a : Nat) : Int)) ∧ (∀ a, a < 16 → ∀ b, b < 16 → ∀ d, d < 16 → q_or ((b + 256 * d : Nat) : Int) ((a * 16 : Nat) : Int) = ((b + 256 * d + a * 16 : Nat) : Int)) ∧ (∀ a, a < 16 → ∀ b, b < 16 → ∀ d, d < 16 → q_or ((b + 16 * d : Nat) : Int) ((a * 256 : Nat) : Int) = ((b + 16 * d + a * 256 : Nat) : Int)) := by
  refine ⟨by decide +kernel, by decide +kernel, by decide +kernel⟩
theorem e_ns {s w b k : Nat} (hs : s < 4096) (hw : w < 3) (hb : b < 4) (hk : k < 4) : q_or (wo s w : Int) (((4 * b + k) * 16 ^ w : Nat) : Int) = (ns s w b k : Int) := by
  obtain ⟨h0, h1, h2⟩ := or_wo
  unfold ns wo cd
  rcases (show w = 0 ∨ w = 1 ∨ w = 2 by omega) with rfl | rfl | rfl
  · have := h0 (4 * b + k) (by omega) (s / 16 % 16) (by omega) (s / 256 % 16) (by omega)
    rw [show s - s / 16 ^ 0 % 16 * 16 ^ 0 = 16 * (s / 16 % 16) + 256 * (s / 256 % 16) by show s - s / 1 % 16 * 1 = _; omega, show (4 * b + k) * 16 ^ 0 = 4 * b + k by omega]
    exact this
  · have := h1 (4 * b + k) (by omega) (s % 16) (by omega) (s / 256 % 16) (by omega)
    rw [show s - s / 16 ^ 1 % 16 * 16 ^ 1 = s % 16 + 256 * (s / 256 % 16) by show s - s / 16 % 16 * 16 = _; omega, show (4 * b + k) * 16 ^ 1 = (4 * b + k) * 16 from rfl]
    exact this
  · have := h2 (4 * b + k) (by omega) (s % 16) (by omega) (s / 16 % 16) (by omega)
    rw [show s - s / 16 ^ 2 % 16 * 16 ^ 2 = s % 16 + 16 * (s / 16 % 16) by show s - s / 256 % 16 * 256 = _; omega, show (4 * b + k) * 16 ^ 2 = (4 * b + k) * 256 from rfl]
    exact this
theorem ns_po {s w b k : Nat} (hs : s < 4096) (hw : w < 3) (hb : b < 4) (hk : k < 4) {v : Nat} (hv : v < 3) : po (ns s w b k) v = (if v = w then k else po s v) ∧ sp (ns s w b k) v = (if v = w then b else sp s v) := by
  have hd := dig hs
  have l0 := po_lt s 0
  have l1 := po_lt s 1
  have l2 := po_lt s 2
  have k0 := sp_lt s 0
  have k1 := sp_lt s 1
  have k2 := sp_lt s 2
  unfold ns wo
  rw [cd_eq]
  rcases (show w = 0 ∨ w = 1 ∨ w = 2 by omega) with rfl | rfl | rfl
  · obtain ⟨e1, e2, e3, e4, e5, e6⟩ := en_po (a := k) (b := b) hk hb l1 k1 l2 k2
    rw [show s - (4 * sp s 0 + po s 0) * 16 ^ 0 + (4 * b + k) * 16 ^ 0 = en k b (po s 1) (sp s 1) (po s 2) (sp s 2) by show s - (4 * sp s 0 + po s 0) * 1 + (4 * b + k) * 1 = _; unfold en at *; omega]
    rcases (show v = 0 ∨ v = 1 ∨ v = 2 by omega) with rfl | rfl | rfl
    · rw [if_pos rfl, if_pos rfl]; exact ⟨e1, e2⟩
    · rw [if_neg (by decide), if_neg (by decide)]; exact ⟨e3, e4⟩
    · rw [if_neg (by decide), if_neg (by decide)]; exact ⟨e5, e6⟩
  · obtain ⟨e1, e2, e3, e4, e5, e6⟩ := en_po (d := k) (e := b) l0 k0 hk hb l2 k2
    rw [show s - (4 * sp s 1 + po s 1) * 16 ^ 1 + (4 * b + k) * 16 ^ 1 = en (po s 0) (sp s 0) k b (po s 2) (sp s 2) by show s - (4 * sp s 1 + po s 1) * 16 + (4 * b + k) * 16 = _; unfold en at *; omega]
    rcases (show v = 0 ∨ v = 1 ∨ v = 2 by omega) with rfl | rfl | rfl
    · rw [if_neg (by decide), if_neg (by decide)]; exact ⟨e1, e2⟩
    · rw [if_pos rfl, if_pos rfl]; exact ⟨e3, e4⟩
    · rw [if_neg (by decide), if_neg (by decide)]; exact ⟨e5, e6⟩
  · obtain ⟨e1, e2, e3, e4, e5, e6⟩ := en_po (f := k) (g := b) l0 k0 l1 k1 hk hb
    rw [show s - (4 * sp s 2 + po s 2) * 16 ^ 2 + (4 * b + k) * 16 ^ 2 = en (po s 0) (sp s 0) (po s 1) (sp s 1) k b by show s - (4 * sp s 2 + po s 2) * 256 + (4 * b + k) * 256 = _; unfold en at *; omega]
    rcases (show v = 0 ∨ v = 1 ∨ v = 2 by omega) with rfl | rfl | rfl
    · rw [if_neg (by decide), if_neg (by decide)]; exact ⟨e1, e2⟩
    · rw [if_neg (by decide), if_neg (by decide)]; exact ⟨e3, e4⟩
    · rw [if_pos rfl, if_pos rfl]; exact ⟨e5, e6⟩
theorem ns_Vs {c : cC} (hc : OkC c) {s w b k : Nat} (hv : Vs c s) (hw : w < cW c) (hb : b < 4) (hk : k ≤ cZ c w) : Vs c (ns s w b k) := by
  have hs := hv.lt hc
  have h3 := hc.2.1
  have hz := cZ_le hc w
  refine ⟨?_, fun v hv' => ?_⟩
  · have hd := dig hs
    have l0 := po_lt s 0
    have l1 := po_lt s 1
    have l2 := po_lt s 2
    have k0 := sp_lt s 0
    have k1 := sp_lt s 1
    have k2 := sp_lt s 2
    have h1 := hv.1
    unfold ns wo
    rw [cd_eq]
    rcases (show cW c = 1 ∨ cW c = 2 ∨ cW c = 3 by omega) with q | q | q
    · rw [q] at h1 ⊢
      have w0 : w = 0 := by omega
      subst w0
      show s - (4 * sp s 0 + po s 0) * 1 + (4 * b + k) * 1 < 16
      have : 16 ^ 1 = 16 := rfl
      unfold en at hd
      omega
    · rw [q] at h1 ⊢
      have : 16 ^ 2 = 256 := rfl
      unfold en at hd
      rcases (show w = 0 ∨ w = 1 by omega) with rfl | rfl
      · show s - (4 * sp s 0 + po s 0) * 1 + (4 * b + k) * 1 < 256
        omega
      · show s - (4 * sp s 1 + po s 1) * 16 + (4 * b + k) * 16 < 256
        omega
    · rw [q] at h1 ⊢
      have : 16 ^ 3 = 4096 := rfl
      unfold en at hd
      rcases (show w = 0 ∨ w = 1 ∨ w = 2 by omega) with rfl | rfl | rfl
      · show s - (4 * sp s 0 + po s 0) * 1 + (4 * b + k) * 1 < 4096
        omega
      · show s - (4 * sp s 1 + po s 1) * 16 + (4 * b + k) * 16 < 4096
        omega
      · show s - (4 * sp s 2 + po s 2) * 256 + (4 * b + k) * 256 < 4096
        omega
  · rw [(ns_po hs (by omega) hb (by omega) hv').1]
    by_cases q : v = w
    · rw [if_pos q, q]; exact hk
    · rw [if_neg q]; exact hv.2 v hv'
theorem s_place {c : cC} {j : Nat} {q : qT} {x : List Nat} {t a s p : Nat} {g k l : Int} {σ : sM} (h : Jn c j q x t a s p g k l σ) (a1 a2 a3 : Int) (h1 : wi a1 = a1) (h2 : wi a2 = a2) (h3 : wi a3 = a3) : Stq j q x (X8_place σ a1 a2 a3) (fun τ => X9_place τ a1 a2 a3) := by
  obtain ⟨hc, hX, hM, hW, hm, hV, -⟩ := id h
  have b1 := rng h1
  have b2' := rng h2
  have b3' := rng h3
  have c3 := hc.2.1
  have hs := hV.1.lt hc
  have bad : X8_place σ a1 a2 a3 = some (-1, σ) → X9_place σ a1 a2 a3 = some (-1, σ) → Stq j q x (X8_place σ a1 a2 a3) (fun τ => X9_place τ a1 a2 a3) := fun e1 e2 => ⟨_, _, _, _, e1, e2, rfl, h.inv⟩
  by_cases q1 : 0 ≤ a1 ∧ a1 < (cW c : Int)
  · obtain ⟨w, rfl⟩ : ∃ i : Nat, a1 = i := ⟨a1.toNat, by omega⟩
    have hw : w < cW c := by omega
    obtain ⟨m1, m2, m3⟩ := hm.at0 hw
    have k1 := sp_lt s w
    have k2 := po_lt s w
    have k4 := cZ_le hc w
    obtain ⟨n1, n2⟩ := hM.2.2.2.2.1 w hw
    by_cases q2 : 0 ≤ a2 ∧ a2 ≤ 3
    · obtain ⟨b, rfl⟩ : ∃ i : Nat, a2 = i := ⟨a2.toNat, by omega⟩
      by_cases q3 : 0 ≤ a3 ∧ a3 ≤ (cZ c w : Int)
      · obtain ⟨k', rfl⟩ : ∃ i : Nat, a3 = i := ⟨a3.toNat, by omega⟩
        have e1 : X8_place σ (w : Int) (b : Int) (k' : Int) = some (10 * (sp s w : Int) + (po s w : Int), sU σ 26 2 (ns s w b k' : Int)) := by
          unfold X8_place
          rw [hW.2.2.1]
          simp (disch := omega) only [b2_if0, b2_ifn, b2_if1, jn_def, nm_def, bp_some, bn_some, wiZ, wlZ, wiD, if_pos, if_neg, if_true, if_false, not_true_eq_false, not_false_eq_true, Int.toNat_natCast, e_isWheelN hX hc, e_size hX, e_stepOf, e_portionsOf, e_without, e_field, e_ns]
        have hM' : RelM c (sU σ 26 2 (ns s w b k' : Int)) := hM.congr (fun k b1 b2 => sU_ne (by omega))
        have e2 : X9_place (sU σ 26 2 (ns s w b k' : Int)) (w : Int) (b : Int) (k' : Int) = some (10 * (sp s w : Int) + (po s w : Int), sU (sU (sU σ 26 2 (ns s w b k' : Int)) 71 w (b : Int)) 72 w (k' : Int)) := by
          unfold X9_place
          rw [f_in _ (b : Int) 0 3 h2 (by decide) (by decide)]
          simp (disch := omega) only [b2_if0, b2_ifn, b2_if1, jn_def, nm_def, bp_some, bn_some, wiZ, wlZ, wiD, if_pos, if_neg, if_true, if_false, not_true_eq_false, not_false_eq_true, Int.toNat_natCast, f_isWheelN hM' hc]
          rw [sU_ne (k' := 63) (by omega), sU_ne (k' := 71) (by omega), sU_ne (k' := 72) (by omega), n2, m1, m2, f_in _ (k' : Int) 0 _ h3 (by decide) (wiN (by omega))]
          simp (disch := omega) only [b2_if0, b2_ifn, b2_if1, jn_def, nm_def, bp_some, bn_some, wiZ, wlZ, wiD, if_pos, if_neg, if_true, if_false, not_true_eq_false, not_false_eq_true, Int.toNat_natCast]
        refine ⟨_, _, _, _, e1, e2, rfl, h.win (σ1 := sU σ 26 2 (ns s w b k' : Int)) (t' := t) (a' := a) (s' := ns s w b k') (p' := p) (g' := g) (k' := k) (l' := l) (fun k hk => sU_ne hk) (fun k jj hk => ?_) ⟨?_, ?_, ?_, ?_, ?_, ?_, ?_⟩ ⟨?_, ?_, ?_, ?_, ?_, fun v hv => ?_⟩ ⟨ns_Vs hc hV.1 hw (by omega) (by omega), hV.2⟩⟩
        · by_cases z : k = 72
          · rw [z, sUnj (by omega), sU_ne (by omega)]
          · rw [sU_ne z]
            by_cases z' : k = 71
            · rw [z', sUnj (by omega)]
            · rw [sU_ne z']
        · rw [sUnj (by omega)]; exact hW.1
        · rw [sUnj (by omega)]; exact hW.2.1
        · rw [sUv]
        · rw [sUnj (by omega)]; exact hW.2.2.2.1
        · rw [sUnj (by omega)]; exact hW.2.2.2.2.1
        · rw [sUnj (by omega)]; exact hW.2.2.2.2.2.1
        · rw [sUnj (by omega)]; exact hW.2.2.2.2.2.2
        · rw [sU_ne (by omega), sU_ne (by omega), sU_ne (by omega)]; exact hm.1
        · rw [sU_ne (by omega), sU_ne (by omega), sU_ne (by omega)]; exact hm.2.1
        · rw [sU_ne (by omega), sU_ne (by omega), sU_ne (by omega)]; exact hm.2.2.1
        · rw [sU_ne (by omega), sU_ne (by omega), sU_ne (by omega)]; exact hm.2.2.2.1
        · rw [sU_ne (by omega), sU_ne (by omega), sU_ne (by omega)]; exact hm.2.2.2.2.1
        · obtain ⟨m1', m2', m3'⟩ := hm.at0 hv
          obtain ⟨o1, o2⟩ := ns_po hs (w := w) (b := b) (k := k') (by omega) (by omega) (by omega) (v := v) (by omega)
          rw [show 3 * 0 + v = v by omega, o1, o2]
          refine ⟨?_, ?_, ?_⟩
          · rw [sU_ne (by omega)]
            by_cases z : v = w
            · subst z; rw [sUv, if_pos rfl]
            · rw [sUnj z, sU_ne (by omega), if_neg z]; exact m1'
          · by_cases z : v = w
            · subst z; rw [sUv, if_pos rfl]
            · rw [sUnj z, sU_ne (by omega), sU_ne (by omega), if_neg z]; exact m2'
          · rw [sU_ne (by omega), sU_ne (by omega), sU_ne (by omega)]; exact m3'
      · refine bad ?_ ?_
        · unfold X8_place
          by_cases z : a3 < 0
          · simp (disch := omega) only [b2_if0, b2_ifn, b2_if1, jn_def, nm_def, bp_some, bn_some, wiZ, wlZ, wiD, if_pos, if_neg, if_true, if_false, not_true_eq_false, not_false_eq_true, Int.toNat_natCast, e_isWheelN hX hc]
          · simp (disch := omega) only [b2_if0, b2_ifn, b2_if1, jn_def, nm_def, bp_some, bn_some, wiZ, wlZ, wiD, if_pos, if_neg, if_true, if_false, not_true_eq_false, not_false_eq_true, Int.toNat_natCast, e_isWheelN hX hc, e_size hX]
        · unfold X9_place
          rw [f_in _ (b : Int) 0 3 h2 (by decide) (by decide)]
          simp (disch := omega) only [b2_if0, b2_ifn, b2_if1, jn_def, nm_def, bp_some, bn_some, wiZ, wlZ, wiD, if_pos, if_neg, if_true, if_false, not_true_eq_false, not_false_eq_true, Int.toNat_natCast, f_isWheelN hM hc]
          rw [n2, f_in _ a3 0 _ h3 (by decide) (wiN (by omega))]
          simp (disch := omega) only [b2_if0, b2_ifn, b2_if1, jn_def, nm_def, bp_some, bn_some, wiZ, wlZ, wiD, if_pos, if_neg, if_true, if_false, not_true_eq_false, not_false_eq_true, Int.toNat_natCast]
    · refine bad ?_ ?_
      · unfold X8_place
        by_cases z : a2 < 0
        · simp (disch := omega) only [b2_if0, b2_ifn, b2_if1, jn_def, nm_def, bp_some, bn_some, wiZ, wlZ, wiD, if_pos, if_neg, if_true, if_false, not_true_eq_false, not_false_eq_true, Int.toNat_natCast, e_isWheelN hX hc]
        · simp (disch := omega) only [b2_if0, b2_ifn, b2_if1, jn_def, nm_def, bp_some, bn_some, wiZ, wlZ, wiD, if_pos, if_neg, if_true, if_false, not_true_eq_false, not_false_eq_true, Int.toNat_natCast, e_isWheelN hX hc]
      · unfold X9_place
        rw [f_in _ a2 0 3 h2 (by decide) (by decide)]
        simp (disch := omega) only [b2_if0, b2_ifn, b2_if1, jn_def, nm_def, bp_some, bn_some, wiZ, wlZ, wiD, if_pos, if_neg, if_true, if_false, not_true_eq_false, not_false_eq_true, Int.toNat_natCast, f_isWheelN hM hc]
  · refine bad ?_ ?_
    · unfold X8_place
      rw [e_isWheel hX hc a1 h1]
      simp (disch := omega) only [b2_if0, b2_ifn, b2_if1, jn_def, nm_def, bp_some, bn_some, wiZ, wlZ, wiD, if_pos, if_neg, if_true, if_false, not_true_eq_false, not_false_eq_true, Int.toNat_natCast]
    · unfold X9_place
      rw [f_isWheel hM hc a1 h1]
      simp (disch := omega) only [b2_if0, b2_ifn, b2_if1, jn_def, nm_def, bp_some, bn_some, wiZ, wlZ, wiD, if_pos, if_neg, if_true, if_false, not_true_eq_false, not_false_eq_true, Int.toNat_natCast]
def pS (p w : Nat) : Nat := p + (1 - stp p w) * 2 ^ w
theorem pS_e : ∀ p, p < 8 → ∀ w, w < 3 → q_or ((p : Nat) : Int) (q_shl 1 ((w : Nat) : Int)) = ((pS p w : Nat) : Int) := by decide +kernel
theorem pS_lt : ∀ p, p < 8 → ∀ w, w < 3 → pS p w < 8 := by decide +kernel
theorem pS_s : ∀ p, p < 8 → ∀ w, w < 3 → ∀ v, v < 3 → stp (pS p w) v = if v = w then 1 else stp p v := by decide +kernel
theorem s_stop {c : cC} {j : Nat} {q : qT} {x : List Nat} {t a s p : Nat} {g k l : Int} {σ : sM} (h : Jn c j q x t a s p g k l σ) (a1 : Int) (h1 : wi a1 = a1) : Stq j q x (X8_stop σ a1) (fun τ => X9_stop τ a1) := by
  obtain ⟨hc, hX, hM, hW, hm, hV, -⟩ := id h
  have b1 := rng h1
  have c3 := hc.2.1
  have hp := hV.2.1
  by_cases q1 : 0 ≤ a1 ∧ a1 < (cW c : Int)
  · obtain ⟨w, rfl⟩ : ∃ i : Nat, a1 = i := ⟨a1.toNat, by omega⟩
    have hw : w < cW c := by omega
    obtain ⟨m1, m2, m3⟩ := hm.at0 hw
    have k3 := stp_lt p w
    have e1 : X8_stop σ (w : Int) = some (((1 - stp p w : Nat) : Int), sU σ 26 3 (pS p w : Int)) := by
      unfold X8_stop
      rw [hW.2.2.2.1, pS_e p hp w (by omega)]
      simp (disch := omega) only [b2_if0, b2_ifn, b2_if1, jn_def, nm_def, bp_some, bn_some, wiZ, wlZ, wiD, if_pos, if_neg, if_true, if_false, not_true_eq_false, not_false_eq_true, Int.toNat_natCast, e_isWheelN hX hc, e_has]
      by_cases z : stp p w = 0
      · simp (disch := omega) only [b2_if0, b2_ifn, b2_if1, jn_def, nm_def, bp_some, bn_some, wiZ, wlZ, wiD, if_pos, if_neg, if_true, if_false, not_true_eq_false, not_false_eq_true, Int.toNat_natCast]; rw [z]; rfl
      · simp (disch := omega) only [b2_if0, b2_ifn, b2_if1, jn_def, nm_def, bp_some, bn_some, wiZ, wlZ, wiD, if_pos, if_neg, if_true, if_false, not_true_eq_false, not_false_eq_true, Int.toNat_natCast]; rw [show stp p w = 1 by omega]; rfl
    have hM' : RelM c (sU σ 26 3 (pS p w : Int)) := hM.congr (fun k b1 b2 => sU_ne (by omega))
    have e2 : X9_stop (sU σ 26 3 (pS p w : Int)) (w : Int) = some (((1 - stp p w : Nat) : Int), sU (sU σ 26 3 (pS p w : Int)) 73 w 1) := by
      unfold X9_stop
      rw [show q_z 1 = 1 by decide]
      simp (disch := omega) only [b2_if0, b2_ifn, b2_if1, jn_def, nm_def, bp_some, bn_some, wiZ, wlZ, wiD, if_pos, if_neg, if_true, if_false, not_true_eq_false, not_false_eq_true, Int.toNat_natCast, f_isWheelN hM' hc]
      rw [sU_ne (k' := 73) (by omega), m3]
      by_cases z : stp p w = 0
      · simp (disch := omega) only [b2_if0, b2_ifn, b2_if1, jn_def, nm_def, bp_some, bn_some, wiZ, wlZ, wiD, if_pos, if_neg, if_true, if_false, not_true_eq_false, not_false_eq_true, Int.toNat_natCast]; rw [z]; rfl
      · simp (disch := omega) only [b2_if0, b2_ifn, b2_if1, jn_def, nm_def, bp_some, bn_some, wiZ, wlZ, wiD, if_pos, if_neg, if_true, if_false, not_true_eq_false, not_false_eq_true, Int.toNat_natCast]; rw [show stp p w = 1 by omega]; rfl
    refine ⟨_, _, _, _, e1, e2, rfl, h.win (σ1 := sU σ 26 3 (pS p w : Int)) (t' := t) (a' := a) (s' := s) (p' := pS p w) (g' := g) (k' := k) (l' := l) (fun k hk => sU_ne hk) (fun k jj hk => ?_) ⟨?_, ?_, ?_, ?_, ?_, ?_, ?_⟩ ⟨?_, ?_, ?_, ?_, ?_, fun v hv => ?_⟩ ⟨hV.1, pS_lt p hp w (by omega), hV.2.2⟩⟩
    · by_cases z : k = 73
      · rw [z, sUnj (by omega)]
      · rw [sU_ne z]
    · rw [sUnj (by omega)]; exact hW.1
    · rw [sUnj (by omega)]; exact hW.2.1
    · rw [sUnj (by omega)]; exact hW.2.2.1
    · rw [sUv]
    · rw [sUnj (by omega)]; exact hW.2.2.2.2.1
    · rw [sUnj (by omega)]; exact hW.2.2.2.2.2.1
    · rw [sUnj (by omega)]; exact hW.2.2.2.2.2.2
    · rw [sU_ne (by omega), sU_ne (by omega)]; exact hm.1
    · rw [sU_ne (by omega), sU_ne (by omega)]; exact hm.2.1
    · rw [sU_ne (by omega), sU_ne (by omega)]; exact hm.2.2.1
    · rw [sU_ne (by omega), sU_ne (by omega)]; exact hm.2.2.2.1
    · rw [sU_ne (by omega), sU_ne (by omega)]; exact hm.2.2.2.2.1
    · obtain ⟨m1', m2', m3'⟩ := hm.at0 hv
      rw [show 3 * 0 + v = v by omega, pS_s p hp w (by omega) v (by omega)]
      refine ⟨?_, ?_, ?_⟩
      · rw [sU_ne (by omega), sU_ne (by omega)]; exact m1'
      · rw [sU_ne (by omega), sU_ne (by omega)]; exact m2'
      · by_cases z : v = w
        · subst z; rw [sUv, if_pos rfl]; rfl
        · rw [sUnj z, sU_ne (by omega), if_neg z]; exact m3'
  · refine ⟨_, _, _, _, (?_ : X8_stop σ a1 = some (-1, σ)), (?_ : X9_stop σ a1 = some (-1, σ)), rfl, h.inv⟩
    · unfold X8_stop
      rw [e_isWheel hX hc a1 h1]
      simp (disch := omega) only [b2_if0, b2_ifn, b2_if1, jn_def, nm_def, bp_some, bn_some, wiZ, wlZ, wiD, if_pos, if_neg, if_true, if_false, not_true_eq_false, not_false_eq_true, Int.toNat_natCast]
    · unfold X9_stop
      rw [f_isWheel hM hc a1 h1]
      simp (disch := omega) only [b2_if0, b2_ifn, b2_if1, jn_def, nm_def, bp_some, bn_some, wiZ, wlZ, wiD, if_pos, if_neg, if_true, if_false, not_true_eq_false, not_false_eq_true, Int.toNat_natCast]
theorem f_now {c : cC} {t a s p F : Nat} {g k l : Int} {σ : sM} (hc : OkC c) (hM : RelM c σ) (hm : WM c 0 t a s p g k l σ) (hV : VW c t a s p) (hF : 10 ≤ F) (a1 : Int) (h1 : wi a1 = a1) : X9_now F σ a1 = some (if a1 = 0 then (t : Int) else if a1 = 1 then (a : Int) else if a1 = 2 then g else if a1 = 3 then k else if a1 = 4 then ((po s 0 + po s 1 + po s 2 : Nat) : Int) else if a1 = 5 then b2 (t = cK c) else if a1 = 6 then (nop c s : Int) else -1) := by
  have c3 := hc.2.1
  have c5 := hc.2.2.1
  have b1 := rng h1
  have ht := hV.2.2.1
  have ha : a < 2 := by have := hV.2.2.2; omega
  have hn := nop_le c s
  unfold X9_now
  refine lp_run (fun i => (((pT s i : Nat) : Int), ((nopTo c s i : Nat) : Int), ((i : Nat) : Int))) (cW c) (fun w hw K => ?_) (fun K => ?_) (by omega)
  · obtain ⟨m1, m2, m3⟩ := hm.at0 hw
    obtain ⟨n1, n2⟩ := hM.2.2.2.2.1 w hw
    have k2 := po_lt s w
    have k4 := cZ_le hc w
    simp only [jn_def]
    rw [hM.2.1]
    simp (disch := omega) only [b2_if0, b2_ifn, b2_if1, jn_def, nm_def, bp_some, bn_some, wiZ, wlZ, wiD, if_pos, if_neg, if_true, if_false, not_true_eq_false, not_false_eq_true, Int.toNat_natCast]
    rw [m2, n2]
    have e1 : ((w + 1 : Nat) : Int) = (w : Int) + 1 := by omega
    have e2 : ((nopTo c s (w + 1) : Nat) : Int) = (nopTo c s w : Int) + (opn c s w : Int) := by show ((nopTo c s w + opn c s w : Nat) : Int) = _; omega
    have e3 : ((pT s (w + 1) : Nat) : Int) = (pT s w : Int) + (po s w : Int) := by show ((pT s w + po s w : Nat) : Int) = _; omega
    rw [e1, e2, e3]
    unfold opn
    by_cases z : po s w = 0
    · simp (disch := omega) only [b2_if0, b2_ifn, b2_if1, jn_def, nm_def, bp_some, bn_some, wiZ, wlZ, wiD, if_pos, if_neg, if_true, if_false, not_true_eq_false, not_false_eq_true, Int.toNat_natCast]; rfl
    · by_cases z' : po s w < cZ c w
      · simp (disch := omega) only [b2_if0, b2_ifn, b2_if1, jn_def, nm_def, bp_some, bn_some, wiZ, wlZ, wiD, if_pos, if_neg, if_true, if_false, not_true_eq_false, not_false_eq_true, Int.toNat_natCast]; rfl
      · simp (disch := omega) only [b2_if0, b2_ifn, b2_if1, jn_def, nm_def, bp_some, bn_some, wiZ, wlZ, wiD, if_pos, if_neg, if_true, if_false, not_true_eq_false, not_false_eq_true, Int.toNat_natCast]; rfl
  · simp only []
    rw [hM.2.1, if_pos (by omega), pT_Vs hc hV.1, nopTo_nop hc, hm.1, hm.2.1, hm.2.2.1, hm.2.2.2.1, h1]
    unfold X9_isOver
    rw [hm.1, hM.2.2.1]
    by_cases z0 : a1 = 0
    · simp (disch := omega) only [b2_if0, b2_ifn, b2_if1, jn_def, nm_def, bp_some, bn_some, wiZ, wlZ, wiD, if_pos, if_neg, if_true, if_false, not_true_eq_false, not_false_eq_true, Int.toNat_natCast]
    by_cases z1 : a1 = 1
    · rcases (show a = 0 ∨ a = 1 by omega) with z | z
      · subst z; simp (disch := omega) only [b2_if0, b2_ifn, b2_if1, jn_def, nm_def, bp_some, bn_some, wiZ, wlZ, wiD, if_pos, if_neg, if_true, if_false, not_true_eq_false, not_false_eq_true, Int.toNat_natCast]; rfl
      · subst z; simp (disch := omega) only [b2_if0, b2_ifn, b2_if1, jn_def, nm_def, bp_some, bn_some, wiZ, wlZ, wiD, if_pos, if_neg, if_true, if_false, not_true_eq_false, not_false_eq_true, Int.toNat_natCast]; rfl
    by_cases z2 : a1 = 2
    · simp (disch := omega) only [b2_if0, b2_ifn, b2_if1, jn_def, nm_def, bp_some, bn_some, wiZ, wlZ, wiD, if_pos, if_neg, if_true, if_false, not_true_eq_false, not_false_eq_true, Int.toNat_natCast]
    by_cases z3 : a1 = 3
    · simp (disch := omega) only [b2_if0, b2_ifn, b2_if1, jn_def, nm_def, bp_some, bn_some, wiZ, wlZ, wiD, if_pos, if_neg, if_true, if_false, not_true_eq_false, not_false_eq_true, Int.toNat_natCast]
    by_cases z4 : a1 = 4
    · simp (disch := omega) only [b2_if0, b2_ifn, b2_if1, jn_def, nm_def, bp_some, bn_some, wiZ, wlZ, wiD, if_pos, if_neg, if_true, if_false, not_true_eq_false, not_false_eq_true, Int.toNat_natCast]
    by_cases z5 : a1 = 5
    · by_cases z : t = cK c
      · rw [b2_t z]; simp (disch := omega) only [b2_if0, b2_ifn, b2_if1, jn_def, nm_def, bp_some, bn_some, wiZ, wlZ, wiD, if_pos, if_neg, if_true, if_false, not_true_eq_false, not_false_eq_true, Int.toNat_natCast]
      · rw [b2_f z]; simp (disch := omega) only [b2_if0, b2_ifn, b2_if1, jn_def, nm_def, bp_some, bn_some, wiZ, wlZ, wiD, if_pos, if_neg, if_true, if_false, not_true_eq_false, not_false_eq_true, Int.toNat_natCast]
    by_cases z6 : a1 = 6
    · simp (disch := omega) only [b2_if0, b2_ifn, b2_if1, jn_def, nm_def, bp_some, bn_some, wiZ, wlZ, wiD, if_pos, if_neg, if_true, if_false, not_true_eq_false, not_false_eq_true, Int.toNat_natCast]
    simp (disch := omega) only [b2_if0, b2_ifn, b2_if1, jn_def, nm_def, bp_some, bn_some, wiZ, wlZ, wiD, if_pos, if_neg, if_true, if_false, not_true_eq_false, not_false_eq_true, Int.toNat_natCast]
theorem s_now {c : cC} {j : Nat} {q : qT} {x : List Nat} {t a s p F : Nat} {g k l : Int} {σ : sM} (h : Jn c j q x t a s p g k l σ) (hF : 10 ≤ F) (a1 : Int) (h1 : wi a1 = a1) : ∃ r, X8_now F σ a1 = some r ∧ X9_now F σ a1 = some r := by
  obtain ⟨hc, hX, hM, hW, hm, hV, -⟩ := id h
  refine ⟨_, ?_, f_now hc hM hm hV hF a1 h1⟩
  have b1 := rng h1
  have c5 := hc.2.2.1
  have ht := hV.2.2.1
  have hs := hV.1.lt hc
  have ha : a < 2 := by have := hV.2.2.2; omega
  unfold X8_now X8_isOver
  rw [hW.1, hW.2.1, hW.2.2.1, hW.2.2.2.2.1, hW.2.2.2.2.2.1, hX.2.2.1, h1, e_allPortions σ hs, e_countOpen hX hc hF hs]
  by_cases z0 : a1 = 0
  · simp (disch := omega) only [b2_if0, b2_ifn, b2_if1, jn_def, nm_def, bp_some, bn_some, wiZ, wlZ, wiD, if_pos, if_neg, if_true, if_false, not_true_eq_false, not_false_eq_true, Int.toNat_natCast]
  by_cases z1 : a1 = 1
  · rcases (show a = 0 ∨ a = 1 by omega) with z | z
    · subst z; simp (disch := omega) only [b2_if0, b2_ifn, b2_if1, jn_def, nm_def, bp_some, bn_some, wiZ, wlZ, wiD, if_pos, if_neg, if_true, if_false, not_true_eq_false, not_false_eq_true, Int.toNat_natCast]; rfl
    · subst z; simp (disch := omega) only [b2_if0, b2_ifn, b2_if1, jn_def, nm_def, bp_some, bn_some, wiZ, wlZ, wiD, if_pos, if_neg, if_true, if_false, not_true_eq_false, not_false_eq_true, Int.toNat_natCast]; rfl
  by_cases z2 : a1 = 2
  · simp (disch := omega) only [b2_if0, b2_ifn, b2_if1, jn_def, nm_def, bp_some, bn_some, wiZ, wlZ, wiD, if_pos, if_neg, if_true, if_false, not_true_eq_false, not_false_eq_true, Int.toNat_natCast]
  by_cases z3 : a1 = 3
  · simp (disch := omega) only [b2_if0, b2_ifn, b2_if1, jn_def, nm_def, bp_some, bn_some, wiZ, wlZ, wiD, if_pos, if_neg, if_true, if_false, not_true_eq_false, not_false_eq_true, Int.toNat_natCast]
  by_cases z4 : a1 = 4
  · simp (disch := omega) only [b2_if0, b2_ifn, b2_if1, jn_def, nm_def, bp_some, bn_some, wiZ, wlZ, wiD, if_pos, if_neg, if_true, if_false, not_true_eq_false, not_false_eq_true, Int.toNat_natCast]
  by_cases z5 : a1 = 5
  · by_cases z : t = cK c
    · rw [b2_t z]; simp (disch := omega) only [b2_if0, b2_ifn, b2_if1, jn_def, nm_def, bp_some, bn_some, wiZ, wlZ, wiD, if_pos, if_neg, if_true, if_false, not_true_eq_false, not_false_eq_true, Int.toNat_natCast]
    · rw [b2_f z]; simp (disch := omega) only [b2_if0, b2_ifn, b2_if1, jn_def, nm_def, bp_some, bn_some, wiZ, wlZ, wiD, if_pos, if_neg, if_true, if_false, not_true_eq_false, not_false_eq_true, Int.toNat_natCast]
  by_cases z6 : a1 = 6
  · simp (disch := omega) only [b2_if0, b2_ifn, b2_if1, jn_def, nm_def, bp_some, bn_some, wiZ, wlZ, wiD, if_pos, if_neg, if_true, if_false, not_true_eq_false, not_false_eq_true, Int.toNat_natCast]
  simp (disch := omega) only [b2_if0, b2_ifn, b2_if1, jn_def, nm_def, bp_some, bn_some, wiZ, wlZ, wiD, if_pos, if_neg, if_true, if_false, not_true_eq_false, not_false_eq_true, Int.toNat_natCast]
theorem s_lot {c : cC} {j : Nat} {q : qT} {x : List Nat} {t a s p : Nat} {g k l : Int} {σ : sM} (h : Jn c j q x t a s p g k l σ) (a1 : Int) : Stq j q x (X8_lot σ a1) (fun τ => X9_lot τ a1) := by
  obtain ⟨hc, hX, hM, hW, hm, hV, -⟩ := id h
  refine ⟨_, _, _, _, rfl, rfl, ?_, h.win (σ1 := sU σ 26 6 a1) (t' := t) (a' := a) (s' := s) (p' := p) (g' := g) (k' := k) (l' := a1) (fun k hk => sU_ne hk) (fun k jj hk => ?_) ⟨?_, ?_, ?_, ?_, ?_, ?_, ?_⟩ ⟨?_, ?_, ?_, ?_, ?_, fun v hv => ?_⟩ hV⟩
  · rw [sU_ne (by omega), hW.2.2.2.2.2.2, hm.2.2.2.2.1]
  · by_cases z : k = 70
    · rw [z, sUnj (by omega)]
    · rw [sU_ne z]
  · rw [sUnj (by omega)]; exact hW.1
  · rw [sUnj (by omega)]; exact hW.2.1
  · rw [sUnj (by omega)]; exact hW.2.2.1
  · rw [sUnj (by omega)]; exact hW.2.2.2.1
  · rw [sUnj (by omega)]; exact hW.2.2.2.2.1
  · rw [sUnj (by omega)]; exact hW.2.2.2.2.2.1
  · rw [sUv]
  · rw [sU_ne (by omega), sU_ne (by omega)]; exact hm.1
  · rw [sU_ne (by omega), sU_ne (by omega)]; exact hm.2.1
  · rw [sU_ne (by omega), sU_ne (by omega)]; exact hm.2.2.1
  · rw [sU_ne (by omega), sU_ne (by omega)]; exact hm.2.2.2.1
  · rw [sUv]
  · rw [sU_ne (by omega), sU_ne (by omega), sU_ne (by omega), sU_ne (by omega), sU_ne (by omega), sU_ne (by omega)]; exact hm.2.2.2.2.2 v hv
