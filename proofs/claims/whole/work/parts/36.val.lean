theorem po0 (s : Nat) : po s 0 = s % 4 := by unfold po; omega
theorem po1 (s : Nat) : po s 1 = s / 16 % 4 := rfl
theorem po2 (s : Nat) : po s 2 = s / 256 % 4 := rfl
theorem sp0 (s : Nat) : sp s 0 = s / 4 % 4 := by unfold sp; omega
theorem sp1 (s : Nat) : sp s 1 = s / 64 % 4 := by show s / 16 / 4 % 4 = _; omega
theorem sp2 (s : Nat) : sp s 2 = s / 1024 % 4 := by show s / 256 / 4 % 4 = _; omega
def shr (g x : Nat) : Nat := if g = 1 then x else 10 - x
def wt (a b d y : Nat) : Nat := shr (y % 2) a * shr (y / 2 % 2) b * shr (y / 4 % 2) d
def to_ (s y : Nat) : Nat := s + 4 * (y % 2) + 64 * (y / 2 % 2) + 1024 * (y / 4 % 2)
def ms (f : Nat → Nat) (a b d s : Nat) : Nat → Nat
  | 0 => 0
  | y + 1 => ms f a b d s y + wt a b d y * f (to_ s y)
def mn (c : cC) (p t : Nat) (f : Nat → Nat) (s : Nat) : Nat := ms f (tn c s p 0 t) (tn c s p 1 t) (tn c s p 2 t) s 8 / 1000
def wts (a b d : Nat) : Nat → Nat
  | 0 => 0
  | y + 1 => wts a b d y + wt a b d y
theorem wts8 {a b d : Nat} (ha : a ≤ 10) (hb : b ≤ 10) (hd : d ≤ 10) : wts a b d 8 = 1000 := by
  have : ∀ a, a < 11 → ∀ b, b < 11 → ∀ d, d < 11 → wts a b d 8 = 1000 := by decide +kernel
  exact this a (by omega) b (by omega) d (by omega)
theorem shr_le {g x : Nat} (h : x ≤ 10) : shr g x ≤ 10 := by unfold shr; split <;> omega
theorem wt_le {a b d y : Nat} (ha : a ≤ 10) (hb : b ≤ 10) (hd : d ≤ 10) : wt a b d y ≤ 1000 := by
  unfold wt
  have h1 := shr_le (g := y % 2) ha
  have h2 := shr_le (g := y / 2 % 2) hb
  have h3 := shr_le (g := y / 4 % 2) hd
  exact Nat.mul_le_mul (Nat.mul_le_mul h1 h2) h3
theorem ms_le {f : Nat → Nat} {B : Nat} (h : ∀ s, f s ≤ B) (a b d s n : Nat) : ms f a b d s n ≤ wts a b d n * B := by
  induction n with
  | zero => exact Nat.zero_le _
  | succ n ih =>
    show ms f a b d s n + wt a b d n * f (to_ s n) ≤ (wts a b d n + wt a b d n) * B
    rw [Nat.add_mul]
    exact Nat.add_le_add ih (Nat.mul_le_mul_left _ (h _))
theorem mn_le {c : cC} {p t : Nat} {f : Nat → Nat} {B : Nat} (h : ∀ s, f s ≤ B) (s : Nat) : mn c p t f s ≤ B := by
  unfold mn
  have := ms_le h (tn c s p 0 t) (tn c s p 1 t) (tn c s p 2 t) s 8
  rw [wts8 (tn_le _ _ _ _ _) (tn_le _ _ _ _ _) (tn_le _ _ _ _ _)] at this
  omega
/-- bits of a way only where a wheel may go on -/
def okY (s y : Nat) : Prop := (y % 2 = 1 → sp s 0 < 3) ∧ (y / 2 % 2 = 1 → sp s 1 < 3) ∧ (y / 4 % 2 = 1 → sp s 2 < 3)
def bt (y w : Nat) : Nat := y / 2 ^ w % 2
theorem bt0 (y : Nat) : bt y 0 = y % 2 := by unfold bt; omega
theorem bt1 (y : Nat) : bt y 1 = y / 2 % 2 := rfl
theorem bt2 (y : Nat) : bt y 2 = y / 4 % 2 := rfl
def en (a b d e f g : Nat) : Nat := a + 4 * b + 16 * d + 64 * e + 256 * f + 1024 * g
theorem en_po {a b d e f g : Nat} (ha : a < 4) (hb : b < 4) (hd : d < 4) (he : e < 4) (hf : f < 4) (hg : g < 4) : po (en a b d e f g) 0 = a ∧ sp (en a b d e f g) 0 = b ∧ po (en a b d e f g) 1 = d ∧ sp (en a b d e f g) 1 = e ∧ po (en a b d e f g) 2 = f ∧ sp (en a b d e f g) 2 = g := by
  rw [po0, sp0, po1, sp1, po2, sp2]
  unfold en
  refine ⟨by omega, by omega, by omega, by omega, by omega, by omega⟩
theorem dig {s : Nat} (hs : s < 4096) : s = en (po s 0) (sp s 0) (po s 1) (sp s 1) (po s 2) (sp s 2) := by
  rw [po0, sp0, po1, sp1, po2, sp2]
  unfold en
  omega
theorem en_lt {a b d e f g : Nat} (ha : a < 4) (hb : b < 4) (hd : d < 4) (he : e < 4) (hf : f < 4) (hg : g < 4) : en a b d e f g < 4096 := by
  unfold en; omega
theorem to_en {s y : Nat} (hs : s < 4096) : to_ s y = en (po s 0) (sp s 0 + y % 2) (po s 1) (sp s 1 + y / 2 % 2) (po s 2) (sp s 2 + y / 4 % 2) := by
  have h := dig hs
  unfold to_ en at *
  omega
theorem to_po {s y : Nat} (hs : s < 4096) (h : okY s y) {w : Nat} (hw : w < 3) : po (to_ s y) w = po s w ∧ sp (to_ s y) w = sp s w + bt y w := by
  obtain ⟨h1, h2, h3⟩ := h
  have l0 := sp_lt s 0
  have l1 := sp_lt s 1
  have l2 := sp_lt s 2
  rw [to_en hs]
  obtain ⟨e1, e2, e3, e4, e5, e6⟩ := en_po (a := po s 0) (b := sp s 0 + y % 2) (d := po s 1) (e := sp s 1 + y / 2 % 2) (f := po s 2) (g := sp s 2 + y / 4 % 2) (po_lt _ _) (by omega) (po_lt _ _) (by omega) (po_lt _ _) (by omega)
  rcases (show w = 0 ∨ w = 1 ∨ w = 2 by omega) with rfl | rfl | rfl
  · rw [bt0]; exact ⟨e1, e2⟩
  · exact ⟨e3, e4⟩
  · exact ⟨e5, e6⟩
theorem to_lt {s y : Nat} (hs : s < 4096) (h : okY s y) : to_ s y < 4096 := by
  obtain ⟨h1, h2, h3⟩ := h
  have l0 := sp_lt s 0
  have l1 := sp_lt s 1
  have l2 := sp_lt s 2
  rw [to_en hs]
  exact en_lt (po_lt _ _) (by omega) (po_lt _ _) (by omega) (po_lt _ _) (by omega)
theorem wt_ok {c : cC} {s p t y : Nat} (h : wt (tn c s p 0 t) (tn c s p 1 t) (tn c s p 2 t) y ≠ 0) : ∀ w, w < 3 → bt y w = 1 → gO s p w := by
  intro w hw hb
  by_cases q : gO s p w
  · exact q
  · exfalso
    apply h
    have ht : tn c s p w t = 0 := by unfold tn; rw [if_neg q]
    unfold wt
    rcases (show w = 0 ∨ w = 1 ∨ w = 2 by omega) with rfl | rfl | rfl
    · rw [bt0] at hb; rw [hb, ht]; show 0 * _ * _ = 0; rw [Nat.zero_mul, Nat.zero_mul]
    · rw [bt1] at hb; rw [hb, ht]; show _ * 0 * _ = 0; rw [Nat.mul_zero, Nat.zero_mul]
    · rw [bt2] at hb; rw [hb, ht]; show _ * 0 = 0; rw [Nat.mul_zero]
theorem wt_okY {c : cC} {s p t y : Nat} (h : wt (tn c s p 0 t) (tn c s p 1 t) (tn c s p 2 t) y ≠ 0) : okY s y := by
  have h1 := wt_ok h
  refine ⟨fun hb => (h1 0 (by omega) ?_).2.2, fun hb => (h1 1 (by omega) ?_).2.2, fun hb => (h1 2 (by omega) ?_).2.2⟩
  · rw [bt0]; exact hb
  · exact hb
  · exact hb
theorem to_Vs {c : cC} (hc : OkC c) {s p t y : Nat} (hv : Vs c s) (h : wt (tn c s p 0 t) (tn c s p 1 t) (tn c s p 2 t) y ≠ 0) : Vs c (to_ s y) := by
  have hs := hv.lt hc
  have hy := wt_okY h
  have h1 := wt_ok h
  refine ⟨?_, fun w hw => by rw [(to_po hs hy hw).1]; exact hv.2 w hw⟩
  have hb : ∀ w, w < 3 → cW c ≤ w → bt y w = 0 := by
    intro w hw hcw
    have h2 : bt y w < 2 := Nat.mod_lt _ (by decide)
    by_cases q : bt y w = 1
    · have := (h1 w hw q).1
      rw [po_hi hc hv hcw] at this
      omega
    · omega
  have b0 := hb 0 (by omega)
  have b1 := hb 1 (by omega)
  have b2 := hb 2 (by omega)
  rw [bt0] at b0
  rw [bt1] at b1
  rw [bt2] at b2
  obtain ⟨k1, k2, k3⟩ := hy
  rw [sp0] at k1
  rw [sp1] at k2
  rw [sp2] at k3
  have h3 := hv.1
  have h4 := hc.2.1
  rcases (show cW c = 0 ∨ cW c = 1 ∨ cW c = 2 ∨ cW c = 3 by omega) with q | q | q | q
  · rw [q] at h3 ⊢; have := b0 (by omega); have := b1 (by omega); have := b2 (by omega); unfold to_; omega
  · rw [q] at h3 ⊢; have := b1 (by omega); have := b2 (by omega); unfold to_; omega
  · rw [q] at h3 ⊢; have := b2 (by omega); unfold to_; omega
  · rw [q] at h3 ⊢; unfold to_; omega
theorem bh_E {s k : Nat} (hs : s < 4096) (hk : k < 3) (h : 0 < po s k) {w : Nat} (hw : w < 3) : po (bh s k) w = (if w = k then po s w - 1 else po s w) ∧ sp (bh s k) w = sp s w := by
  have hd := dig hs
  have l0 := po_lt s 0
  have l1 := po_lt s 1
  have l2 := po_lt s 2
  unfold bh
  rw [if_neg (by omega), if_pos hk]
  rcases (show k = 0 ∨ k = 1 ∨ k = 2 by omega) with rfl | rfl | rfl
  · obtain ⟨e1, e2, e3, e4, e5, e6⟩ := en_po (a := po s 0 - 1) (d := po s 1) (f := po s 2) (by omega) (sp_lt s 0) l1 (sp_lt s 1) l2 (sp_lt s 2)
    rw [show s - 16 ^ 0 = en (po s 0 - 1) (sp s 0) (po s 1) (sp s 1) (po s 2) (sp s 2) by unfold en at *; omega]
    rcases (show w = 0 ∨ w = 1 ∨ w = 2 by omega) with rfl | rfl | rfl
    · rw [if_pos rfl]; exact ⟨e1, e2⟩
    · rw [if_neg (by decide)]; exact ⟨e3, e4⟩
    · rw [if_neg (by decide)]; exact ⟨e5, e6⟩
  · obtain ⟨e1, e2, e3, e4, e5, e6⟩ := en_po (a := po s 0) (d := po s 1 - 1) (f := po s 2) l0 (sp_lt s 0) (by omega) (sp_lt s 1) l2 (sp_lt s 2)
    rw [show s - 16 ^ 1 = en (po s 0) (sp s 0) (po s 1 - 1) (sp s 1) (po s 2) (sp s 2) by unfold en at *; omega]
    rcases (show w = 0 ∨ w = 1 ∨ w = 2 by omega) with rfl | rfl | rfl
    · rw [if_neg (by decide)]; exact ⟨e1, e2⟩
    · rw [if_pos rfl]; exact ⟨e3, e4⟩
    · rw [if_neg (by decide)]; exact ⟨e5, e6⟩
  · obtain ⟨e1, e2, e3, e4, e5, e6⟩ := en_po (a := po s 0) (d := po s 1) (f := po s 2 - 1) l0 (sp_lt s 0) l1 (sp_lt s 1) (by omega) (sp_lt s 2)
    rw [show s - 16 ^ 2 = en (po s 0) (sp s 0) (po s 1) (sp s 1) (po s 2 - 1) (sp s 2) by unfold en at *; omega]
    rcases (show w = 0 ∨ w = 1 ∨ w = 2 by omega) with rfl | rfl | rfl
    · rw [if_neg (by decide)]; exact ⟨e1, e2⟩
    · rw [if_neg (by decide)]; exact ⟨e3, e4⟩
    · rw [if_pos rfl]; exact ⟨e5, e6⟩
theorem bh_S {s k : Nat} (hs : s < 4096) (hk : 3 ≤ k) (hk2 : k < 6) {w : Nat} (hw : w < 3) : po (bh s k) w = (if w = k - 3 then 0 else po s w) ∧ sp (bh s k) w = sp s w := by
  have hd := dig hs
  have l0 := po_lt s 0
  have l1 := po_lt s 1
  have l2 := po_lt s 2
  unfold bh
  rw [if_neg (by omega), if_neg (by omega)]
  rcases (show k = 3 ∨ k = 4 ∨ k = 5 by omega) with rfl | rfl | rfl
  · obtain ⟨e1, e2, e3, e4, e5, e6⟩ := en_po (a := 0) (d := po s 1) (f := po s 2) (by omega) (sp_lt s 0) l1 (sp_lt s 1) l2 (sp_lt s 2)
    rw [show s - po s (3 - 3) * 16 ^ (3 - 3) = en 0 (sp s 0) (po s 1) (sp s 1) (po s 2) (sp s 2) by show s - po s 0 * 1 = _; unfold en at *; omega]
    rcases (show w = 0 ∨ w = 1 ∨ w = 2 by omega) with rfl | rfl | rfl
    · rw [if_pos rfl]; exact ⟨e1, e2⟩
    · rw [if_neg (by decide)]; exact ⟨e3, e4⟩
    · rw [if_neg (by decide)]; exact ⟨e5, e6⟩
  · obtain ⟨e1, e2, e3, e4, e5, e6⟩ := en_po (a := po s 0) (d := 0) (f := po s 2) l0 (sp_lt s 0) (by omega) (sp_lt s 1) l2 (sp_lt s 2)
    rw [show s - po s (4 - 3) * 16 ^ (4 - 3) = en (po s 0) (sp s 0) 0 (sp s 1) (po s 2) (sp s 2) by show s - po s 1 * 16 = _; unfold en at *; omega]
    rcases (show w = 0 ∨ w = 1 ∨ w = 2 by omega) with rfl | rfl | rfl
    · rw [if_neg (by decide)]; exact ⟨e1, e2⟩
    · rw [if_pos rfl]; exact ⟨e3, e4⟩
    · rw [if_neg (by decide)]; exact ⟨e5, e6⟩
  · obtain ⟨e1, e2, e3, e4, e5, e6⟩ := en_po (a := po s 0) (d := po s 1) (f := 0) l0 (sp_lt s 0) l1 (sp_lt s 1) (by omega) (sp_lt s 2)
    rw [show s - po s (5 - 3) * 16 ^ (5 - 3) = en (po s 0) (sp s 0) (po s 1) (sp s 1) 0 (sp s 2) by show s - po s 2 * 256 = _; unfold en at *; omega]
    rcases (show w = 0 ∨ w = 1 ∨ w = 2 by omega) with rfl | rfl | rfl
    · rw [if_neg (by decide)]; exact ⟨e1, e2⟩
    · rw [if_neg (by decide)]; exact ⟨e3, e4⟩
    · rw [if_pos rfl]; exact ⟨e5, e6⟩
theorem bh_le (s k : Nat) : bh s k ≤ s := by
  unfold bh
  split
  · exact Nat.le_refl _
  · split
    · exact Nat.sub_le _ _
    · exact Nat.sub_le _ _
theorem mD_k {c : cC} {s k : Nat} (h : mD c s k) : k < 7 := by
  rcases h with h | h | h
  · omega
  · omega
  · omega
theorem bh_Vs {c : cC} (hc : OkC c) {s k : Nat} (hv : Vs c s) (hd : mD c s k) : Vs c (bh s k) := by
  have hs := hv.lt hc
  refine ⟨Nat.lt_of_le_of_lt (bh_le s k) hv.1, fun w hw => ?_⟩
  have h1 := hv.2 w hw
  rcases hd with h | h | h
  · subst h; exact h1
  · have := (bh_E hs h.1 h.2.2.1 hw).1
    rw [this]; split <;> omega
  · have := (bh_S hs h.1 h.2.1 hw).1
    rw [this]; split <;> omega
/-- the same for values: portions alike, steps alike where there are portions -/
def Sm (s s' : Nat) : Prop := ∀ w, w < 3 → po s w = po s' w ∧ (0 < po s w → sp s w = sp s' w)
theorem Sm_gO {s s' p w : Nat} (h : Sm s s') (hw : w < 3) : gO s p w ↔ gO s' p w := by
  obtain ⟨h1, h2⟩ := h w hw
  constructor
  · rintro ⟨a, b, d⟩; exact ⟨by omega, b, by rw [← h2 a]; exact d⟩
  · rintro ⟨a, b, d⟩; exact ⟨by omega, b, by rw [h2 (by omega)]; exact d⟩
theorem Sm_tn {c : cC} {s s' p w t : Nat} (h : Sm s s') (hw : w < 3) : tn c s p w t = tn c s' p w t := by
  unfold tn
  by_cases q : gO s p w
  · rw [if_pos q, if_pos ((Sm_gO h hw).1 q), (h w hw).1, (h w hw).2 q.1]
  · rw [if_neg q, if_neg (fun x => q ((Sm_gO h hw).2 x))]
theorem Sm_opn {c : cC} {s s' w : Nat} (h : Sm s s') (hw : w < 3) : opn c s w = opn c s' w := by
  unfold opn; rw [(h w hw).1]
theorem Sm_nop {c : cC} {s s' : Nat} (h : Sm s s') : nop c s = nop c s' := by
  unfold nop; rw [Sm_opn h (by omega), Sm_opn h (w := 1) (by omega), Sm_opn h (w := 2) (by omega)]
theorem Sm_mE {c : cC} (hc : OkC c) {s s' w : Nat} (h : Sm s s') : mE c s w ↔ mE c s' w := by
  have h4 := hc.2.1
  by_cases hw : w < 3
  · unfold mE; rw [(h w hw).1, Sm_nop h]
  · constructor
    · intro h1; have := h1.1; omega
    · intro h1; have := h1.1; omega
theorem Sm_mS {c : cC} (hc : OkC c) {s s' w : Nat} (h : Sm s s') : mS c s w ↔ mS c s' w := by
  have h4 := hc.2.1
  by_cases hw : w < cW c
  · have h5 := (hc.2.2.2.2.1 w hw).2.1
    obtain ⟨h1, h2⟩ := h w (by omega)
    constructor
    · rintro ⟨a, b, d⟩; exact ⟨a, by omega, by rw [← h2 (by omega)]; exact d⟩
    · rintro ⟨a, b, d⟩; exact ⟨a, by omega, by rw [h2 (by omega)]; exact d⟩
  · constructor
    · intro h1; exact absurd h1.1 hw
    · intro h1; exact absurd h1.1 hw
theorem Sm_mD {c : cC} (hc : OkC c) {s s' k : Nat} (h : Sm s s') : mD c s k ↔ mD c s' k := by
  show (k = 6 ∨ (k < 3 ∧ mE c s k) ∨ (3 ≤ k ∧ k < 6 ∧ mS c s (k - 3))) ↔ (k = 6 ∨ (k < 3 ∧ mE c s' k) ∨ (3 ≤ k ∧ k < 6 ∧ mS c s' (k - 3)))
  have h1 := Sm_mE hc h (w := k)
  have h2 := Sm_mS hc h (w := k - 3)
  constructor
  · rintro (a | a | a)
    · exact Or.inl a
    · exact Or.inr (Or.inl ⟨a.1, h1.1 a.2⟩)
    · exact Or.inr (Or.inr ⟨a.1, a.2.1, h2.1 a.2.2⟩)
  · rintro (a | a | a)
    · exact Or.inl a
    · exact Or.inr (Or.inl ⟨a.1, h1.2 a.2⟩)
    · exact Or.inr (Or.inr ⟨a.1, a.2.1, h2.2 a.2.2⟩)
theorem Sm_hB {c : cC} {s s' k t : Nat} (h : Sm s s') (hd : mD c s k) : hB c s k t = hB c s' k t := by
  unfold hB
  rcases hd with a | a | a
  · rw [if_pos a, if_pos a]
  · rw [if_neg (by omega), if_pos a.1, if_neg (by omega), if_pos a.1, (h k a.1).2 a.2.2.1]
  · rw [if_neg (by omega), if_neg (by omega), if_neg (by omega), if_neg (by omega), (h (k - 3) (by omega)).1]
theorem Sm_bh {c : cC} {s s' k : Nat} (hs : s < 4096) (hs' : s' < 4096) (h : Sm s s') (hd : mD c s k) : Sm (bh s k) (bh s' k) := by
  rcases hd with a | a | a
  · subst a; exact h
  · intro w hw
    have h0 := a.2.2.1
    have h0' : 0 < po s' k := by rw [← (h k a.1).1]; exact h0
    obtain ⟨e1, e2⟩ := bh_E hs a.1 h0 hw
    obtain ⟨e3, e4⟩ := bh_E hs' a.1 h0' hw
    obtain ⟨e5, e6⟩ := h w hw
    rw [e1, e2, e3, e4, e5]
    refine ⟨rfl, fun hh => e6 ?_⟩
    rw [e5]
    split at hh <;> omega
  · intro w hw
    obtain ⟨e1, e2⟩ := bh_S hs a.1 a.2.1 hw
    obtain ⟨e3, e4⟩ := bh_S hs' a.1 a.2.1 hw
    obtain ⟨e5, e6⟩ := h w hw
    rw [e1, e2, e3, e4, e5]
    refine ⟨rfl, fun hh => e6 ?_⟩
    rw [e5]
    split at hh <;> omega
def iv (f : Nat → Nat) : Prop := ∀ s s', s < 4096 → s' < 4096 → Sm s s' → f s = f s'
theorem Sm_to {s s' y : Nat} (hs : s < 4096) (hs' : s' < 4096) (h : Sm s s') (hy : okY s y) (hy' : okY s' y) : Sm (to_ s y) (to_ s' y) := by
  intro w hw
  obtain ⟨e1, e2⟩ := to_po hs hy hw
  obtain ⟨e3, e4⟩ := to_po hs' hy' hw
  obtain ⟨e5, e6⟩ := h w hw
  rw [e1, e2, e3, e4]
  exact ⟨e5, fun hh => by rw [e6 hh]⟩
theorem mn_iv {c : cC} {p t : Nat} {f : Nat → Nat} (hf : iv f) {s s' : Nat} (hs : s < 4096) (hs' : s' < 4096) (h : Sm s s') : mn c p t f s = mn c p t f s' := by
  unfold mn
  have e0 := Sm_tn h (c := c) (p := p) (t := t) (w := 0) (by omega)
  have e1 := Sm_tn h (c := c) (p := p) (t := t) (w := 1) (by omega)
  have e2 := Sm_tn h (c := c) (p := p) (t := t) (w := 2) (by omega)
  have key : ∀ n, ms f (tn c s p 0 t) (tn c s p 1 t) (tn c s p 2 t) s n = ms f (tn c s' p 0 t) (tn c s' p 1 t) (tn c s' p 2 t) s' n := by
    intro n
    induction n with
    | zero => rfl
    | succ n ih =>
      show ms f _ _ _ s n + wt _ _ _ n * f (to_ s n) = ms f _ _ _ s' n + wt _ _ _ n * f (to_ s' n)
      rw [ih]
      by_cases q : wt (tn c s p 0 t) (tn c s p 1 t) (tn c s p 2 t) n = 0
      · have q' := q
        rw [e0, e1, e2] at q'
        rw [q, q', Nat.zero_mul, Nat.zero_mul]
      · have q' := q
        rw [e0, e1, e2] at q'
        rw [hf _ _ (to_lt hs (wt_okY q)) (to_lt hs' (wt_okY q')) (Sm_to hs hs' h (wt_okY q) (wt_okY q')), e0, e1, e2]
  rw [key]
def rk (c : cC) (r s w : Nat) : Int := if r = 1 then (sp s w : Int) else if r = 2 then -(cT c (cO c w) (sp s w) : Int) else if r = 3 then (cT c (cO c w) (sp s w) : Int) else 0
def chR (c : cC) (r s : Nat) : Nat → Nat
  | 0 => 6
  | w + 1 => if mE c s w ∧ (chR c r s w = 6 ∨ rk c r s (chR c r s w) < rk c r s w) then w else chR c r s w
def br (c : cC) (p t : Nat) (f : Nat → Nat) (s k : Nat) : Nat := 1000 * hB c s k t + mn c p t f (bh s k)
def chB (c : cC) (p t : Nat) (f : Nat → Nat) (s : Nat) : Nat → Nat × Int
  | 0 => (6, -1)
  | k + 1 => if mD c s k ∧ (chB c p t f s k).2 < (br c p t f s k : Int) then (k, (br c p t f s k : Int)) else chB c p t f s k
def ch (c : cC) (r p t : Nat) (f : Nat → Nat) (s : Nat) : Nat := if r = 4 then (chB c p t f s 7).1 else chR c r s (cW c)
def Hf (c : cC) (r p : Nat) : Nat → Nat → Nat
  | 0, _ => 0
  | m + 1, s => br c p (cK c - (m + 1)) (Hf c r p m) s (ch c r p (cK c - (m + 1)) (Hf c r p m) s)
def Hg (c : cC) (r p : Nat) : Nat → Nat → Nat
  | 0, s => 1000 * (po s 0 + po s 1 + po s 2)
  | m + 1, s => mn c p (cK c - (m + 1)) (Hg c r p m) (bh s (ch c r p (cK c - (m + 1)) (Hf c r p m) s))
theorem chR_ok (c : cC) (r s n : Nat) : chR c r s n = 6 ∨ (chR c r s n < n ∧ mE c s (chR c r s n)) := by
  induction n with
  | zero => exact Or.inl rfl
  | succ n ih =>
    show (if mE c s n ∧ (chR c r s n = 6 ∨ rk c r s (chR c r s n) < rk c r s n) then n else chR c r s n) = 6 ∨ ((if mE c s n ∧ (chR c r s n = 6 ∨ rk c r s (chR c r s n) < rk c r s n) then n else chR c r s n) < n + 1 ∧ mE c s (if mE c s n ∧ (chR c r s n = 6 ∨ rk c r s (chR c r s n) < rk c r s n) then n else chR c r s n))
    by_cases q : mE c s n ∧ (chR c r s n = 6 ∨ rk c r s (chR c r s n) < rk c r s n)
    · rw [if_pos q]; exact Or.inr ⟨by omega, q.1⟩
    · rw [if_neg q]
      rcases ih with h | h
      · exact Or.inl h
      · exact Or.inr ⟨by omega, h.2⟩
theorem chB_ok (c : cC) (p t : Nat) (f : Nat → Nat) (s n : Nat) : ((chB c p t f s n).1 = 6 ∧ (chB c p t f s n).2 = -1) ∨ (mD c s (chB c p t f s n).1 ∧ (chB c p t f s n).2 = (br c p t f s (chB c p t f s n).1 : Int)) := by
  induction n with
  | zero => exact Or.inl ⟨rfl, rfl⟩
  | succ n ih =>
    have e : chB c p t f s (n + 1) = if mD c s n ∧ (chB c p t f s n).2 < (br c p t f s n : Int) then (n, (br c p t f s n : Int)) else chB c p t f s n := rfl
    rw [e]
    by_cases q : mD c s n ∧ (chB c p t f s n).2 < (br c p t f s n : Int)
    · rw [if_pos q]; exact Or.inr ⟨q.1, rfl⟩
    · rw [if_neg q]; exact ih
theorem chB7 (c : cC) (p t : Nat) (f : Nat → Nat) (s : Nat) : mD c s (chB c p t f s 7).1 ∧ (chB c p t f s 7).2 = (br c p t f s (chB c p t f s 7).1 : Int) := by
  rcases chB_ok c p t f s 7 with h | h
  · exfalso
    have e : chB c p t f s 7 = if mD c s 6 ∧ (chB c p t f s 6).2 < (br c p t f s 6 : Int) then (6, (br c p t f s 6 : Int)) else chB c p t f s 6 := rfl
    rw [e] at h
    by_cases q : mD c s 6 ∧ (chB c p t f s 6).2 < (br c p t f s 6 : Int)
    · rw [if_pos q] at h
      have := h.2
      simp only [] at this
      omega
    · rw [if_neg q] at h
      exact q ⟨Or.inl rfl, by rw [h.2]; omega⟩
  · exact h
theorem ch_ok {c : cC} (hc : OkC c) (r p t : Nat) (f : Nat → Nat) (s : Nat) : mD c s (ch c r p t f s) := by
  have h4 := hc.2.1
  unfold ch
  split
  · exact (chB7 c p t f s).1
  · rcases chR_ok c r s (cW c) with h | h
    · exact Or.inl h
    · exact Or.inr (Or.inl ⟨by omega, h.2⟩)
theorem rk_iv {c : cC} (hc : OkC c) {r s s' w : Nat} (h : Sm s s') (he : mE c s w) : rk c r s w = rk c r s' w := by
  have h4 := hc.2.1
  have h5 := he.1
  unfold rk
  rw [(h w (by omega)).2 he.2.1]
theorem chR_iv {c : cC} (hc : OkC c) {r s s' : Nat} (h : Sm s s') (n : Nat) : chR c r s n = chR c r s' n := by
  induction n with
  | zero => rfl
  | succ n ih =>
    show (if mE c s n ∧ (chR c r s n = 6 ∨ rk c r s (chR c r s n) < rk c r s n) then n else chR c r s n) = (if mE c s' n ∧ (chR c r s' n = 6 ∨ rk c r s' (chR c r s' n) < rk c r s' n) then n else chR c r s' n)
    rw [← ih]
    by_cases q : mE c s n
    · have q' := (Sm_mE hc h).1 q
      rcases chR_ok c r s n with h1 | h1
      · rw [if_pos ⟨q, Or.inl h1⟩, if_pos ⟨q', Or.inl h1⟩]
      · rw [← rk_iv hc h h1.2, ← rk_iv hc h q]
        by_cases q2 : chR c r s n = 6 ∨ rk c r s (chR c r s n) < rk c r s n
        · rw [if_pos ⟨q, q2⟩, if_pos ⟨q', q2⟩]
        · rw [if_neg (fun x => q2 x.2), if_neg (fun x => q2 x.2)]
    · have q' : ¬ mE c s' n := fun x => q ((Sm_mE hc h).2 x)
      rw [if_neg (fun x => q x.1), if_neg (fun x => q' x.1)]
theorem br_iv {c : cC} {p t : Nat} {f : Nat → Nat} (hf : iv f) {s s' k : Nat} (hs : s < 4096) (hs' : s' < 4096) (h : Sm s s') (hd : mD c s k) : br c p t f s k = br c p t f s' k := by
  unfold br
  rw [Sm_hB h hd, mn_iv hf (Nat.lt_of_le_of_lt (bh_le _ _) hs) (Nat.lt_of_le_of_lt (bh_le _ _) hs') (Sm_bh hs hs' h hd)]
theorem chB_iv {c : cC} (hc : OkC c) {p t : Nat} {f : Nat → Nat} (hf : iv f) {s s' : Nat} (hs : s < 4096) (hs' : s' < 4096) (h : Sm s s') (n : Nat) : chB c p t f s n = chB c p t f s' n := by
  induction n with
  | zero => rfl
  | succ n ih =>
    show (if mD c s n ∧ (chB c p t f s n).2 < (br c p t f s n : Int) then (n, (br c p t f s n : Int)) else chB c p t f s n) = (if mD c s' n ∧ (chB c p t f s' n).2 < (br c p t f s' n : Int) then (n, (br c p t f s' n : Int)) else chB c p t f s' n)
    rw [← ih]
    by_cases q : mD c s n
    · have q' := (Sm_mD hc h).1 q
      rw [← br_iv hf hs hs' h q]
      by_cases q2 : (chB c p t f s n).2 < (br c p t f s n : Int)
      · rw [if_pos ⟨q, q2⟩, if_pos ⟨q', q2⟩]
      · rw [if_neg (fun x => q2 x.2), if_neg (fun x => q2 x.2)]
    · have q' : ¬ mD c s' n := fun x => q ((Sm_mD hc h).2 x)
      rw [if_neg (fun x => q x.1), if_neg (fun x => q' x.1)]
theorem ch_iv {c : cC} (hc : OkC c) {r p t : Nat} {f : Nat → Nat} (hf : iv f) {s s' : Nat} (hs : s < 4096) (hs' : s' < 4096) (h : Sm s s') : ch c r p t f s = ch c r p t f s' := by
  unfold ch
  rw [chB_iv hc hf hs hs' h, chR_iv hc h]
theorem Hf_iv {c : cC} (hc : OkC c) (r p m : Nat) : iv (Hf c r p m) := by
  induction m with
  | zero => intro s s' hs hs' h; rfl
  | succ m ih =>
    intro s s' hs hs' h
    show br c p (cK c - (m + 1)) (Hf c r p m) s (ch c r p (cK c - (m + 1)) (Hf c r p m) s) = br c p (cK c - (m + 1)) (Hf c r p m) s' (ch c r p (cK c - (m + 1)) (Hf c r p m) s')
    rw [← ch_iv hc ih hs hs' h, br_iv ih hs hs' h (ch_ok hc _ _ _ _ _)]
theorem Hg_iv {c : cC} (hc : OkC c) (r p m : Nat) : iv (Hg c r p m) := by
  induction m with
  | zero => intro s s' hs hs' h; show 1000 * (po s 0 + po s 1 + po s 2) = 1000 * (po s' 0 + po s' 1 + po s' 2); rw [(h 0 (by omega)).1, (h 1 (by omega)).1, (h 2 (by omega)).1]
  | succ m ih =>
    intro s s' hs hs' h
    show mn c p (cK c - (m + 1)) (Hg c r p m) (bh s (ch c r p (cK c - (m + 1)) (Hf c r p m) s)) = mn c p (cK c - (m + 1)) (Hg c r p m) (bh s' (ch c r p (cK c - (m + 1)) (Hf c r p m) s'))
    rw [← ch_iv hc (Hf_iv hc r p m) hs hs' h]
    exact mn_iv ih (Nat.lt_of_le_of_lt (bh_le _ _) hs) (Nat.lt_of_le_of_lt (bh_le _ _) hs') (Sm_bh hs hs' h (ch_ok hc _ _ _ _ _))
theorem hB_le {c : cC} (hc : OkC c) (s k t : Nat) : hB c s k t ≤ 297 := by
  have h1 := po_lt s (k - 3)
  have h2 := cP_le hc t
  have h3 := cT_le hc (cO c k) (sp s k)
  unfold hB
  split
  · omega
  · split
    · omega
    · calc po s (k - 3) * cP c t ≤ 3 * 99 := Nat.mul_le_mul (by omega) h2
        _ = 297 := rfl
theorem Hf_le {c : cC} (hc : OkC c) (r p m s : Nat) : Hf c r p m s ≤ 297000 * m := by
  induction m generalizing s with
  | zero => exact Nat.zero_le _
  | succ m ih =>
    show 1000 * hB c s (ch c r p (cK c - (m + 1)) (Hf c r p m) s) (cK c - (m + 1)) + mn c p (cK c - (m + 1)) (Hf c r p m) (bh s (ch c r p (cK c - (m + 1)) (Hf c r p m) s)) ≤ _
    have h1 := hB_le hc s (ch c r p (cK c - (m + 1)) (Hf c r p m) s) (cK c - (m + 1))
    have h2 := mn_le (c := c) (p := p) (t := cK c - (m + 1)) ih (bh s (ch c r p (cK c - (m + 1)) (Hf c r p m) s))
    omega
theorem Hg_le (c : cC) (r p m s : Nat) : Hg c r p m s ≤ 9000 := by
  induction m generalizing s with
  | zero =>
    have := po_lt s 0
    have := po_lt s 1
    have := po_lt s 2
    show 1000 * (po s 0 + po s 1 + po s 2) ≤ 9000
    omega
  | succ m ih => exact mn_le ih _
theorem po_0 (w : Nat) : po 0 w = 0 := by unfold po; rw [Nat.zero_div]
theorem mD_0 {c : cC} (hc : OkC c) {k : Nat} (h : mD c 0 k) : k = 6 := by
  rcases h with h | h | h
  · exact h
  · have := h.2.2.1; rw [po_0] at this; omega
  · have h1 := h.2.2.1
    have h2 := h.2.2.2.1
    have h3 := (hc.2.2.2.2.1 _ h1).2.1
    rw [po_0] at h2; omega
theorem mn_0 {c : cC} {p t : Nat} {f : Nat → Nat} (h : f 0 = 0) : mn c p t f 0 = 0 := by
  unfold mn
  have key : ∀ n, ms f (tn c 0 p 0 t) (tn c 0 p 1 t) (tn c 0 p 2 t) 0 n = 0 ∨ 8 < n := by
    intro n
    induction n with
    | zero => exact Or.inl rfl
    | succ n ih =>
      by_cases q8 : 8 < n + 1
      · exact Or.inr q8
      refine Or.inl ?_
      show ms f _ _ _ 0 n + wt _ _ _ n * f (to_ 0 n) = 0
      rcases ih with ih | ih
      · rw [ih]
        by_cases q : wt (tn c 0 p 0 t) (tn c 0 p 1 t) (tn c 0 p 2 t) n = 0
        · rw [q, Nat.zero_mul]
        · have h1 := wt_ok q
          have hb : ∀ w, w < 3 → bt n w = 0 := by
            intro w hw
            have h2 : bt n w < 2 := Nat.mod_lt _ (by decide)
            by_cases q2 : bt n w = 1
            · have := (h1 w hw q2).1; rw [po_0] at this; omega
            · omega
          have b0 := hb 0 (by omega)
          have b1 := hb 1 (by omega)
          have b2 := hb 2 (by omega)
          rw [bt0] at b0
          rw [bt1] at b1
          rw [bt2] at b2
          rw [show to_ 0 n = 0 by unfold to_; omega, h, Nat.mul_zero]
      · omega
  rcases key 8 with h1 | h1
  · rw [h1]
  · omega
theorem ch_0 {c : cC} (hc : OkC c) (r p t : Nat) (f : Nat → Nat) : ch c r p t f 0 = 6 := mD_0 hc (ch_ok hc r p t f 0)
theorem Hf_0 {c : cC} (hc : OkC c) (r p m : Nat) : Hf c r p m 0 = 0 := by
  induction m with
  | zero => rfl
  | succ m ih =>
    show br c p (cK c - (m + 1)) (Hf c r p m) 0 (ch c r p (cK c - (m + 1)) (Hf c r p m) 0) = 0
    rw [ch_0 hc]
    show 1000 * 0 + mn c p (cK c - (m + 1)) (Hf c r p m) 0 = 0
    rw [mn_0 ih]
theorem Hg_0 {c : cC} (hc : OkC c) (r p m : Nat) : Hg c r p m 0 = 0 := by
  induction m with
  | zero => rfl
  | succ m ih =>
    show mn c p (cK c - (m + 1)) (Hg c r p m) (bh 0 (ch c r p (cK c - (m + 1)) (Hf c r p m) 0)) = 0
    rw [ch_0 hc]
    exact mn_0 ih
