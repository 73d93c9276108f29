def wo (s w : Nat) : Nat := s - cd s w * 16 ^ w
theorem wo_and : (∀ a, a < 16 → ∀ b, b < 16 → ∀ d, d < 16 → q_and ((a + 16 * b + 256 * d : Nat) : Int) (-16) = ((16 * b + 256 * d : Nat) : Int)) ∧ (∀ a, a < 16 → ∀ b, b < 16 → ∀ d, d < 16 → q_and ((a + 16 * b + 256 * d : Nat) : Int) (-241) = ((a + 256 * d : Nat) : Int)) ∧ (∀ a, a < 16 → ∀ b, b < 16 → ∀ d, d < 16 → q_and ((a + 16 * b + 256 * d : Nat) : Int) (-3841) = ((a + 16 * b : Nat) : Int)) := by
  refine ⟨by decide +kernel, by decide +kernel, by decide +kernel⟩
theorem e_without (σ : sM) {s w : Nat} (hs : s < 4096) (hw : w < 3) : X8_without σ (s : Int) (w : Int) = some (wo s w : Int) := by
  unfold X8_without wo cd
  obtain ⟨h0, h1, h2⟩ := wo_and
  have e : s = s % 16 + 16 * (s / 16 % 16) + 256 * (s / 256 % 16) := by omega
  rcases (show w = 0 ∨ w = 1 ∨ w = 2 by omega) with rfl | rfl | rfl
  · have := h0 (s % 16) (by omega) (s / 16 % 16) (by omega) (s / 256 % 16) (by omega)
    rw [← e] at this
    rw [show q_xor (q_shl 15 (4 * ((0 : Nat) : Int))) (-1) = -16 by decide +kernel, this]
    exact congrArg some (by show _ = ((s - s / 1 % 16 * 1 : Nat) : Int); omega)
  · have := h1 (s % 16) (by omega) (s / 16 % 16) (by omega) (s / 256 % 16) (by omega)
    rw [← e] at this
    rw [show q_xor (q_shl 15 (4 * ((1 : Nat) : Int))) (-1) = -241 by decide +kernel, this]
    exact congrArg some (by show _ = ((s - s / 16 % 16 * 16 : Nat) : Int); omega)
  · have := h2 (s % 16) (by omega) (s / 16 % 16) (by omega) (s / 256 % 16) (by omega)
    rw [← e] at this
    rw [show q_xor (q_shl 15 (4 * ((2 : Nat) : Int))) (-1) = -3841 by decide +kernel, this]
    exact congrArg some (by show _ = ((s - s / 256 % 16 * 256 : Nat) : Int); omega)
theorem wo_po {s w : Nat} (hs : s < 4096) (hw : w < 3) {v : Nat} (hv : v < 3) : po (wo s w) v = (if v = w then 0 else po s v) ∧ sp (wo s w) v = (if v = w then 0 else sp s v) := by
  have hd := dig hs
  have l0 := po_lt s 0
  have l1 := po_lt s 1
  have l2 := po_lt s 2
  have k0 := sp_lt s 0
  have k1 := sp_lt s 1
  have k2 := sp_lt s 2
  unfold wo
  rw [cd_eq]
  rcases (show w = 0 ∨ w = 1 ∨ w = 2 by omega) with rfl | rfl | rfl
  · obtain ⟨e1, e2, e3, e4, e5, e6⟩ := en_po (a := 0) (b := 0) (by omega) (by omega) l1 k1 l2 k2
    rw [show s - (4 * sp s 0 + po s 0) * 16 ^ 0 = en 0 0 (po s 1) (sp s 1) (po s 2) (sp s 2) by show s - (4 * sp s 0 + po s 0) * 1 = _; unfold en at *; omega]
    rcases (show v = 0 ∨ v = 1 ∨ v = 2 by omega) with rfl | rfl | rfl
    · rw [if_pos rfl, if_pos rfl]; exact ⟨e1, e2⟩
    · rw [if_neg (by decide), if_neg (by decide)]; exact ⟨e3, e4⟩
    · rw [if_neg (by decide), if_neg (by decide)]; exact ⟨e5, e6⟩
  · obtain ⟨e1, e2, e3, e4, e5, e6⟩ := en_po (d := 0) (e := 0) l0 k0 (by omega) (by omega) l2 k2
    rw [show s - (4 * sp s 1 + po s 1) * 16 ^ 1 = en (po s 0) (sp s 0) 0 0 (po s 2) (sp s 2) by show s - (4 * sp s 1 + po s 1) * 16 = _; unfold en at *; omega]
    rcases (show v = 0 ∨ v = 1 ∨ v = 2 by omega) with rfl | rfl | rfl
    · rw [if_neg (by decide), if_neg (by decide)]; exact ⟨e1, e2⟩
    · rw [if_pos rfl, if_pos rfl]; exact ⟨e3, e4⟩
    · rw [if_neg (by decide), if_neg (by decide)]; exact ⟨e5, e6⟩
  · obtain ⟨e1, e2, e3, e4, e5, e6⟩ := en_po (f := 0) (g := 0) l0 k0 l1 k1 (by omega) (by omega)
    rw [show s - (4 * sp s 2 + po s 2) * 16 ^ 2 = en (po s 0) (sp s 0) (po s 1) (sp s 1) 0 0 by show s - (4 * sp s 2 + po s 2) * 256 = _; unfold en at *; omega]
    rcases (show v = 0 ∨ v = 1 ∨ v = 2 by omega) with rfl | rfl | rfl
    · rw [if_neg (by decide), if_neg (by decide)]; exact ⟨e1, e2⟩
    · rw [if_neg (by decide), if_neg (by decide)]; exact ⟨e3, e4⟩
    · rw [if_pos rfl, if_pos rfl]; exact ⟨e5, e6⟩
theorem wo_le (s w : Nat) : wo s w ≤ s := Nat.sub_le _ _
theorem wo_Vs {c : cC} (hc : OkC c) {s w : Nat} (hv : Vs c s) (hw : w < 3) : Vs c (wo s w) := by
  refine ⟨Nat.lt_of_le_of_lt (wo_le s w) hv.1, fun v hv' => ?_⟩
  rw [(wo_po (hv.lt hc) hw hv').1]
  have := hv.2 v hv'
  split <;> omega
theorem Sm_refl (s : Nat) : Sm s s := fun _ _ => ⟨rfl, fun _ => rfl⟩
theorem Sm_trans {a b d : Nat} (h : Sm a b) (h2 : Sm b d) : Sm a d := fun w hw => by
  obtain ⟨x1, x2⟩ := h w hw
  obtain ⟨y1, y2⟩ := h2 w hw
  exact ⟨by omega, fun q => by rw [x2 q, y2 (by omega)]⟩
def sb (s k : Nat) : Nat := if k = 6 then s else if k < 3 then (if po s k = 1 then wo s k else bh s k) else wo s (k - 3)
theorem sb_Sm {c : cC} {s k : Nat} (hs : s < 4096) (hd : mD c s k) : Sm (bh s k) (sb s k) := by
  unfold sb
  rcases hd with h | h | h
  · rw [h, if_pos rfl]; exact Sm_refl s
  · rw [if_neg (by omega), if_pos h.1]
    by_cases q : po s k = 1
    · rw [if_pos q]
      intro w hw
      obtain ⟨e1, e2⟩ := bh_E hs h.1 h.2.2.1 hw
      obtain ⟨e3, e4⟩ := wo_po hs h.1 hw
      rw [e1, e2, e3, e4]
      by_cases q2 : w = k
      · subst q2; rw [if_pos rfl, if_pos rfl, if_pos rfl]; exact ⟨by omega, fun x => by omega⟩
      · rw [if_neg q2, if_neg q2, if_neg q2]; exact ⟨rfl, fun _ => rfl⟩
    · rw [if_neg q]; exact Sm_refl _
  · rw [if_neg (by omega), if_neg (by omega)]
    intro w hw
    obtain ⟨e1, e2⟩ := bh_S hs h.1 h.2.1 hw
    obtain ⟨e3, e4⟩ := wo_po hs (w := k - 3) (by omega) hw
    rw [e1, e2, e3, e4]
    by_cases q2 : w = k - 3
    · rw [if_pos q2, if_pos q2]; exact ⟨rfl, fun x => by omega⟩
    · rw [if_neg q2, if_neg q2]; exact ⟨rfl, fun _ => rfl⟩
theorem sb_Vs {c : cC} (hc : OkC c) {s k : Nat} (hv : Vs c s) (hd : mD c s k) : Vs c (sb s k) := by
  have hb := bh_Vs hc hv hd
  have hk := mD_k hd
  unfold sb
  split
  · exact hv
  · split
    · split
      · exact wo_Vs hc hv (by omega)
      · exact hb
    · exact wo_Vs hc hv (by omega)
theorem e_standBehind {c : cC} {σ : sM} (o P V W n : Nat) {s k : Nat} (hs : s < 4096) (hd : mD c s k) : X3_standBehind o P V W n σ (s : Int) (k : Int) = some (sb s k : Int) := by
  have hk := mD_k hd
  unfold X3_standBehind sb
  by_cases q6 : k = 6
  · simp (disch := omega) only [b2_if0, b2_ifn, b2_if1, jn_def, nm_def, bp_some, bn_some, wiZ, wlZ, wiD, if_pos, if_neg, if_true, if_false, not_true_eq_false, not_false_eq_true, Int.toNat_natCast]
  · by_cases q : k < 3
    · have hm : mE c s k := by
        rcases hd with hh | hh | hh
        · exact absurd hh q6
        · exact hh.2
        · omega
      have hp := hm.2.1
      have h1 := po_lt s k
      simp (disch := omega) only [b2_if0, b2_ifn, b2_if1, jn_def, nm_def, bp_some, bn_some, wiZ, wlZ, wiD, if_pos, if_neg, if_true, if_false, not_true_eq_false, not_false_eq_true, Int.toNat_natCast, e_portionsOf]
      by_cases q1 : po s k = 1
      · simp (disch := omega) only [b2_if0, b2_ifn, b2_if1, jn_def, nm_def, bp_some, bn_some, wiZ, wlZ, wiD, if_pos, if_neg, if_true, if_false, not_true_eq_false, not_false_eq_true, Int.toNat_natCast, e_without]
      · rw [e_standAfter (c := c) hs hk (fun _ => hp)]
        simp (disch := omega) only [b2_if0, b2_ifn, b2_if1, jn_def, nm_def, bp_some, bn_some, wiZ, wlZ, wiD, if_pos, if_neg, if_true, if_false, not_true_eq_false, not_false_eq_true, Int.toNat_natCast]
    · rw [show (k : Int) - 3 = ((k - 3 : Nat) : Int) by omega]
      simp (disch := omega) only [b2_if0, b2_ifn, b2_if1, jn_def, nm_def, bp_some, bn_some, wiZ, wlZ, wiD, if_pos, if_neg, if_true, if_false, not_true_eq_false, not_false_eq_true, Int.toNat_natCast, e_without]
def Ent (σ : sM) (P n st : Nat) (S : Nat → Nat → Prop) : Prop := ∀ i, i < n → ∃ a b : Nat, σ P i = ((a * 4294967296 + b : Nat) : Int) ∧ b < 2147483648 ∧ a ≤ st ∧ (a = st → S i b)
def SpE (c : cC) (v : Nat → Nat → Nat) (i b : Nat) : Prop := ∀ t s, t < cK c → Vs c s → i = t * 16 ^ cW c + s → b = v t s
def vP (c : cC) (r p t s : Nat) : Nat := 8 * Hf c r p (cK c - t) s + ch c r p t (Hf c r p (cK c - (t + 1))) s
def vV (c : cC) (r p t s : Nat) : Nat := mn c p t (Hf c r p (cK c - (t + 1))) s
def vW (c : cC) (r p t s : Nat) : Nat := mn c p t (Hg c r p (cK c - (t + 1))) s
def MI (c : cC) (r p st o P V W n : Nat) (σ : sM) : Prop := RelX c σ ∧ σ o 1 = (r : Int) ∧ σ o 2 = (p : Int) ∧ σ o 3 = ((4 * cW c : Nat) : Int) ∧ σ o 4 = (st : Int) ∧ Ent σ P n st (SpE c (vP c r p)) ∧ Ent σ V n st (SpE c (vV c r p)) ∧ Ent σ W n st (SpE c (vW c r p))
/-- what stays as it is -/
def Fx (c : cC) (r p st o P V W n : Nat) : Prop := OkC c ∧ r ≤ 4 ∧ p < 8 ∧ (1 ≤ st ∧ st < 1000000) ∧ (12 ≤ o ∧ 12 ≤ P ∧ 12 ≤ V ∧ 12 ≤ W) ∧ (o ≠ P ∧ o ≠ V ∧ o ≠ W ∧ P ≠ V ∧ P ≠ W ∧ V ≠ W) ∧ n ≤ 32768 ∧ (0 < cW c → cK c * 16 ^ cW c ≤ n)
def Fr (P V W : Nat) (σ σ' : sM) : Prop := ∀ k, k ≠ P → k ≠ V → k ≠ W → σ' k = σ k
theorem Fr.refl (P V W : Nat) (σ : sM) : Fr P V W σ σ := fun _ _ _ _ => rfl
theorem Fr.trans {P V W : Nat} {a b d : sM} (h : Fr P V W a b) (h2 : Fr P V W b d) : Fr P V W a d := fun k x y z => by rw [h2 k x y z, h k x y z]
theorem wi_stamp {a b : Nat} (hb : b < 2147483648) : wi ((a * 4294967296 + b : Nat) : Int) = (b : Int) := by
  rw [wi_b]
  rw [show ((a * 4294967296 + b : Nat) : Int) = (b : Int) + (a : Int) * ((4294967296 : Nat) : Int) by omega, Int.add_mul_bmod_self_right]
  exact Int.bmod_eq_of_le (by omega) (by omega)
theorem lk_shr (a s : Int64) (k : Nat) (hs : (s.toBitVec.smod 64).toNat = k) : (a >>> s).toInt = a.toInt >>> k := by
  show (a.toBitVec.sshiftRight (s.toBitVec.smod 64).toNat).toInt = _
  rw [hs, BitVec.toInt_sshiftRight]
  rfl
theorem lk_shl (a s : Int64) (k : Nat) (hs : (s.toBitVec.smod 64).toNat = k) : (a <<< s).toBitVec.toNat = a.toBitVec.toNat * 2 ^ k % 2 ^ 64 := by
  show (a.toBitVec <<< (s.toBitVec.smod 64).toNat).toNat = _
  rw [hs, BitVec.toNat_shiftLeft, Nat.shiftLeft_eq]
theorem lk_tn {n : Nat} (h : n < 2 ^ 64) : (lN n).toBitVec.toNat = n := Nat.mod_eq_of_lt h
theorem q_lshr32 {a b : Nat} (ha : a < 1000000) (hb : b < 4294967296) : q_lshr ((a * 4294967296 + b : Nat) : Int) 32 = (a : Int) := by
  unfold q_lshr
  rw [lk_shr _ _ 32 (by decide), olN, pk_lT (by omega), Int.shiftRight_eq_div_pow]
  show ((a * 4294967296 + b : Nat) : Int) / 4294967296 = (a : Int)
  omega
theorem q_stamp {a b : Nat} (ha : a < 1000000) (hb : b < 2147483648) : q_lor (q_lshl (a : Int) 32) (b : Int) = ((a * 4294967296 + b : Nat) : Int) := by
  unfold q_lor q_lshl
  rw [ol_ti, olN, olN]
  have e : (lN a <<< ((Int32.ofInt 32).toInt64 &&& 63)) ||| lN b = lN (a * 4294967296 + b) := by
    apply Int64.toBitVec_inj.mp
    apply BitVec.eq_of_toNat_eq
    rw [Int64.toBitVec_or, BitVec.toNat_or, lk_shl _ _ 32 (by decide), lk_tn (by omega), lk_tn (by omega), lk_tn (by omega), Nat.mod_eq_of_lt (by omega)]
    have := Nat.shiftLeft_add_eq_or_of_lt (i := 32) (b := b) (by omega) a
    rw [Nat.shiftLeft_eq] at this
    exact this.symm
  rw [e, pk_lT (by omega)]
theorem e_stamped {σ : sM} {o P V W n st b : Nat} (hs : σ o 4 = (st : Int)) (h1 : st < 1000000) (x : Int) (hx : wi x = (b : Int)) (hb : b < 2147483648) : X3_stamped o P V W n σ x = some ((st * 4294967296 + b : Nat) : Int) := by
  unfold X3_stamped
  rw [hs, hx, q_stamp h1 hb]
theorem e_isVoid {σ : sM} {o P V W n st a b : Nat} (hs : σ o 4 = (st : Int)) (h1 : st < 1000000) (ha : a ≤ st) (hb : b < 2147483648) : X3_isVoid o P V W n σ ((a * 4294967296 + b : Nat) : Int) = some (b2 (a ≠ st)) := by
  unfold X3_isVoid
  rw [hs, q_lshr32 (by omega) (by omega)]
  have e : q_lcmp (a : Int) (st : Int) = if a = st then 0 else -1 := by
    unfold q_lcmp
    rw [wl_id (by omega) (by omega), wl_id (z := (a : Int)) (by omega) (by omega), if_neg (show ¬ (st : Int) < (a : Int) by omega)]
    by_cases q : a = st
    · rw [if_pos q, if_pos (by omega)]
    · rw [if_neg q, if_neg (by omega)]
  rw [e]
  by_cases q : a = st
  · rw [if_pos q, b2_f (fun h => h q)]; rfl
  · rw [if_neg q, b2_t q]; rfl
theorem e_placeOf {c : cC} {σ : sM} {r p st o P V W n : Nat} (hx : Fx c r p st o P V W n) (hm : MI c r p st o P V W n σ) {t s : Nat} (ht : t < 1000) (hv : Vs c s) : X3_placeOf o P V W n σ (t : Int) (s : Int) = some (if t < cK c ∧ 0 < s then ((t * 16 ^ cW c + s : Nat) : Int) else -1) := by
  obtain ⟨hc, x1, x2, x3, x4, x5, x6, x7⟩ := hx
  obtain ⟨m1, m2, m3, m4, m5, m6, m7, m8⟩ := hm
  have hs := hv.lt hc
  have h4 := hc.2.1
  have h5 := hc.2.2.1
  unfold X3_placeOf
  rw [m1.2.2.1, m4]
  by_cases q1 : t < cK c
  · by_cases q2 : 0 < s
    · have hw : 0 < cW c := by
        by_cases q : 0 < cW c
        · exact q
        · have := hv.1; rw [show cW c = 0 by omega] at this; omega
      have hn := x7 hw
      have e : q_shl (t : Int) ((4 * cW c : Nat) : Int) = ((t * 16 ^ cW c : Nat) : Int) := by
        have hp : 2 ^ (4 * cW c) = 16 ^ cW c := by rw [Nat.pow_mul]
        have h16 : 16 ^ cW c ≤ 4096 := Nat.pow_le_pow_right (n := 16) (by decide) h4
        have : t * 16 ^ cW c ≤ 8 * 4096 := Nat.mul_le_mul (by omega) h16
        rw [q_shlN (by rw [hp]; omega) (by omega), hp]
      rw [e]
      have hv1 := hv.1
      have hle : (t + 1) * 16 ^ cW c ≤ cK c * 16 ^ cW c := Nat.mul_le_mul_right _ q1
      rw [Nat.add_mul] at hle
      simp (disch := omega) only [b2_if0, b2_ifn, b2_if1, jn_def, nm_def, bp_some, bn_some, wiZ, wlZ, wiD, if_pos, if_neg, if_true, if_false, not_true_eq_false, not_false_eq_true, Int.toNat_natCast]
      exact congrArg some (by omega)
    · simp (disch := omega) only [b2_if0, b2_ifn, b2_if1, jn_def, nm_def, bp_some, bn_some, wiZ, wlZ, wiD, if_pos, if_neg, if_true, if_false, not_true_eq_false, not_false_eq_true, Int.toNat_natCast]
  · simp (disch := omega) only [b2_if0, b2_ifn, b2_if1, jn_def, nm_def, bp_some, bn_some, wiZ, wlZ, wiD, if_pos, if_neg, if_true, if_false, not_true_eq_false, not_false_eq_true, Int.toNat_natCast]
theorem MI_up {c : cC} {σ : sM} {r p st o P V W n : Nat} (hx : Fx c r p st o P V W n) (hm : MI c r p st o P V W n σ) (R : Nat) (i b : Nat) (hb : b < 2147483648) (hR : R = P ∧ SpE c (vP c r p) i b ∨ R = V ∧ SpE c (vV c r p) i b ∨ R = W ∧ SpE c (vW c r p) i b) : MI c r p st o P V W n (sU σ R i ((st * 4294967296 + b : Nat) : Int)) := by
  obtain ⟨hc, x1, x2, x3, x4, x5, x6, x7⟩ := hx
  obtain ⟨m1, m2, m3, m4, m5, m6, m7, m8⟩ := hm
  have hR2 : R = P ∨ R = V ∨ R = W := by
    rcases hR with h | h | h
    · exact Or.inl h.1
    · exact Or.inr (Or.inl h.1)
    · exact Or.inr (Or.inr h.1)
  have ho : o ≠ R := by omega
  have keep : ∀ (Q : Nat) (S : Nat → Nat → Prop), Ent σ Q n st S → (Q = R → S i b) → Ent (sU σ R i ((st * 4294967296 + b : Nat) : Int)) Q n st S := by
    intro Q S hE hS j hj
    by_cases q : Q = R
    · by_cases q2 : j = i
      · subst q q2
        exact ⟨st, b, sUv, hb, Nat.le_refl _, fun _ => hS rfl⟩
      · rw [sUnj q2]; exact hE j hj
    · rw [sU_ne q]; exact hE j hj
  refine ⟨m1.congr hc (fun k h1 h2 => sU_ne (by omega)), by rw [sU_ne ho]; exact m2, by rw [sU_ne ho]; exact m3, by rw [sU_ne ho]; exact m4, by rw [sU_ne ho]; exact m5, keep P _ m6 (fun h => ?_), keep V _ m7 (fun h => ?_), keep W _ m8 (fun h => ?_)⟩
  · rcases hR with h2 | h2 | h2
    · exact h2.2
    · omega
    · omega
  · rcases hR with h2 | h2 | h2
    · omega
    · exact h2.2
    · omega
  · rcases hR with h2 | h2 | h2
    · omega
    · omega
    · exact h2.2
theorem SpE_one {c : cC} (v : Nat → Nat → Nat) {t s : Nat} (hv : Vs c s) : SpE c v (t * 16 ^ cW c + s) (v t s) := by
  intro t' s' ht' hv' e
  have h1 := hv.1
  have h2 := hv'.1
  have hp : 0 < 16 ^ cW c := Nat.pow_pos (by decide)
  have e1 : t = t' := by
    have a1 : (t * 16 ^ cW c + s) / 16 ^ cW c = t := by rw [Nat.mul_comm, Nat.mul_add_div hp, Nat.div_eq_of_lt h1, Nat.add_zero]
    have a2 : (t' * 16 ^ cW c + s') / 16 ^ cW c = t' := by rw [Nat.mul_comm, Nat.mul_add_div hp, Nat.div_eq_of_lt h2, Nat.add_zero]
    rw [← a1, e, a2]
  subst e1
  rw [show s = s' by omega]
