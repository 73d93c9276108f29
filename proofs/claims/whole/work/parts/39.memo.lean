def wo (s w : Nat) : Nat := s - cd s w * 16 ^ w
theorem wo_and : (∀ a, a < 16 → ∀ b, b < 16 → ∀ d, d < 16 → q_and ((a + 16 * b + 256 * d : Nat) : Int) (-16) = ((16 * b + 256 * d : Nat) : Int)) ∧ (∀ a, a < 16 → ∀ b, b < 16 → ∀ d, d < 16 → q_and ((a + 16 * b + 256 * d : Nat) : Int) (-241) = ((a + 256 * d : Nat) : Int)) ∧ (∀ a, a < 16 → ∀ b, b < 16 → ∀ d, d < 16 → q_and ((a + 16 * b + 256 * d : Nat) : Int) (-3841) = ((a + 16 * b : Nat) : Int)) := by
  refine ⟨by decide +kernel, by decide +kernel, by decide +kernel⟩
theorem e_without (σ : sM) {s w : Nat} (hs : s < 4096) (hw : w < 3) : X8_without σ (s : Int) (w : Int) = some (wo s w : Int) := by
  unfold X8_without wo cd
  obtain ⟨h0, h1, h2⟩ := wo_and
  have e : s = s % 16 + 16 * (s / 16 % 16) + 256 * (s / 256 % 16) := by omega
  rcases (show w = 0 ∨ w = 1 ∨ w = 2 by omega) with rfl | rfl | rfl
  · have := h0 (s % 16) (by omega) (s / 16 % 16) (by omega) (s / 256 % 16) (by omega)
    rw [← e] at this
    rw [show q_xor (q_shl 15 (4 * ((0 : Nat) : Int))) (-1) = -16 by decide +kernel, this]
    exact congrArg some (by show _ = ((s - s / 1 % 16 * 1 : Nat) : Int); omega)
  · have := h1 (s % 16) (by omega) (s / 16 % 16) (by omega) (s / 256 % 16) (by omega)
    rw [← e] at this
    rw [show q_xor (q_shl 15 (4 * ((1 : Nat) : Int))) (-1) = -241 by decide +kernel, this]
    exact congrArg some (by show _ = ((s - s / 16 % 16 * 16 : Nat) : Int); omega)
  · have := h2 (s % 16) (by omega) (s / 16 % 16) (by omega) (s / 256 % 16) (by omega)
    rw [← e] at this
    rw [show q_xor (q_shl 15 (4 * ((2 : Nat) : Int))) (-1) = -3841 by decide +kernel, this]
    exact congrArg some (by show _ = ((s - s / 256 % 16 * 256 : Nat) : Int); omega)
theorem wo_po {s w : Nat} (hs : s < 4096) (hw : w < 3) {v : Nat} (hv : v < 3) : po (wo s w) v = (if v = w then 0 else po s v) ∧ sp (wo s w) v = (if v = w then 0 else sp s v) := by
  have hd := dig hs
  have l0 := po_lt s 0
  have l1 := po_lt s 1
  have l2 := po_lt s 2
  have k0 := sp_lt s 0
  have k1 := sp_lt s 1
  have k2 := sp_lt s 2
  unfold wo
  rw [cd_eq]
  rcases (show w = 0 ∨ w = 1 ∨ w = 2 by omega) with rfl | rfl | rfl
  · obtain ⟨e1, e2, e3, e4, e5, e6⟩ := en_po (a := 0) (b := 0) (by omega) (by omega) l1 k1 l2 k2
    rw [show s - (4 * sp s 0 + po s 0) * 16 ^ 0 = en 0 0 (po s 1) (sp s 1) (po s 2) (sp s 2) by show s - (4 * sp s 0 + po s 0) * 1 = _; unfold en at *; omega]
    rcases (show v = 0 ∨ v = 1 ∨ v = 2 by omega) with rfl | rfl | rfl
    · rw [if_pos rfl, if_pos rfl]; exact ⟨e1, e2⟩
    · rw [if_neg (by decide), if_neg (by decide)]; exact ⟨e3, e4⟩
    · rw [if_neg (by decide), if_neg (by decide)]; exact ⟨e5, e6⟩
  · obtain ⟨e1, e2, e3, e4, e5, e6⟩ := en_po (d := 0) (e := 0) l0 k0 (by omega) (by omega) l2 k2
    rw [show s - (4 * sp s 1 + po s 1) * 16 ^ 1 = en (po s 0) (sp s 0) 0 0 (po s 2) (sp s 2) by show s - (4 * sp s 1 + po s 1) * 16 = _; unfold en at *; omega]
    rcases (show v = 0 ∨ v = 1 ∨ v = 2 by omega) with rfl | rfl | rfl
    · rw [if_neg (by decide), if_neg (by decide)]; exact ⟨e1, e2⟩
    · rw [if_pos rfl, if_pos rfl]; exact ⟨e3, e4⟩
    · rw [if_neg (by decide), if_neg (by decide)]; exact ⟨e5, e6⟩
  · obtain ⟨e1, e2, e3, e4, e5, e6⟩ := en_po (f := 0) (g := 0) l0 k0 l1 k1 (by omega) (by omega)
    rw [show s - (4 * sp s 2 + po s 2) * 16 ^ 2 = en (po s 0) (sp s 0) (po s 1) (sp s 1) 0 0 by show s - (4 * sp s 2 + po s 2) * 256 = _; unfold en at *; omega]
    rcases (show v = 0 ∨ v = 1 ∨ v = 2 by omega) with rfl | rfl | rfl
    · rw [if_neg (by decide), if_neg (by decide)]; exact ⟨e1, e2⟩
    · rw [if_neg (by decide), if_neg (by decide)]; exact ⟨e3, e4⟩
    · rw [if_pos rfl, if_pos rfl]; exact ⟨e5, e6⟩
theorem wo_le (s w : Nat) : wo s w ≤ s := Nat.sub_le _ _
theorem wo_Vs {c : cC} (hc : OkC c) {s w : Nat} (hv : Vs c s) (hw : w < 3) : Vs c (wo s w) := by
  refine ⟨Nat.lt_of_le_of_lt (wo_le s w) hv.1, fun v hv' => ?_⟩
  rw [(wo_po (hv.lt hc) hw hv').1]
  have := hv.2 v hv'
  split <;> omega
theorem Sm_refl (s : Nat) : Sm s s := fun _ _ => ⟨rfl, fun _ => rfl⟩
theorem Sm_trans {a b d : Nat} (h : Sm a b) (h2 : Sm b d) : Sm a d := fun w hw => by
  obtain ⟨x1, x2⟩ := h w hw
  obtain ⟨y1, y2⟩ := h2 w hw
  exact ⟨by omega, fun q => by rw [x2 q, y2 (by omega)]⟩
def sb (s k : Nat) : Nat := bh s k
theorem sb_Sm {c : cC} {s k : Nat} (hs : s < 4096) (hd : mD c s k) : Sm (bh s k) (sb s k) := Sm_refl _
theorem sb_Vs {c : cC} (hc : OkC c) {s k : Nat} (hv : Vs c s) (hd : mD c s k) : Vs c (sb s k) := bh_Vs hc hv hd
theorem e_standBehind {c : cC} {σ : sM} {s k : Nat} (hs : s < 4096) (hd : mD c s k) : X1_standAfter σ (s : Int) (k : Int) = some (sb s k : Int) := by
  refine e_standAfter (c := c) hs (mD_k hd) (fun h => ?_)
  rcases hd with hh | hh | hh
  · omega
  · exact hh.2.2.1
  · omega
/-- the way in which one wheel of z portions stands, out of its four bits -/
def wy1 (z f : Nat) : Nat := if f % 4 = 0 ∨ z < f % 4 then 0 else z * (f / 4) + f % 4
def un (c : cC) : Nat → Nat
  | 0 => 1
  | w + 1 => un c w * (4 * cZ c w + 1)
def wy (c : cC) (s : Nat) : Nat := un c 0 * wy1 (cZ c 0) (cd s 0) + un c 1 * wy1 (cZ c 1) (cd s 1) + un c 2 * wy1 (cZ c 2) (cd s 2)
theorem wy1_lt {z f : Nat} (hf : f < 16) : wy1 z f < 4 * z + 1 := by
  unfold wy1
  split
  · omega
  · have h1 : z * (f / 4) ≤ z * 3 := Nat.mul_le_mul_left z (by omega)
    omega
theorem wy1_e {z f f' : Nat} (hz : z ≤ 3) (hf : f < 16) (hf' : f' < 16) (h1 : f % 4 ≤ z) (h2 : f' % 4 ≤ z) (h : wy1 z f = wy1 z f') : f % 4 = f' % 4 ∧ (0 < f % 4 → f / 4 = f' / 4) := by
  unfold wy1 at h
  rcases (show z = 0 ∨ z = 1 ∨ z = 2 ∨ z = 3 by omega) with rfl | rfl | rfl | rfl <;> (split at h <;> split at h <;> omega)
theorem un1 (c : cC) : un c 1 = 4 * cZ c 0 + 1 := Nat.one_mul _
theorem un2 (c : cC) : un c 2 = (4 * cZ c 0 + 1) * (4 * cZ c 1 + 1) := by show un c 1 * _ = _; rw [un1]
theorem un3 (c : cC) : un c 3 = (4 * cZ c 0 + 1) * (4 * cZ c 1 + 1) * (4 * cZ c 2 + 1) := by show un c 2 * _ = _; rw [un2]
theorem un_le {c : cC} (hc : OkC c) : 1 ≤ un c 3 ∧ un c 3 ≤ 2197 := by
  rw [un3]
  have key : ∀ a, a < 4 → ∀ b, b < 4 → ∀ d, d < 4 → 1 ≤ (4 * a + 1) * (4 * b + 1) * (4 * d + 1) ∧ (4 * a + 1) * (4 * b + 1) * (4 * d + 1) ≤ 2197 := by decide +kernel
  have h0 := cZ_le hc 0
  have h1 := cZ_le hc 1
  have h2 := cZ_le hc 2
  exact key _ (by omega) _ (by omega) _ (by omega)
theorem mix {u v a b d a' b' d' : Nat} (ha : a < u) (ha' : a' < u) (hb : b < v) (hb' : b' < v) (h : a + u * b + u * v * d = a' + u * b' + u * v * d') : a = a' ∧ b = b' ∧ d = d' := by
  have e : ∀ x y z, x + u * y + u * v * z = x + u * (y + v * z) := fun x y z => by rw [Nat.mul_add, Nat.mul_assoc]; omega
  rw [e, e] at h
  have hu : 0 < u := by omega
  have hv : 0 < v := by omega
  have h1 : a = a' := by
    have := congrArg (· % u) h
    simp only [Nat.add_mul_mod_self_left, Nat.mod_eq_of_lt ha, Nat.mod_eq_of_lt ha'] at this
    exact this
  subst h1
  have h2 : b + v * d = b' + v * d' := Nat.eq_of_mul_eq_mul_left hu (by omega)
  have h3 : b = b' := by
    have := congrArg (· % v) h2
    simp only [Nat.add_mul_mod_self_left, Nat.mod_eq_of_lt hb, Nat.mod_eq_of_lt hb'] at this
    exact this
  subst h3
  exact ⟨rfl, rfl, Nat.eq_of_mul_eq_mul_left hv (by omega)⟩
theorem wy_lt (c : cC) (s : Nat) : wy c s < un c 3 := by
  have h0 := wy1_lt (z := cZ c 0) (cd_lt s 0)
  have h1 := wy1_lt (z := cZ c 1) (cd_lt s 1)
  have h2 := wy1_lt (z := cZ c 2) (cd_lt s 2)
  unfold wy
  have e3 : un c 3 = un c 2 * (4 * cZ c 2 + 1) := rfl
  have e2 : un c 2 = un c 1 * (4 * cZ c 1 + 1) := rfl
  have e0 : un c 0 = 1 := rfl
  rw [e0, Nat.one_mul]
  have a2 : un c 2 * wy1 (cZ c 2) (cd s 2) + un c 2 ≤ un c 3 := by
    rw [e3, ← Nat.mul_succ]; exact Nat.mul_le_mul_left _ h2
  have a1 : un c 1 * wy1 (cZ c 1) (cd s 1) + un c 1 ≤ un c 2 := by
    rw [e2, ← Nat.mul_succ]; exact Nat.mul_le_mul_left _ h1
  rw [un1] at a1 ⊢
  omega
theorem cd_pos (s w : Nat) : cd s w % 4 = po s w ∧ cd s w / 4 = sp s w := by
  have := po_lt s w
  have := sp_lt s w
  rw [cd_eq]; omega
theorem wy_Sm {c : cC} (hc : OkC c) {s s' : Nat} (hv : Vs c s) (hv' : Vs c s') (h : wy c s = wy c s') : Sm s s' := by
  unfold wy at h
  have e0 : un c 0 = 1 := rfl
  rw [e0, Nat.one_mul, Nat.one_mul, un1, un2] at h
  obtain ⟨h0, h1, h2⟩ := mix (wy1_lt (cd_lt s 0)) (wy1_lt (cd_lt s' 0)) (wy1_lt (cd_lt s 1)) (wy1_lt (cd_lt s' 1)) h
  have go : ∀ w, w < 3 → wy1 (cZ c w) (cd s w) = wy1 (cZ c w) (cd s' w) → po s w = po s' w ∧ (0 < po s w → sp s w = sp s' w) := by
    intro w hw e
    have k1 := cd_pos s w
    have k2 := cd_pos s' w
    have := wy1_e (cZ_le hc w) (cd_lt s w) (cd_lt s' w) (by rw [k1.1]; exact hv.2 w hw) (by rw [k2.1]; exact hv'.2 w hw) e
    rw [k1.1, k1.2, k2.1, k2.2] at this
    exact this
  intro w hw
  rcases (show w = 0 ∨ w = 1 ∨ w = 2 by omega) with rfl | rfl | rfl
  · exact go 0 hw h0
  · exact go 1 hw h1
  · exact go 2 hw h2
theorem Vs_0 {c : cC} : Vs c 0 := ⟨Nat.pow_pos (by decide), fun w _ => by rw [po_0]; exact Nat.zero_le _⟩
theorem wy_z (c : cC) : wy c 0 = 0 := by
  have e : ∀ w, cd 0 w = 0 := fun w => by unfold cd; rw [Nat.zero_div]
  have e1 : ∀ z, wy1 z 0 = 0 := fun z => rfl
  unfold wy
  rw [e, e, e, e1, e1, e1, Nat.mul_zero, Nat.mul_zero, Nat.mul_zero]
theorem wy_0 {c : cC} (hc : OkC c) {s : Nat} (hv : Vs c s) (h : ¬ 0 < wy c s) : Sm s 0 := wy_Sm hc hv Vs_0 (by rw [wy_z]; omega)
/-- the row of shares tells it -/
def Shr (c : cC) (H : Nat) (σ : sM) : Prop := ∀ w, w < 3 → ∀ f, f < 16 → σ H (16 * w + f) = ((un c w * wy1 (cZ c w) f : Nat) : Int)
theorem Shr.congr {c : cC} {H : Nat} {σ σ' : sM} (h : Shr c H σ) (e : σ' H = σ H) : Shr c H σ' := fun w hw f hf => by rw [e]; exact h w hw f hf
theorem e_shareOf {c : cC} {σ : sM} {o P V W n s w : Nat} (h : Shr c (shC o) σ) (hs : s < 4096) (hw : w < 3) : X3_shareOf o P V W n σ (s : Int) (w : Int) = some ((un c w * wy1 (cZ c w) (cd s w) : Nat) : Int) := by
  unfold X3_shareOf
  have e : q_and (q_shr (s : Int) (4 * (w : Int))) 15 = (cd s w : Int) := by
    rw [show (4 : Int) * (w : Int) = ((4 * w : Nat) : Int) by push_cast; rfl, q_shrN (by omega) (by omega), q_andN (Nat.lt_of_le_of_lt (Nat.div_le_self _ _) (by omega)) 4 15 (by decide)]
    unfold cd
    rw [show 2 ^ (4 * w) = 16 ^ w by rw [Nat.pow_mul]]
  have hd := cd_lt s w
  rw [e, show (w : Int) * 16 + (cd s w : Int) = ((16 * w + cd s w : Nat) : Int) by omega, wiN (by omega), if_neg (by omega), if_neg (by omega), if_pos (by omega), Int.toNat_natCast, h w hw _ hd]
def Ent (σ : sM) (P n st : Nat) (S : Nat → Nat → Prop) : Prop := ∀ i, i < n → ∃ a b : Nat, σ P i = ((a * 4294967296 + b : Nat) : Int) ∧ b < 2147483648 ∧ a ≤ st ∧ (a = st → S i b)
def SpE (c : cC) (v : Nat → Nat → Nat) (i b : Nat) : Prop := ∀ t s, t < cK c → Vs c s → i = t * un c 3 + wy c s → b = v t s
def vP (c : cC) (r p t s : Nat) : Nat := 8 * Hf c r p (cK c - t) s + ch c r p t (Hf c r p (cK c - (t + 1))) s
def vV (c : cC) (r p t s : Nat) : Nat := mn c p t (Hf c r p (cK c - (t + 1))) s
def vW (c : cC) (r p t s : Nat) : Nat := mn c p t (Hg c r p (cK c - (t + 1))) s
def MI (c : cC) (r p st o P V W n : Nat) (σ : sM) : Prop := RelX c σ ∧ σ o 1 = (r : Int) ∧ σ o 2 = (p : Int) ∧ (σ o 4 = ((un c 3 : Nat) : Int) ∧ Shr c (shC o) σ) ∧ σ o 5 = (st : Int) ∧ Ent σ P n st (SpE c (vP c r p)) ∧ Ent σ V n st (SpE c (vV c r p)) ∧ Ent σ W n st (SpE c (vW c r p))
/-- what stays as it is -/
def Fx (c : cC) (r p st o P V W n : Nat) : Prop := OkC c ∧ r ≤ 4 ∧ p < 8 ∧ (1 ≤ st ∧ st < 1000000) ∧ (12 ≤ o ∧ 12 ≤ P ∧ 12 ≤ V ∧ 12 ≤ W) ∧ (o ≠ P ∧ o ≠ V ∧ o ≠ W ∧ P ≠ V ∧ P ≠ W ∧ V ≠ W ∧ shC o ≠ P ∧ shC o ≠ V ∧ shC o ≠ W) ∧ n ≤ 32768 ∧ 8 * un c 3 ≤ n
def Fr (P V W : Nat) (σ σ' : sM) : Prop := ∀ k, k ≠ P → k ≠ V → k ≠ W → σ' k = σ k
theorem Fr.refl (P V W : Nat) (σ : sM) : Fr P V W σ σ := fun _ _ _ _ => rfl
theorem Fr.trans {P V W : Nat} {a b d : sM} (h : Fr P V W a b) (h2 : Fr P V W b d) : Fr P V W a d := fun k x y z => by rw [h2 k x y z, h k x y z]
theorem wi_stamp {a b : Nat} (hb : b < 2147483648) : wi ((a * 4294967296 + b : Nat) : Int) = (b : Int) := by
  rw [wi_b]
  rw [show ((a * 4294967296 + b : Nat) : Int) = (b : Int) + (a : Int) * ((4294967296 : Nat) : Int) by omega, Int.add_mul_bmod_self_right]
  exact Int.bmod_eq_of_le (by omega) (by omega)
theorem lk_shr (a s : Int64) (k : Nat) (hs : (s.toBitVec.smod 64).toNat = k) : (a >>> s).toInt = a.toInt >>> k := by
  show (a.toBitVec.sshiftRight (s.toBitVec.smod 64).toNat).toInt = _
  rw [hs, BitVec.toInt_sshiftRight]
  rfl
theorem lk_shl (a s : Int64) (k : Nat) (hs : (s.toBitVec.smod 64).toNat = k) : (a <<< s).toBitVec.toNat = a.toBitVec.toNat * 2 ^ k % 2 ^ 64 := by
  show (a.toBitVec <<< (s.toBitVec.smod 64).toNat).toNat = _
  rw [hs, BitVec.toNat_shiftLeft, Nat.shiftLeft_eq]
theorem lk_tn {n : Nat} (h : n < 2 ^ 64) : (lN n).toBitVec.toNat = n := Nat.mod_eq_of_lt h
theorem q_lshr32 {a b : Nat} (ha : a < 1000000) (hb : b < 4294967296) : q_lshr ((a * 4294967296 + b : Nat) : Int) 32 = (a : Int) := by
  unfold q_lshr
  rw [lk_shr _ _ 32 (by decide), olN, pk_lT (by omega), Int.shiftRight_eq_div_pow]
  show ((a * 4294967296 + b : Nat) : Int) / 4294967296 = (a : Int)
  omega
theorem q_stamp {a b : Nat} (ha : a < 1000000) (hb : b < 2147483648) : q_lor (q_lshl (a : Int) 32) (b : Int) = ((a * 4294967296 + b : Nat) : Int) := by
  unfold q_lor q_lshl
  rw [ol_ti, olN, olN]
  have e : (lN a <<< ((Int32.ofInt 32).toInt64 &&& 63)) ||| lN b = lN (a * 4294967296 + b) := by
    apply Int64.toBitVec_inj.mp
    apply BitVec.eq_of_toNat_eq
    rw [Int64.toBitVec_or, BitVec.toNat_or, lk_shl _ _ 32 (by decide), lk_tn (by omega), lk_tn (by omega), lk_tn (by omega), Nat.mod_eq_of_lt (by omega)]
    have := Nat.shiftLeft_add_eq_or_of_lt (i := 32) (b := b) (by omega) a
    rw [Nat.shiftLeft_eq] at this
    exact this.symm
  rw [e, pk_lT (by omega)]
theorem e_stamped {σ : sM} {o P V W n st b : Nat} (hs : σ o 5 = (st : Int)) (h1 : st < 1000000) (x : Int) (hx : wi x = (b : Int)) (hb : b < 2147483648) : X3_stamped o P V W n σ x = some ((st * 4294967296 + b : Nat) : Int) := by
  unfold X3_stamped
  rw [hs, hx, q_stamp h1 hb]
theorem e_isVoid {σ : sM} {o P V W n st a b : Nat} (hs : σ o 5 = (st : Int)) (h1 : st < 1000000) (ha : a ≤ st) (hb : b < 2147483648) : X3_isVoid o P V W n σ ((a * 4294967296 + b : Nat) : Int) = some (b2 (a ≠ st)) := by
  unfold X3_isVoid
  rw [hs, q_lshr32 (by omega) (by omega)]
  have e : q_lcmp (a : Int) (st : Int) = if a = st then 0 else -1 := by
    unfold q_lcmp
    rw [wl_id (by omega) (by omega), wl_id (z := (a : Int)) (by omega) (by omega), if_neg (show ¬ (st : Int) < (a : Int) by omega)]
    by_cases q : a = st
    · rw [if_pos q, if_pos (by omega)]
    · rw [if_neg q, if_neg (by omega)]
  rw [e]
  by_cases q : a = st
  · rw [if_pos q, b2_f (fun h => h q)]; rfl
  · rw [if_neg q, b2_t q]; rfl
theorem e_placeOf {c : cC} {σ : sM} {r p st o P V W n : Nat} (hx : Fx c r p st o P V W n) (hm : MI c r p st o P V W n σ) {t s : Nat} (ht : t < 1000) (hv : Vs c s) : X3_placeOf o P V W n σ (t : Int) (s : Int) = some (if t < cK c ∧ 0 < wy c s then ((t * un c 3 + wy c s : Nat) : Int) else -1) := by
  obtain ⟨hc, x1, x2, x3, x4, x5, x6, x7⟩ := hx
  obtain ⟨m1, m2, m3, m4, m5, m6, m7, m8⟩ := hm
  have hs := hv.lt hc
  have h5 := hc.2.2.1
  have hu := un_le hc
  have hw := wy_lt c s
  have s0 := e_shareOf (P := P) (V := V) (W := W) (n := n) m4.2 hs (w := 0) (by omega)
  have s1 := e_shareOf (P := P) (V := V) (W := W) (n := n) m4.2 hs (w := 1) (by omega)
  have s2 := e_shareOf (P := P) (V := V) (W := W) (n := n) m4.2 hs (w := 2) (by omega)
  rw [show ((0 : Nat) : Int) = 0 from rfl] at s0
  rw [show ((1 : Nat) : Int) = 1 from rfl] at s1
  rw [show ((2 : Nat) : Int) = 2 from rfl] at s2
  unfold X3_placeOf
  rw [s0, bp_some, s1, bp_some, s2, bp_some, m1.2.2.1, m4.1]
  have es : ((un c 0 * wy1 (cZ c 0) (cd s 0) : Nat) : Int) + ((un c 1 * wy1 (cZ c 1) (cd s 1) : Nat) : Int) + ((un c 2 * wy1 (cZ c 2) (cd s 2) : Nat) : Int) = ((wy c s : Nat) : Int) := by unfold wy; push_cast; rfl
  rw [es, wiN (n := wy c s) (by omega), wiN (n := t) (by omega), wiN (n := cK c) (by omega), if_neg (by omega)]
  by_cases q1 : t < cK c
  · rw [if_neg (by omega)]
    by_cases q2 : 0 < wy c s
    · have ht8 : t * un c 3 ≤ 7 * un c 3 := Nat.mul_le_mul_right _ (by omega)
      have e2 : (t : Int) * ((un c 3 : Nat) : Int) + ((wy c s : Nat) : Int) = ((t * un c 3 + wy c s : Nat) : Int) := by push_cast; rfl
      rw [if_pos (by omega), e2, wiN (by omega), wiN (n := n) (by omega), if_neg (by omega), if_neg (by omega), if_pos ⟨q1, q2⟩]
    · rw [if_neg (by omega), if_neg (fun h => q2 h.2)]
  · rw [if_pos (by omega), if_neg (fun h => q1 h.1)]
theorem MI_up {c : cC} {σ : sM} {r p st o P V W n : Nat} (hx : Fx c r p st o P V W n) (hm : MI c r p st o P V W n σ) (R : Nat) (i b : Nat) (hb : b < 2147483648) (hR : R = P ∧ SpE c (vP c r p) i b ∨ R = V ∧ SpE c (vV c r p) i b ∨ R = W ∧ SpE c (vW c r p) i b) : MI c r p st o P V W n (sU σ R i ((st * 4294967296 + b : Nat) : Int)) := by
  obtain ⟨hc, x1, x2, x3, x4, x5, x6, x7⟩ := hx
  obtain ⟨m1, m2, m3, m4, m5, m6, m7, m8⟩ := hm
  have hR2 : R = P ∨ R = V ∨ R = W := by
    rcases hR with h | h | h
    · exact Or.inl h.1
    · exact Or.inr (Or.inl h.1)
    · exact Or.inr (Or.inr h.1)
  have ho : o ≠ R := by omega
  have keep : ∀ (Q : Nat) (S : Nat → Nat → Prop), Ent σ Q n st S → (Q = R → S i b) → Ent (sU σ R i ((st * 4294967296 + b : Nat) : Int)) Q n st S := by
    intro Q S hE hS j hj
    by_cases q : Q = R
    · by_cases q2 : j = i
      · subst q q2
        exact ⟨st, b, sUv, hb, Nat.le_refl _, fun _ => hS rfl⟩
      · rw [sUnj q2]; exact hE j hj
    · rw [sU_ne q]; exact hE j hj
  refine ⟨m1.congr hc (fun k h1 h2 => sU_ne (by omega)), by rw [sU_ne ho]; exact m2, by rw [sU_ne ho]; exact m3, ⟨by rw [sU_ne ho]; exact m4.1, m4.2.congr (sU_ne (by omega))⟩, by rw [sU_ne ho]; exact m5, keep P _ m6 (fun h => ?_), keep V _ m7 (fun h => ?_), keep W _ m8 (fun h => ?_)⟩
  · rcases hR with h2 | h2 | h2
    · exact h2.2
    · omega
    · omega
  · rcases hR with h2 | h2 | h2
    · omega
    · exact h2.2
    · omega
  · rcases hR with h2 | h2 | h2
    · omega
    · omega
    · exact h2.2
theorem SpE_one {c : cC} (hc : OkC c) (v : Nat → Nat → Nat) {t s : Nat} (hi : iv (v t)) (hv : Vs c s) : SpE c v (t * un c 3 + wy c s) (v t s) := by
  intro t' s' ht' hv' e
  have h1 := wy_lt c s
  have h2 := wy_lt c s'
  have hp : 0 < un c 3 := (un_le hc).1
  have e1 : t = t' := by
    have a1 : (t * un c 3 + wy c s) / un c 3 = t := by rw [Nat.mul_comm, Nat.mul_add_div hp, Nat.div_eq_of_lt h1, Nat.add_zero]
    have a2 : (t' * un c 3 + wy c s') / un c 3 = t' := by rw [Nat.mul_comm, Nat.mul_add_div hp, Nat.div_eq_of_lt h2, Nat.add_zero]
    rw [← a1, e, a2]
  subst e1
  exact hi s s' (hv.lt hc) (hv'.lt hc) (wy_Sm hc hv hv' (by omega))
theorem vP_iv {c : cC} (hc : OkC c) (r p t : Nat) : iv (vP c r p t) := fun s s' hs hs' h => by
  unfold vP
  rw [Hf_iv hc r p _ s s' hs hs' h, ch_iv hc (Hf_iv hc r p _) hs hs' h]
theorem vV_iv {c : cC} (hc : OkC c) (r p t : Nat) : iv (vV c r p t) := fun s s' hs hs' h => mn_iv (Hf_iv hc r p _) hs hs' h
theorem vW_iv {c : cC} (hc : OkC c) (r p t : Nat) : iv (vW c r p t) := fun s s' hs hs' h => mn_iv (Hg_iv hc r p _) hs hs' h
