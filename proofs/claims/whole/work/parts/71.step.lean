/-- the class's reader stands at token k -/
def Cq (b : Nat → Int) (n N k : Nat) (σ : sM) : Prop := Ar b n N σ ∧ k ≤ N ∧ σ 22 6 = (k : Int) ∧ σ 22 7 = (Tk b n k : Int) ∧ (Tk b n k = 1 → σ 22 8 = (Tv b n k : Int))
theorem Tk_le (b : Nat → Int) (n k : Nat) : Tk b n k ≤ 12 := tK_le _ _ _
theorem Tv_le {b : Nat → Int} {n k : Nat} (h : Tk b n k = 1) : Tv b n k ≤ 99 := tV_le h
theorem Ar.end {b : Nat → Int} {n N : Nat} {σ : sM} (h : Ar b n N σ) : Tk b n N = 0 := by
  unfold Tk tK; rw [if_pos (by rw [h.2.1]; exact Nat.le_refl _)]
theorem Cq.lt {b : Nat → Int} {n N k : Nat} {σ : sM} (h : Cq b n N k σ) (hk : Tk b n k ≠ 0) : k < N := by
  by_cases q : k = N
  · subst q; exact absurd h.1.end hk
  · have := h.2.1; omega
theorem Ar.congr {b : Nat → Int} {n N : Nat} {σ σ' : sM} (h : Ar b n N σ) (h1 : σ' 23 = σ 23) (h2 : σ' 24 = σ 24) (h3 : σ' 25 = σ 25) : Ar b n N σ' := by
  unfold Ar ArJ at *; rw [h1, h2, h3]; exact h
theorem Cq.set {b : Nat → Int} {n N k : Nat} {σ : sM} (h : Cq b n N k σ) {m : Nat} (j : Nat) (v : Int) (hm : m < 22 ∨ 25 < m) : Cq b n N k (sU σ m j v) := by
  obtain ⟨h1, h2, h3⟩ := h
  refine ⟨h1.congr (sU_ne (by omega)) (sU_ne (by omega)) (sU_ne (by omega)), h2, ?_⟩
  rw [sU_ne (k' := 22) (by omega)]
  exact h3
theorem Ar.plc {b : Nat → Int} {n N k : Nat} {σ : sM} (h : Ar b n N σ) (hk : k ≤ N) : σ 25 k = (pP b n k : Int) := by
  by_cases q : k = N
  · subst q; rw [h.2.2.2.1, h.2.1]
  · exact (h.2.2.2.2 k (by omega)).2.2.2
theorem Ar.tok {b : Nat → Int} {n N k : Nat} {σ : sM} (h : Ar b n N σ) (hk : k ≤ N) : σ 23 k = (Tk b n k : Int) ∧ (Tk b n k = 1 → σ 24 k = (Tv b n k : Int)) := by
  by_cases q : k = N
  · subst q; rw [h.2.2.1, h.end]; exact ⟨rfl, fun z => by omega⟩
  · exact ⟨(h.2.2.2.2 k (by omega)).2.1, (h.2.2.2.2 k (by omega)).2.2.1⟩
theorem e_look4 {b : Nat → Int} {n N k : Nat} {σ : sM} (hb : Bt b n) (h : Ar b n N σ) (hk : k ≤ N) : ∃ σ1, X4_lookAt σ (k : Int) = some (0, σ1) ∧ Cq b n N k σ1 ∧ ∀ m, m ≠ 22 → σ1 m = σ m := by
  have hn := hb.1
  have hN := h.1
  obtain ⟨t1, t2⟩ := h.tok hk
  unfold X4_lookAt
  rw [wiN (by omega), if_neg (by omega), if_neg (by omega), if_pos (by omega), if_pos (by omega), Int.toNat_natCast, nm_def]
  refine ⟨_, rfl, ⟨h.congr ?_ ?_ ?_, hk, ?_, ?_, fun z => ?_⟩, fun m hm => ?_⟩
  · rw [sU_ne (by omega), sU_ne (by omega), sU_ne (by omega)]
  · rw [sU_ne (by omega), sU_ne (by omega), sU_ne (by omega)]
  · rw [sU_ne (by omega), sU_ne (by omega), sU_ne (by omega)]
  · rw [sUnj (by omega), sUnj (by omega), sUv]
  · rw [sUnj (by omega), sUv, sU_ne (by omega)]; exact t1
  · rw [sUv, sU_ne (by omega), sU_ne (by omega)]; exact t2 z
  · rw [sU_ne hm, sU_ne hm, sU_ne hm]
theorem e_nxt {b : Nat → Int} {n N k : Nat} {σ : sM} (hb : Bt b n) (h : Cq b n N k σ) (hk : Tk b n k ≠ 0) : ∃ σ1, X4_lookAt σ (σ 22 6 + 1) = some (0, σ1) ∧ Cq b n N (k + 1) σ1 ∧ ∀ m, m ≠ 22 → σ1 m = σ m := by
  rw [h.2.2.1]
  exact e_look4 (k := k + 1) hb h.1 (h.lt hk)
theorem e_take1 {b : Nat → Int} {n N k K : Nat} {σ : sM} (hb : Bt b n) (h : Cq b n N k σ) (hK : K ≠ 0) (hk : Tk b n k = K) : ∃ σ1, X4_take σ (K : Int) = some (1, σ1) ∧ Cq b n N (k + 1) σ1 ∧ ∀ m, m ≠ 22 → σ1 m = σ m := by
  obtain ⟨σ1, e, r⟩ := e_nxt hb h (by omega)
  refine ⟨σ1, ?_, r⟩
  unfold X4_take
  rw [h.2.2.2.1, hk, if_pos rfl, e, bn_some]
theorem e_take0 {b : Nat → Int} {n N k K : Nat} {σ : sM} (h : Cq b n N k σ) (hK : K < 100) (hk : Tk b n k ≠ K) : X4_take σ (K : Int) = some (0, σ) := by
  have := Tk_le b n k
  unfold X4_take
  rw [h.2.2.2.1, wiN (by omega), wiN (by omega), if_neg (by omega)]
theorem e_isNum {b : Nat → Int} {n N k : Nat} {σ : sM} (h : Cq b n N k σ) {lo hi : Int} (h1 : wi lo = lo) (h2 : wi hi = hi) : X4_isNumber σ lo hi = some (b2 (Tk b n k = 1 ∧ lo ≤ (Tv b n k : Int) ∧ (Tv b n k : Int) ≤ hi)) := by
  have := Tk_le b n k
  unfold X4_isNumber
  rw [h.2.2.2.1, wiN (by omega), h1, h2]
  by_cases q : Tk b n k = 1
  · have := Tv_le q
    rw [if_neg (by omega), h.2.2.2.2 q, wiN (by omega)]
    by_cases q1 : (Tv b n k : Int) < lo
    · rw [if_pos q1, b2_f (by omega)]
    · rw [if_neg q1]
      by_cases q2 : hi < (Tv b n k : Int)
      · rw [if_pos q2, b2_f (by omega)]
      · rw [if_neg q2, b2_t (by omega)]
  · rw [if_pos (by omega), b2_f (by omega)]
/-- the reference's reader stands at token k -/
def Rf (b : Nat → Int) (n k : Nat) (τ : sM) : Prop := Rt b n τ ∧ τ 55 16 = -9 ∧ Rk b n (pP b n k) τ
def fQq (τ x : sM) : Prop := (∀ k, k ≠ 55 → x k = τ k) ∧ ∀ j, j < 12 ∨ 17 ≤ j → x 55 j = τ 55 j
theorem fQq.refl (τ : sM) : fQq τ τ := ⟨fun _ _ => rfl, fun _ _ => rfl⟩
theorem fQq.trans {a b d : sM} (h : fQq a b) (h2 : fQq b d) : fQq a d := ⟨fun k hk => by rw [h2.1 k hk, h.1 k hk], fun j a1 => by rw [h2.2 j a1, h.2 j a1]⟩
theorem fR.qQ {τ x : sM} (h : fR τ x) : fQq τ x := ⟨h.1, fun j hj => h.2 j (by omega) (by omega) (by omega) (by omega)⟩
/-- what reading may change in the reference -/
def fD (τ x : sM) : Prop := ∀ k j, (k < 55 ∨ k = 56 ∨ 66 ≤ k ∨ k = 55 ∧ (j < 12 ∨ 17 ≤ j) ∨ 57 ≤ k ∧ k ≤ 60 ∧ j ≠ 1 ∨ k = 61 ∧ j < 56 ∨ 62 ≤ k ∧ k ≤ 63 ∧ j < 3 ∨ 64 ≤ k ∧ k ≤ 65 ∧ j < 8) → x k j = τ k j
theorem fD.refl (τ : sM) : fD τ τ := fun _ _ _ => rfl
theorem fD.trans {a b d : sM} (h : fD a b) (h2 : fD b d) : fD a d := fun k j hk => by rw [h2 k j hk, h k j hk]
theorem fQq.dD {τ x : sM} (h : fQq τ x) : fD τ x := fun k j hk => by
  by_cases q : k = 55
  · subst q; exact h.2 j (by omega)
  · rw [h.1 k q]
theorem fD.set {τ x : sM} (h : fD τ x) {k j : Nat} (v : Int) (hk : ¬ (k < 55 ∨ k = 56 ∨ 66 ≤ k ∨ k = 55 ∧ (j < 12 ∨ 17 ≤ j) ∨ 57 ≤ k ∧ k ≤ 60 ∧ j ≠ 1 ∨ k = 61 ∧ j < 56 ∨ 62 ≤ k ∧ k ≤ 63 ∧ j < 3 ∨ 64 ≤ k ∧ k ≤ 65 ∧ j < 8)) : fD τ (sU x k j v) := fun k' j' h' => by
  by_cases q : k' = k
  · subst q
    by_cases q2 : j' = j
    · subst q2; exact absurd h' hk
    · rw [sUnj q2]; exact h k' j' h'
  · rw [sU_ne q]; exact h k' j' h'
theorem Rf.set {b : Nat → Int} {n k : Nat} {τ : sM} (h : Rf b n k τ) {m : Nat} (j : Nat) (v : Int) (hm : m ≠ 55 ∧ m ≠ 56) : Rf b n k (sU τ m j v) := by
  unfold Rf Rt Rk at *
  rw [sU_ne (k' := 55) (by omega), sU_ne (k' := 56) (by omega)]
  exact h
theorem pP_le (b : Nat → Int) (n : Nat) : ∀ k, pP b n k ≤ n
  | 0 => (rn_p qS b n _ 0 rfl (by omega)).2.1
  | k + 1 => by
    have ih := pP_le b n k
    show rn qS b n (tE b n (pP b n k)) ≤ n
    by_cases q : pP b n k < n
    · exact (rn_p qS b n _ _ rfl (tE_p (b := b) q).2.1).2.1
    · have e : tE b n (pP b n k) = pP b n k := by unfold tE; rw [if_pos (by omega)]
      rw [e, rn_e (Or.inl (by omega))]; exact ih
theorem tE_le {b : Nat → Int} {n p : Nat} (h : p ≤ n) : tE b n p ≤ n := by
  by_cases q : p < n
  · exact (tE_p (b := b) q).2.1
  · unfold tE; rw [if_pos (by omega)]; exact h
theorem f_due1 {F : Nat} {b : Nat → Int} {n k : Nat} {τ : sM} (hF : 500 ≤ F) (hb : Bt b n) (h : Rf b n k τ) : ∃ x, X9_due F τ 1 = some (τ 55 15, x) ∧ Rf b n (k + 1) x ∧ fQq τ x := by
  obtain ⟨h1, h2, h3⟩ := h
  obtain ⟨x, e, f, r⟩ := f_read hF hb h1 h3.1 (tE_le (pP_le b n k))
  refine ⟨x, ?_, ⟨h1.fR f, ?_, r⟩, f.qQ⟩
  · unfold X9_due
    rw [h2, if_neg (by decide), if_neg (by decide), e, bn_some]
  · rw [f.2 16 (by omega) (by omega) (by omega) (by omega)]; exact h2
theorem f_due0 {F : Nat} {b : Nat → Int} {n k : Nat} {τ : sM} (h : Rf b n k τ) : ∃ x, X9_due F τ 0 = some (τ 55 15, x) ∧ x 55 16 = (pP b n k : Int) ∧ fQq τ x := by
  obtain ⟨h1, h2, h3⟩ := h
  unfold X9_due
  rw [h2, if_neg (by decide), if_pos (by decide)]
  refine ⟨_, rfl, ?_, fun m hm => sU_ne hm, fun j hj => sUnj (by omega)⟩
  rw [sUv]; exact h3.2.1
theorem flt {b : Nat → Int} {n k : Nat} {τ : sM} (hb : Bt b n) (h : τ 55 16 = (pP b n k : Int)) : ¬ wi (τ 55 16) = -9 := by
  have := pP_le b n k
  have := hb.1
  rw [h, wiN (by omega)]; omega
theorem f_dueF {F : Nat} {b : Nat → Int} {n k : Nat} {τ : sM} (hb : Bt b n) (h : τ 55 16 = (pP b n k : Int)) (a : Int) : X9_due F τ a = some (τ 55 15, τ) := by
  unfold X9_due
  rw [if_pos (flt hb h)]
theorem mpK_i {K : Nat} (h : K ≤ 12) : (mpK K = 11 ↔ K = 2) ∧ (mpK K = 10 ↔ K = 1) ∧ (mpK K = 3 ↔ K = 6) ∧ (mpK K = 4 ↔ K = 7) ∧ (mpK K = 5 ↔ K = 8) ∧ (mpK K = 0 ↔ K = 0) ∧ mpK K ≤ 12 := by
  unfold mpK
  by_cases q0 : K = 0
  · rw [if_pos q0]; omega
  rw [if_neg q0]
  by_cases q1 : K = 1
  · rw [if_pos q1]; omega
  rw [if_neg q1]
  by_cases q2 : K = 2
  · rw [if_pos q2]; omega
  rw [if_neg q2]
  by_cases q3 : K = 3
  · rw [if_pos q3]; omega
  rw [if_neg q3]
  omega
theorem Rf.val {b : Nat → Int} {n k : Nat} {τ : sM} (h : Rf b n k τ) : ∃ v : Nat, τ 55 15 = (v : Int) ∧ v ≤ 999 ∧ (Tk b n k = 1 → v = Tv b n k) := h.2.2.2.2.2
theorem Rf.knd {b : Nat → Int} {n k : Nat} {τ : sM} (h : Rf b n k τ) : τ 55 14 = (mpK (Tk b n k) : Int) := h.2.2.2.2.1
theorem f_numY {F : Nat} {b : Nat → Int} {n k : Nat} {τ : sM} (hF : 500 ≤ F) (hb : Bt b n) (h : Rf b n k τ) {lo hi : Int} (h1 : wi lo = lo) (h2 : wi hi = hi) (hg : Tk b n k = 1 ∧ lo ≤ (Tv b n k : Int) ∧ (Tv b n k : Int) ≤ hi) : ∃ x, X9_number F τ lo hi = some ((Tv b n k : Int), x) ∧ Rf b n (k + 1) x ∧ fQq τ x := by
  obtain ⟨v, v1, v2, v3⟩ := h.val
  have v4 := v3 hg.1
  subst v4
  obtain ⟨x, e, r⟩ := f_due1 hF hb h
  refine ⟨x, ?_, r⟩
  unfold X9_number
  rw [h.knd, hg.1, jn_def, jn_def, if_neg (by decide), v1, f_in τ _ lo hi (wiN (by omega)) h1 h2, bp_some, b2_t hg.2, if_neg (by decide)]
  show bn (X9_due F τ 1) (fun r3 σ5 => some (r3, σ5)) = _
  rw [e, bn_some, v1]
theorem f_numN {F : Nat} {b : Nat → Int} {n k : Nat} {τ : sM} (h : Rf b n k τ) {lo hi : Int} (h1 : wi lo = lo) (h2 : wi hi = hi) (hg : ¬ (Tk b n k = 1 ∧ lo ≤ (Tv b n k : Int) ∧ (Tv b n k : Int) ≤ hi)) : ∃ v x, X9_number F τ lo hi = some (v, x) ∧ x 55 16 = (pP b n k : Int) ∧ fQq τ x := by
  obtain ⟨v, v1, v2, v3⟩ := h.val
  obtain ⟨x, e, r⟩ := f_due0 (F := F) h
  refine ⟨(v : Int), x, ?_, r⟩
  have hk := Tk_le b n k
  have hm := mpK_i hk
  unfold X9_number
  rw [h.knd, jn_def, jn_def, wiN (by omega)]
  by_cases q : Tk b n k = 1
  · have v4 := v3 q
    rw [if_neg (by omega), v1, f_in τ _ lo hi (wiN (by omega)) h1 h2, bp_some, b2_f (by omega), if_pos (by decide)]
    show bn (X9_due F τ 0) (fun r3 σ5 => some (r3, σ5)) = _
    rw [e, bn_some, v1]
  · rw [if_pos (by omega)]
    show bn (X9_due F τ 0) (fun r3 σ5 => some (r3, σ5)) = _
    rw [e, bn_some, v1]
theorem f_numF {F : Nat} {b : Nat → Int} {n k : Nat} {τ : sM} (hb : Bt b n) (h : τ 55 16 = (pP b n k : Int)) (lo hi : Int) : X9_number F τ lo hi = some (τ 55 15, τ) := by
  have e : ∀ a, bn (X9_due F τ a) (fun r3 σ5 => some (r3, σ5)) = some (τ 55 15, τ) := fun a => by rw [f_dueF hb h, bn_some]
  unfold X9_number X9_in
  rw [jn_def, jn_def]
  split
  · exact e 0
  · split
    · rw [bp_some]; split
      · exact e 0
      · exact e 1
    · split
      · rw [bp_some]; split
        · exact e 0
        · exact e 1
      · rw [bp_some]; split
        · exact e 0
        · exact e 1
/-- the item's last due: a stop -/
def zz (F : Nat) (q7 : sM) : Option (Int × sM) := jn (fun q9 : Int => bn (X9_due F q7 q9) (fun r11 σ13 => some (0, σ13))) (fun K10 => if ¬ wi (q7 55 14) = 11 then K10 0 else K10 1)
theorem zzY {F : Nat} {b : Nat → Int} {n k : Nat} {τ : sM} (hF : 500 ≤ F) (hb : Bt b n) (h : Rf b n k τ) (hg : Tk b n k = 2) : ∃ x, zz F τ = some (0, x) ∧ Rf b n (k + 1) x ∧ fQq τ x := by
  obtain ⟨x, e, r⟩ := f_due1 hF hb h
  refine ⟨x, ?_, r⟩
  unfold zz
  rw [h.knd, hg, jn_def, if_neg (by decide)]
  show bn (X9_due F τ 1) (fun r3 σ5 => some (0, σ5)) = _
  rw [e, bn_some]
theorem zzN {F : Nat} {b : Nat → Int} {n k : Nat} {τ : sM} (h : Rf b n k τ) (hg : ¬ Tk b n k = 2) : ∃ x, zz F τ = some (0, x) ∧ x 55 16 = (pP b n k : Int) ∧ fQq τ x := by
  obtain ⟨x, e, r⟩ := f_due0 (F := F) h
  refine ⟨x, ?_, r⟩
  have hk := Tk_le b n k
  have hm := mpK_i hk
  unfold zz
  rw [h.knd, jn_def, wiN (by omega), if_pos (by omega)]
  show bn (X9_due F τ 0) (fun r3 σ5 => some (0, σ5)) = _
  rw [e, bn_some]
theorem zzF {F : Nat} {b : Nat → Int} {n k : Nat} {τ : sM} (hb : Bt b n) (h : τ 55 16 = (pP b n k : Int)) : zz F τ = some (0, τ) := by
  unfold zz
  have e : ∀ a, bn (X9_due F τ a) (fun r3 σ5 => some ((0 : Int), σ5)) = some (0, τ) := fun a => by rw [f_dueF hb h, bn_some]
  rw [jn_def]
  split
  · exact e 0
  · exact e 1
