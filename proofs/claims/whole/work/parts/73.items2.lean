theorem i_open {b : Nat → Int} {n N k F : Nat} {d : cC} {σ : sM} (hF : 500 ≤ F) (hb : Bt b n) (hc : OkC d) (h : Cq b n N k σ) (hy : RelY d σ) (hk : Tk b n k = 10) (it a : Int) : Out b n N k F d it σ (X4_readItem F σ a) := by
  have hT := h.2.2.2.1
  rw [hk] at hT
  have hI2 : ∀ τ, X9_item F τ (mpK (Tk b n k) : Int) it = itA F τ 7 1 := fun τ => by
    rw [hk]; unfold X9_item; rw [jn_def, show ((mpK 10 : Nat) : Int) = 7 from rfl, if_pos (show ¬ wi 7 = 1 by decide), if_pos (show ¬ wi 7 = 2 by decide), if_pos (show ¬ wi 7 = 6 by decide), jn_def, if_pos (show wi 7 = 7 by decide)]; rfl
  unfold X4_readItem
  rw [hT, if_neg (by decide), if_neg (by decide), if_neg (by decide), if_neg (by decide), if_neg (by decide), if_neg (by decide), if_pos (by decide)]
  by_cases g1 : (Tk b n (k + 1) = 1 ∧ 1 ≤ (Tv b n (k + 1) : Int) ∧ (Tv b n (k + 1) : Int) ≤ 3) ∧ Tk b n (k + 2) = 2
  · obtain ⟨σ1, e, r1, r2, r3, r4⟩ := rdA_Y (j := 8) hb h (by omega) (by decide) (by decide) g1.1 g1.2
    rw [show X4_readOpen σ = rdA 1 3 8 σ from rfl, e, bn_some, if_pos (by decide)]
    refine ⟨σ1, fun m hm => r2 m (by omega) (by omega), Or.inl ⟨rfl, dU d 0 3 (Tv b n (k + 1)), k + 3, r1, ?_, ?_, by omega, fun τ hR hN => ?_⟩⟩
    · obtain ⟨c1, c2, c3, c4, c5, c6, c7, c8, c9⟩ := hc
      refine ⟨c1, c2, c3, ?_, c5, c6, c7, c8, fun i x => ?_⟩
      · have := g1.1.2
        show 1 ≤ Tv b n (k + 1) ∧ Tv b n (k + 1) ≤ 3
        omega
      · show dU d 0 3 (Tv b n (k + 1)) (5 + i) x ≤ 99 ∧ (4 ≤ x → dU d 0 3 (Tv b n (k + 1)) (5 + i) x ≤ 10)
        rw [dU_ne (by omega)]; exact c9 i x
    · obtain ⟨y1, y2, y3, y4, y5, y6, y7, y8⟩ := hy
      have c1 : d 0 0 ≤ 4 := hc.1
      refine ⟨?_, ?_, ?_, ?_, fun w hw => ?_, fun w hw => ?_, fun t ht => ?_, fun i hi x hx => ?_⟩
      · rw [r3 5 (by omega)]; exact y1
      · rw [r3 6 (by omega)]; exact y2
      · rw [r3 7 (by omega)]; exact y3
      · rw [r4]; exact congrArg Int.ofNat dU_v.symm
      · rw [r2 19 (by omega) (by omega)]; exact y5 w hw
      · rw [r2 18 (by omega) (by omega)]; exact y6 w hw
      · rw [r2 20 (by omega) (by omega), r2 21 (by omega) (by omega)]; exact y7 t ht
      · rw [dU_ne (by omega)]
        have hi' : i < d 0 0 := hi
        rw [r2 (14 + i) (by omega) (by omega)]; exact y8 i hi x hx
    · obtain ⟨x, f1, f2, f3⟩ := itA1 hF hb hR 7
      obtain ⟨z, z1, z2, z3, z4, z5⟩ := nzY hF hb (Or.inr rfl) f2 (by decide) (by decide) g1.1 g1.2
      refine ⟨0, z, by rw [hI2, f1, itB_7, z1], f3.dD.trans z2, z3, ?_⟩
      have zz5 : ∀ i, i ≠ 55 → i ≠ 60 → z i = τ i := fun i a1 a2 => by rw [z5 i a1 a2, f3.1 i a1]
      obtain ⟨y1, y2, y3, y4, y5, y6, y7⟩ := hN
      refine ⟨?_, ?_, ?_, ?_, fun w hw => ?_, fun t ht => ?_, fun i hi x hx => ?_⟩
      · rw [zz5 57 (by omega) (by omega)]; exact y1
      · rw [zz5 58 (by omega) (by omega)]; exact y2
      · rw [zz5 59 (by omega) (by omega)]; exact y3
      · rw [z4]; exact congrArg Int.ofNat dU_v.symm
      · rw [zz5 62 (by omega) (by omega), zz5 63 (by omega) (by omega)]; exact y5 w hw
      · rw [zz5 64 (by omega) (by omega), zz5 65 (by omega) (by omega)]; exact y6 t ht
      · rw [dU_ne (by omega), zz5 61 (by omega) (by omega)]; exact y7 i hi x hx
  · have hg : ∃ k', ¬ (Tk b n (k + 1) = 1 ∧ 1 ≤ (Tv b n (k + 1) : Int) ∧ (Tv b n (k + 1) : Int) ≤ 3) ∧ k' = k + 1 ∨ (Tk b n (k + 1) = 1 ∧ 1 ≤ (Tv b n (k + 1) : Int) ∧ (Tv b n (k + 1) : Int) ≤ 3) ∧ ¬ Tk b n (k + 2) = 2 ∧ k' = k + 2 := by
      by_cases g2 : Tk b n (k + 1) = 1 ∧ 1 ≤ (Tv b n (k + 1) : Int) ∧ (Tv b n (k + 1) : Int) ≤ 3
      · exact ⟨k + 2, Or.inr ⟨g2, fun z => g1 ⟨g2, z⟩, rfl⟩⟩
      · exact ⟨k + 1, Or.inl ⟨g2, rfl⟩⟩
    obtain ⟨k', hg⟩ := hg
    obtain ⟨σ1, e, r1, r2⟩ := rdA_N (j := 8) hb h (by omega) (by decide) (by decide) hg
    rw [show X4_readOpen σ = rdA 1 3 8 σ from rfl, e, bn_some, if_pos (by decide)]
    refine ⟨σ1, fun m hm => r2 m (by omega) (by omega), Or.inr ⟨rfl, k', r1, fun τ hR hN => ?_⟩⟩
    obtain ⟨x, f1, f2, f3⟩ := itA1 hF hb hR 7
    obtain ⟨z, z1, z2, z3⟩ := nzN (m := 60) hF hb (Or.inr rfl) f2 (by decide) (by decide) hg
    exact ⟨0, z, by rw [hI2, f1, itB_7, z1], f3.dD.trans z2, z3⟩
/-- three dues: two numbers and a stop, or where the first fails -/
def G3 (b : Nat → Int) (n k : Nat) (l1 h1 l2 h2 : Int) : Prop := (Tk b n k = 1 ∧ l1 ≤ (Tv b n k : Int) ∧ (Tv b n k : Int) ≤ h1) ∧ (Tk b n (k + 1) = 1 ∧ l2 ≤ (Tv b n (k + 1) : Int) ∧ (Tv b n (k + 1) : Int) ≤ h2) ∧ Tk b n (k + 2) = 2
def B3 (b : Nat → Int) (n k : Nat) (l1 h1 l2 h2 : Int) (k' : Nat) : Prop := ¬ (Tk b n k = 1 ∧ l1 ≤ (Tv b n k : Int) ∧ (Tv b n k : Int) ≤ h1) ∧ k' = k ∨ (Tk b n k = 1 ∧ l1 ≤ (Tv b n k : Int) ∧ (Tv b n k : Int) ≤ h1) ∧ ¬ (Tk b n (k + 1) = 1 ∧ l2 ≤ (Tv b n (k + 1) : Int) ∧ (Tv b n (k + 1) : Int) ≤ h2) ∧ k' = k + 1 ∨ (Tk b n k = 1 ∧ l1 ≤ (Tv b n k : Int) ∧ (Tv b n k : Int) ≤ h1) ∧ (Tk b n (k + 1) = 1 ∧ l2 ≤ (Tv b n (k + 1) : Int) ∧ (Tv b n (k + 1) : Int) ≤ h2) ∧ ¬ Tk b n (k + 2) = 2 ∧ k' = k + 2
theorem GB3 (b : Nat → Int) (n k : Nat) (l1 h1 l2 h2 : Int) : G3 b n k l1 h1 l2 h2 ∨ ∃ k', B3 b n k l1 h1 l2 h2 k' := by
  by_cases q1 : Tk b n k = 1 ∧ l1 ≤ (Tv b n k : Int) ∧ (Tv b n k : Int) ≤ h1
  · by_cases q2 : Tk b n (k + 1) = 1 ∧ l2 ≤ (Tv b n (k + 1) : Int) ∧ (Tv b n (k + 1) : Int) ≤ h2
    · by_cases q3 : Tk b n (k + 2) = 2
      · exact Or.inl ⟨q1, q2, q3⟩
      · exact Or.inr ⟨_, Or.inr (Or.inr ⟨q1, q2, q3, rfl⟩)⟩
    · exact Or.inr ⟨_, Or.inr (Or.inl ⟨q1, q2, rfl⟩)⟩
  · exact Or.inr ⟨_, Or.inl ⟨q1, rfl⟩⟩
def ow (F o : Nat) (hi : Int) (x : sM) : Option (Int × sM) := bn (X9_number F x 0 7) (fun r19 σ21 => bn (X9_number F σ21 0 hi) (fun r24 σ26 => if ¬ wi (σ26 55 16) = (-9) then zz F σ26 else if 0 ≤ wi (8 + r19) ∧ wi (8 + r19) < 16 then zz F (sU σ26 o (wi (8 + r19)).toNat r24) else none))
theorem itB_8 (F : Nat) (x : sM) : itB F 8 x = ow F 64 5 x := by
  unfold itB ow
  rw [jn_def, if_pos (show ¬ wi 8 = 1 by decide), if_pos (show ¬ wi 8 = 2 by decide), if_pos (show ¬ wi 8 = 6 by decide), if_pos (show ¬ wi 8 = 7 by decide)]
  refine congrArg (bn _) (funext fun r19 => funext fun σ21 => ?_)
  rw [jn_def, if_neg (show ¬ ¬ wi 8 = 8 by decide)]
  refine congrArg (bn _) (funext fun r24 => funext fun σ26 => ?_)
  rw [jn_def]
  by_cases f : wi (σ26 55 16) = -9
  · rw [if_neg (fun z => z f), if_neg (show ¬ ¬ wi 8 = 8 by decide), if_neg (show ¬ ¬ wi (σ26 55 16) = -9 from fun z => z f)]; rfl
  · rw [if_pos f, if_pos f, if_pos f]; rfl
theorem itB_9 (F : Nat) (x : sM) : itB F 9 x = ow F 65 99 x := by
  unfold itB ow
  rw [jn_def, if_pos (show ¬ wi 9 = 1 by decide), if_pos (show ¬ wi 9 = 2 by decide), if_pos (show ¬ wi 9 = 6 by decide), if_pos (show ¬ wi 9 = 7 by decide)]
  refine congrArg (bn _) (funext fun r19 => funext fun σ21 => ?_)
  rw [jn_def, if_pos (show ¬ wi 9 = 8 by decide)]
  refine congrArg (bn _) (funext fun r24 => funext fun σ26 => ?_)
  rw [jn_def]
  by_cases f : wi (σ26 55 16) = -9
  · rw [if_neg (fun z => z f), if_pos (show ¬ wi 9 = 8 by decide)]; rfl
  · rw [if_pos f]; rfl
theorem owY {F o : Nat} {b : Nat → Int} {n k : Nat} {τ : sM} (hF : 500 ≤ F) (hb : Bt b n) (ho : o = 64 ∨ o = 65) (h : Rf b n k τ) {hi : Int} (h2 : wi hi = hi) (hg : G3 b n k 0 7 0 hi) : ∃ x, ow F o hi τ = some (0, x) ∧ fD τ x ∧ Rf b n (k + 3) x ∧ x o (8 + Tv b n k) = (Tv b n (k + 1) : Int) ∧ (∀ j, j ≠ 8 + Tv b n k → x o j = τ o j) ∧ ∀ i, i ≠ 55 → i ≠ o → x i = τ i := by
  obtain ⟨g1, g2, g3⟩ := hg
  obtain ⟨x, e, r1, r2⟩ := f_numY hF hb h (by decide) (by decide) g1
  obtain ⟨y, e2, s1, s2⟩ := f_numY hF hb r1 (by decide) h2 g2
  obtain ⟨z, e3, t1, t2⟩ := zzY hF hb (s1.set (m := o) (8 + Tv b n k) (Tv b n (k + 1) : Int) (by omega)) g3
  refine ⟨z, ?_, (((r2.trans s2).dD).set _ (by omega)).trans t2.dD, t1, ?_, fun j hj => ?_, fun i a1 a2 => ?_⟩
  · unfold ow
    rw [e, bn_some, e2, bn_some, if_neg (show ¬ ¬ wi (y 55 16) = -9 by rw [s1.2.1]; decide), show (8 : Int) + (Tv b n k : Int) = ((8 + Tv b n k : Nat) : Int) by omega, wiN (by omega), if_pos (by omega), Int.toNat_natCast, e3]
  · rw [t2.1 o (by omega), sUv]
  · rw [t2.1 o (by omega), sUnj hj, s2.1 o (by omega), r2.1 o (by omega)]
  · rw [t2.1 i a1, sU_ne a2, s2.1 i a1, r2.1 i a1]
theorem owN {F o : Nat} {b : Nat → Int} {n k k' : Nat} {τ : sM} (hF : 500 ≤ F) (hb : Bt b n) (ho : o = 64 ∨ o = 65) (h : Rf b n k τ) {hi : Int} (h2 : wi hi = hi) (hg : B3 b n k 0 7 0 hi k') : ∃ x, ow F o hi τ = some (0, x) ∧ fD τ x ∧ x 55 16 = (pP b n k' : Int) := by
  rcases hg with ⟨g1, rfl⟩ | ⟨g1, g2, rfl⟩ | ⟨g1, g2, g3, rfl⟩
  · obtain ⟨v, x, e, r1, r2⟩ := f_numN (F := F) h (by decide) (by decide) g1
    refine ⟨x, ?_, r2.dD, r1⟩
    unfold ow
    rw [e, bn_some, f_numF hb r1, bn_some, if_pos (flt hb r1), zzF hb r1]
  · obtain ⟨x, e, r1, r2⟩ := f_numY hF hb h (by decide) (by decide) g1
    obtain ⟨v, y, e2, s1, s2⟩ := f_numN (F := F) r1 (by decide) h2 g2
    refine ⟨y, ?_, (r2.trans s2).dD, s1⟩
    unfold ow
    rw [e, bn_some, e2, bn_some, if_pos (flt hb s1), zzF hb s1]
  · obtain ⟨x, e, r1, r2⟩ := f_numY hF hb h (by decide) (by decide) g1
    obtain ⟨y, e2, s1, s2⟩ := f_numY hF hb r1 (by decide) h2 g2
    obtain ⟨z, e3, t1, t2⟩ := zzN (F := F) (s1.set (m := o) (8 + Tv b n k) (Tv b n (k + 1) : Int) (by omega)) g3
    refine ⟨z, ?_, (((r2.trans s2).dD).set _ (by omega)).trans t2.dD, t1⟩
    unfold ow
    rw [e, bn_some, e2, bn_some, if_neg (show ¬ ¬ wi (y 55 16) = -9 by rw [s1.2.1]; decide), show (8 : Int) + (Tv b n k : Int) = ((8 + Tv b n k : Nat) : Int) by omega, wiN (by omega), if_pos (by omega), Int.toNat_natCast, e3]
theorem e_owY {o : Nat} {b : Nat → Int} {n N k : Nat} {σ : sM} (hb : Bt b n) (ho : o = 20 ∨ o = 21) (h : Cq b n N k σ) (hk : Tk b n k ≠ 0) {hi : Int} (h2 : wi hi = hi) (hg : G3 b n (k + 1) 0 7 0 hi) : ∃ σ1, X4_readOfWeek o 8 σ hi = some (1, σ1) ∧ Cq b n N (k + 4) σ1 ∧ (∀ m, m ≠ o → m ≠ 22 → σ1 m = σ m) ∧ (∀ j, j ≠ Tv b n (k + 1) → σ1 o j = σ o j) ∧ σ1 o (Tv b n (k + 1)) = (Tv b n (k + 2) : Int) := by
  obtain ⟨g1, g2, g3⟩ := hg
  obtain ⟨x, e, r1, r2⟩ := e_nxt hb h hk
  obtain ⟨y, e2, s1, s2⟩ := e_nxt hb r1 (by omega)
  have hx := r1.2.2.2.2 g1.1
  have hy := s1.2.2.2.2 g2.1
  obtain ⟨z, e3, t1, t2⟩ := e_nxt hb (s1.set (m := o) (Tv b n (k + 1)) (Tv b n (k + 1 + 1) : Int) (by omega)) (by omega)
  obtain ⟨u, e4, u1, u2⟩ := e_take1 (K := 2) hb t1 (by omega) g3
  rw [show ((2 : Nat) : Int) = 2 from rfl] at e4
  refine ⟨u, ?_, u1, fun m a1 a2 => ?_, fun j hj => ?_, ?_⟩
  · unfold X4_readOfWeek
    rw [e, bn_some, e_isNum r1 (by decide) (by decide), bp_some, b2_t g1, if_pos (by decide), e2, bn_some, e_isNum s1 (by decide) h2, bp_some, b2_t g2, if_neg (by decide), hx, wiN (by omega), if_neg (by omega), if_pos (by rw [wiN (n := 8) (by omega)]; omega), if_pos (by omega), Int.toNat_natCast, hy, e3, bn_some, e4, bn_some, if_pos (by decide)]
  · rw [u2 m a2, t2 m a2, sU_ne a1, s2 m a2, r2 m a2]
  · rw [u2 o (by omega), t2 o (by omega), sUnj hj, s2 o (by omega), r2 o (by omega)]
  · rw [u2 o (by omega), t2 o (by omega), sUv]
theorem e_owN {o : Nat} {b : Nat → Int} {n N k k' : Nat} {σ : sM} (hb : Bt b n) (ho : o = 20 ∨ o = 21) (h : Cq b n N k σ) (hk : Tk b n k ≠ 0) {hi : Int} (h2 : wi hi = hi) (hg : B3 b n (k + 1) 0 7 0 hi k') : ∃ σ1, X4_readOfWeek o 8 σ hi = some (0, σ1) ∧ Cq b n N k' σ1 ∧ ∀ m, m ≠ o → m ≠ 22 → σ1 m = σ m := by
  obtain ⟨x, e, r1, r2⟩ := e_nxt hb h hk
  rcases hg with ⟨g1, rfl⟩ | ⟨g1, g2, rfl⟩ | ⟨g1, g2, g3, rfl⟩
  · refine ⟨x, ?_, r1, fun m a1 a2 => r2 m a2⟩
    unfold X4_readOfWeek
    rw [e, bn_some, e_isNum r1 (by decide) (by decide), bp_some, b2_f g1, if_neg (by decide)]
  · obtain ⟨y, e2, s1, s2⟩ := e_nxt hb r1 (by omega)
    refine ⟨y, ?_, s1, fun m a1 a2 => by rw [s2 m a2, r2 m a2]⟩
    unfold X4_readOfWeek
    rw [e, bn_some, e_isNum r1 (by decide) (by decide), bp_some, b2_t g1, if_pos (by decide), e2, bn_some, e_isNum s1 (by decide) h2, bp_some, b2_f g2, if_pos (by decide)]
  · obtain ⟨y, e2, s1, s2⟩ := e_nxt hb r1 (by omega)
    have hx := r1.2.2.2.2 g1.1
    have hy := s1.2.2.2.2 g2.1
    obtain ⟨z, e3, t1, t2⟩ := e_nxt hb (s1.set (m := o) (Tv b n (k + 1)) (Tv b n (k + 1 + 1) : Int) (by omega)) (by omega)
    have e4 := e_take0 (K := 2) t1 (by omega) g3
    rw [show ((2 : Nat) : Int) = 2 from rfl] at e4
    refine ⟨z, ?_, t1, fun m a1 a2 => by rw [t2 m a2, sU_ne a1, s2 m a2, r2 m a2]⟩
    unfold X4_readOfWeek
    rw [e, bn_some, e_isNum r1 (by decide) (by decide), bp_some, b2_t g1, if_pos (by decide), e2, bn_some, e_isNum s1 (by decide) h2, bp_some, b2_t g2, if_neg (by decide), hx, wiN (by omega), if_neg (by omega), if_pos (by rw [wiN (n := 8) (by omega)]; omega), if_pos (by omega), Int.toNat_natCast, hy, e3, bn_some, e4, bn_some, if_pos (by decide)]
