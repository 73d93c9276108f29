theorem wK_le (z : Int) : 3 ≤ wK z ∧ wK z ≤ 12 := by
  unfold wK
  repeat' split
  all_goals decide
theorem tK_le (b : Nat → Int) (n p : Nat) : tK b n p ≤ 12 := by
  unfold tK
  have := wK_le (wC b p (tE b n p - p))
  repeat' split
  all_goals omega
theorem tK_one {b : Nat → Int} {n p : Nat} (h : tK b n p = 1) : p < n ∧ 48 ≤ b p ∧ b p ≤ 57 ∧ tE b n p - p ≤ 2 := by
  unfold tK at h
  have := wK_le (wC b p (tE b n p - p))
  by_cases q0 : n ≤ p
  · rw [if_pos q0] at h; omega
  rw [if_neg q0] at h
  by_cases q1 : 97 ≤ b p ∧ b p ≤ 122
  · rw [if_pos q1] at h; omega
  rw [if_neg q1] at h
  by_cases q2 : b p = 59
  · rw [if_pos q2] at h; omega
  rw [if_neg q2] at h
  by_cases q3 : 48 ≤ b p ∧ b p ≤ 57 ∧ tE b n p - p ≤ 2 ∧ (tE b n p - p ≤ 1 ∨ b p ≠ 48)
  · exact ⟨by omega, q3.1, q3.2.1, q3.2.2.1⟩
  · rw [if_neg q3] at h; omega
theorem tV_le {b : Nat → Int} {n p : Nat} (h : tK b n p = 1) : tV b n p ≤ 99 := by
  obtain ⟨h1, h2, h3, h4⟩ := tK_one h
  obtain ⟨t1, t2, t3, t4⟩ := tE_p (b := b) h1
  unfold tV
  split
  · omega
  · have := t4 ⟨h2, h3⟩ (p + 1) (by omega) (by omega)
    omega
theorem e_tokenOf {F : Nat} {σ : sM} {b : Nat → Int} {n p : Nat} (hF : 500 ≤ F) (hb : Bt b n) (h1 : ∀ i, i < n → σ 1 i = b i) (hp : p < n) : X4_tokenOf F σ (p : Int) (tE b n p : Int) = some (tK b n p : Int) := by
  have hn := hb.1
  obtain ⟨t1, t2, t3, t4⟩ := tE_p (b := b) hp
  have e1 := e_btw 48 57 hb h1 hp (by decide) (by decide)
  have e2 := e_btw 48 48 hb h1 hp (by decide) (by decide)
  unfold X4_tokenOf tK
  rw [e_btw 97 122 hb h1 hp (by decide) (by decide), bp_some, if_neg (show ¬ n ≤ p by omega)]
  by_cases q1 : 97 ≤ b p ∧ b p ≤ 122
  · rw [b2_t q1, if_neg (show ¬ wi 1 = 0 by decide), if_pos q1, e_wordOf hF hb h1 (by omega) t2 (t3 q1), bp_some]
  · rw [b2_f q1, if_pos (show wi 0 = 0 by decide), if_neg q1, e_btw 59 59 hb h1 hp (by decide) (by decide), bp_some]
    by_cases q2 : b p = 59
    · rw [b2_t (by omega), if_neg (show ¬ wi 1 = 0 by decide), if_pos q2]; rfl
    · rw [b2_f (by omega), if_pos (show wi 0 = 0 by decide), if_neg q2, jn_def, jn_def, e1, e2]
      generalize tE b n p = e at *
      rw [show (e : Int) - (p : Int) = ((e - p : Nat) : Int) by omega, wiN (n := e - p) (by omega)]
      simp only [bp_some]
      by_cases q3 : 48 ≤ b p ∧ b p ≤ 57
      · rw [b2_t q3, if_neg (show ¬ wi 1 = 0 by decide)]
        by_cases q4 : e - p ≤ 1
        · rw [if_pos (by omega), if_neg (by omega), if_neg (by decide), if_pos (by omega)]; rfl
        · rw [if_neg (show ¬ ((e - p : Nat) : Int) ≤ 1 by omega)]
          by_cases q5 : b p = 48
          · rw [b2_t (by omega), if_neg (show ¬ wi 1 = 0 by decide), if_neg (show ¬ wi 1 = 0 by decide), if_neg (show ¬ (48 ≤ b p ∧ b p ≤ 57 ∧ e - p ≤ 2 ∧ (e - p ≤ 1 ∨ b p ≠ 48)) by omega)]
            by_cases q6 : 2 < e - p
            · rw [if_pos (by omega)]; rfl
            · rw [if_neg (by omega), if_pos (by decide)]; rfl
          · rw [b2_f (by omega), if_pos (show wi 0 = 0 by decide)]
            by_cases q6 : 2 < e - p
            · rw [if_pos (by omega), if_neg (by omega)]; rfl
            · rw [if_neg (by omega), if_neg (by decide), if_pos (by omega)]; rfl
      · rw [b2_f q3, if_pos (show wi 0 = 0 by decide), if_neg (show ¬ (48 ≤ b p ∧ b p ≤ 57 ∧ e - p ≤ 2 ∧ (e - p ≤ 1 ∨ b p ≠ 48)) by omega)]
        repeat' split
        all_goals first | rfl | exact absurd (show wi 0 = 0 by decide) ‹_›
theorem e_numberOf {F : Nat} {σ : sM} {b : Nat → Int} {n p : Nat} (hF : 500 ≤ F) (hb : Bt b n) (h1 : ∀ i, i < n → σ 1 i = b i) (h : tK b n p = 1) : X4_numberOf F σ (p : Int) (tE b n p : Int) = some (tV b n p : Int) := by
  have hn := hb.1
  obtain ⟨hp, k2, k3, k4⟩ := tK_one h
  obtain ⟨t1, t2, t3, t4⟩ := tE_p (b := b) hp
  unfold X4_numberOf tV
  have t5 := t4 ⟨k2, k3⟩
  generalize tE b n p = e at *
  obtain ⟨F, rfl⟩ : ∃ f, F = f + 3 := ⟨F - 3, by omega⟩
  rw [lp_succ]
  simp only []
  rw [wiN (by omega), wiN (by omega), if_neg (by omega), if_neg (by omega), if_neg (by omega), if_pos (by omega), Int.toNat_natCast, h1 p hp, lp_succ]
  simp only []
  rw [show (p : Int) + 1 = ((p + 1 : Nat) : Int) from rfl, wiN (n := p + 1) (by omega), if_neg (by omega)]
  by_cases q : e - p ≤ 1
  · rw [if_pos (by omega), if_pos q]
    congr 1
    omega
  · have k5 := t5 (p + 1) (by omega) (by omega)
    rw [if_neg (by omega), if_neg (by omega), if_pos (by omega), Int.toNat_natCast, h1 (p + 1) (by omega), lp_succ]
    simp only []
    rw [show ((p + 1 : Nat) : Int) + 1 = ((p + 2 : Nat) : Int) from rfl, wiN (n := p + 2) (by omega), if_neg (by omega), if_pos (by omega), if_neg q]
    congr 1
    omega
/-- the tokens in their order: where each begins, its kind, its number -/
def pP (b : Nat → Int) (n : Nat) : Nat → Nat
  | 0 => rn qS b n 0
  | j + 1 => rn qS b n (tE b n (pP b n j))
def Tk (b : Nat → Int) (n j : Nat) : Nat := tK b n (pP b n j)
def Tv (b : Nat → Int) (n j : Nat) : Nat := tV b n (pP b n j)
def ArJ (b : Nat → Int) (n N : Nat) (σ : sM) : Prop := ∀ j, j < N → pP b n j < n ∧ σ 23 j = (Tk b n j : Int) ∧ (Tk b n j = 1 → σ 24 j = (Tv b n j : Int)) ∧ σ 25 j = (pP b n j : Int)
def Ar (b : Nat → Int) (n N : Nat) (σ : sM) : Prop := N ≤ n ∧ pP b n N = n ∧ σ 23 N = 0 ∧ σ 25 N = (n : Int) ∧ ArJ b n N σ
theorem e_cutUp {F : Nat} {σ : sM} {b : Nat → Int} {n : Nat} (hF : 500 ≤ F) (hb : Bt b n) (h1 : ∀ i, i < n → σ 1 i = b i) (h2 : σ 22 5 = (n : Int)) : ∃ σ1 N, X4_cutUp F σ = some (0, σ1) ∧ (∀ k, k ≠ 23 → k ≠ 24 → k ≠ 25 → σ1 k = σ k) ∧ Ar b n N σ1 := by
  have hn := hb.1
  unfold X4_cutUp
  refine lp_ms (fun y : sM × Int × Int × Int => ∃ N i r : Nat, y.2.1 = (N : Int) ∧ y.2.2.1 = (i : Int) ∧ y.2.2.2 = (r : Int) ∧ N ≤ i ∧ r ≤ i ∧ i ≤ n ∧ rn qS b n i = pP b n N ∧ (∀ k, k ≠ 23 → k ≠ 24 → k ≠ 25 → y.1 k = σ k) ∧ ArJ b n N y.1) (fun y => 400 - y.2.2.2.toNat) (fun (o : Option (Int × sM)) => ∃ (σ1 : sM) (N : Nat), o = some (0, σ1) ∧ (∀ k, k ≠ 23 → k ≠ 24 → k ≠ 25 → σ1 k = σ k) ∧ Ar b n N σ1) (fun y hI K => ?_) F _ ⟨0, 0, 0, rfl, rfl, rfl, by omega, by omega, by omega, rfl, fun _ _ _ _ => rfl, fun j hj => absurd hj (by omega)⟩ (by simp only []; omega)
  obtain ⟨τ, cn, at', rd⟩ := y
  obtain ⟨N, i, r, hN, hi, hr, z1, z2, z3, z4, hf, ha⟩ := hI
  simp only [] at hN hi hr hf ha ⊢
  subst hN hi hr
  have t1 : ∀ i, i < n → τ 1 i = b i := fun i hi => by rw [hf 1 (by omega) (by omega) (by omega)]; exact h1 i hi
  have t2 : τ 22 5 = (n : Int) := by rw [hf 22 (by omega) (by omega) (by omega)]; exact h2
  rw [jn_def, t2, wiN (n := n) (by omega), wiN (n := N) (by omega), wiN (n := i) (by omega), wiN (n := r) (by omega), Int.toNat_natCast N, Int.toNat_natCast i]
  by_cases q : n ≤ i
  · right
    have hin : i = n := by omega
    have fin : ∃ (σ1 : sM) (N' : Nat), (if 0 ≤ (N : Int) ∧ (N : Int) < 401 then if 0 ≤ (N : Int) ∧ (N : Int) < 401 then nm (sU (sU τ 23 N 0) 25 N ((sU τ 23 N 0) 22 5)) (fun σ7 => some ((0 : Int), σ7)) else none else none) = some (0, σ1) ∧ (∀ k, k ≠ 23 → k ≠ 24 → k ≠ 25 → σ1 k = σ k) ∧ Ar b n N' σ1 := by
      rw [if_pos (by omega), if_pos (by omega), nm_def]
      refine ⟨_, N, rfl, fun k k1 k2 k3 => ?_, by omega, ?_, ?_, ?_, fun j hj => ?_⟩
      · rw [sU_ne k3, sU_ne k1]; exact hf k k1 k2 k3
      · rw [← z4, rn_e (Or.inl q)]; exact hin
      · rw [sU_ne (by omega), sUv]
      · rw [sUv, sU_ne (by omega)]; exact t2
      · rw [sU_ne (by omega), sUnj (by omega), sU_ne (k' := 24) (by omega), sU_ne (k' := 24) (by omega), sUnj (by omega), sU_ne (k' := 25) (by omega)]
        exact ha j hj
    by_cases y1 : 400 ≤ r
    · rw [if_pos (by omega)]; exact fin
    · rw [if_neg (by omega), if_pos (by omega)]; exact fin
  · left
    rw [if_neg (by omega), if_neg (show ¬ (n : Int) ≤ (i : Int) by omega), if_neg (by omega), if_pos (by omega), jn_def, t1 i (by omega)]
    have hbi := hb.2 i (by omega)
    rw [wi_id (z := b i) (by omega) (by omega)]
    by_cases y1 : b i = 32
    · rw [if_pos y1]
      refine ⟨_, ⟨N, i + 1, r + 1, rfl, rfl, rfl, by omega, by omega, by omega, ?_, hf, ha⟩, ?_, rfl⟩
      · rw [← z4]; exact (rn_s (by omega) (qS_e.2 y1)).symm
      · simp only []; omega
    · have hp : pP b n N = i := by rw [← z4]; exact rn_e (Or.inr (fun h => y1 (qS_e.1 h)))
      have hi' : i < n := by omega
      obtain ⟨u1, u2, -, -⟩ := tE_p (b := b) hi'
      have hk := tK_le b n i
      rw [if_neg y1, e_end hF hb t1 t2 hi', bp_some, e_tokenOf hF hb t1 hi', bp_some, if_pos (show 0 ≤ (N : Int) ∧ (N : Int) < 401 by omega), if_pos (show 0 ≤ (N : Int) ∧ (N : Int) < 401 by omega), sUv, jn_def, wiN (n := tK b n i) (by omega)]
      have key : ∀ v : Int, (tK b n i = 1 → v = (tV b n i : Int)) → ∃ x' : sM × Int × Int × Int, (∃ N i r : Nat, x'.2.1 = (N : Int) ∧ x'.2.2.1 = (i : Int) ∧ x'.2.2.2 = (r : Int) ∧ N ≤ i ∧ r ≤ i ∧ i ≤ n ∧ rn qS b n i = pP b n N ∧ (∀ k, k ≠ 23 → k ≠ 24 → k ≠ 25 → x'.1 k = σ k) ∧ ArJ b n N x'.1) ∧ 400 - x'.2.2.2.toNat < 400 - ((r : Int)).toNat ∧ (if 0 ≤ (N : Int) ∧ (N : Int) < 401 then if 0 ≤ (N : Int) ∧ (N : Int) < 401 then nm (sU (sU (sU τ 23 N (tK b n i : Int)) 24 N v) 25 N (i : Int)) (fun σ26 => K (σ26, (N : Int) + 1, (tE b n i : Int), (r : Int) + 1)) else none else none) = K x' := by
        intro v hv
        rw [if_pos (by omega), if_pos (by omega), nm_def]
        refine ⟨_, ⟨N + 1, tE b n i, r + 1, rfl, rfl, rfl, by omega, by omega, u2, ?_, fun k k1 k2 k3 => ?_, fun j hj => ?_⟩, ?_, rfl⟩
        · show _ = rn qS b n (tE b n (pP b n N)); rw [hp]
        · simp only []; rw [sU_ne k3, sU_ne k2, sU_ne k1]; exact hf k k1 k2 k3
        · simp only []
          by_cases w : j = N
          · subst w
            refine ⟨by omega, ?_, fun h => ?_, ?_⟩
            · rw [sU_ne (by omega), sU_ne (by omega), sUv]; unfold Tk; rw [hp]
            · unfold Tk at h; unfold Tv; rw [hp] at h ⊢
              rw [sU_ne (by omega), sUv]; exact hv h
            · rw [sUv, hp]
          · rw [sU_ne (k' := 23) (by omega), sU_ne (k' := 23) (by omega), sUnj (k' := 23) w, sU_ne (k' := 24) (by omega), sUnj (k' := 24) w, sU_ne (k' := 24) (by omega), sUnj (k' := 25) w, sU_ne (k' := 25) (by omega), sU_ne (k' := 25) (by omega)]
            exact ha j (by omega)
        · simp only []; omega
      by_cases y2 : tK b n i = 1
      · rw [if_neg (by omega), e_numberOf hF hb (fun i hi => by rw [sU_ne (by omega)]; exact t1 i hi) y2, bp_some]
        exact key _ (fun _ => rfl)
      · rw [if_pos (by omega)]
        exact key _ (fun h => absurd h y2)
