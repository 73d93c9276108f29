def NN : Nat → Nat
  | 0 => 0
  | m + 1 => 4 * (1 + NN m) + 1
def okP (k : Nat) (pa : Nat → Nat) : Prop := ∀ i, i < k → pa i < 3 ∨ pa i = 6
def rwM (k : Nat) (pa : Nat → Nat) (τ : sM) : Prop := ∀ i, i < k → τ 80 i = codM (pa i)
def bsM (n : Nat) (b : Int × (Nat → Nat)) (τ : sM) : Prop := b.1 = -1 ∨ ∀ i, i < n → τ 81 i = (b.2 i : Int)
theorem cpR_0 (τ : sM) : cpR τ 0 = τ := by
  funext k' j'
  unfold cpR sUc
  by_cases q : k' = 81
  · subst q; rw [if_pos rfl]; show (if j' < 0 then _ else τ 81 j') = _; rw [if_neg (by omega)]
  · rw [if_neg q]
section ODO2
variable {c : cC} {p s0 t f n F : Nat} {σ σ0 : sM}
/-- one round at depth k: code j is taken -/
theorem o_round (hc : OkC c) (hM : RelM c σ0) (hT : Tg c p s0 t f σ0) (h0 : ∀ τ, fQ σ0 τ → X9_firstWeek τ = some (f : Int)) (hn : f + n = cK c) (hF : 200 ≤ F) (h59 : σ 59 0 = (cK c : Int)) {k s sum rr j : Nat} {cu : Nat → Nat} {pa : Nat → Nat} {b : Int × (Nat → Nat)} {τ : sM} {S : Int} (hN : Nk c s0 f k s cu) (hk : k < n) (hA : Ap c p s0 t k (f + k) s cu sum rr τ S) (hr : rr ≤ 4) (hf : fQ σ0 τ) (hpa : okP k pa) (hrw : rwM k pa τ) (hbs : bsM n b τ) (hb1 : -1 ≤ b.1) (hb2 : b.1 ≤ 99000 * 10) (hsum : sum ≤ 99000 * 8) (hj : rr ≤ j) (hno : ∀ i, rr ≤ i → i < j → i < 3 ∧ ¬ mE c s i) (hyes : j = 3 ∨ mE c s j) (hj3 : j ≤ 3) :
    (k + 1 < n → ∃ τ', Rch (oB F σ (f : Int)) 1 (τ, b.1, S, (k : Int)) (τ', b.1, (chG c p s0 t cu sum j (f + k) : Int), ((k + 1 : Nat) : Int)) ∧ τ' 80 (k + 1) = -1 ∧ τ' 80 k = (j : Int) ∧ Cl c (chS s j) (chC cu j (f + k)) τ' ∧ (∀ i, i < k → τ' 80 i = τ 80 i) ∧ bsM n b τ' ∧ fQ σ0 τ') ∧
    (k + 1 = n → ∃ τ', Rch (oB F σ (f : Int)) 1 (τ, b.1, S, (k : Int)) (τ', (uPd c (gn c p s0 t) f n 0 (chS s j) (chC cu j (f + k)) (chG c p s0 t cu sum j (f + k)) (paS pa k (chK j)) b).1, (chG c p s0 t cu sum j (f + k) : Int), (k : Int)) ∧ τ' 80 k = (j : Int) ∧ Cl c (chS s j) (chC cu j (f + k)) τ' ∧ (∀ i, i < k → τ' 80 i = τ 80 i) ∧ bsM n (uPd c (gn c p s0 t) f n 0 (chS s j) (chC cu j (f + k)) (chG c p s0 t cu sum j (f + k)) (paS pa k (chK j)) b) τ' ∧ fQ σ0 τ') := by
  have c3 := hc.2.1
  have c5 := hc.2.2.1
  obtain ⟨τ1, C1, r1, q1, f1, u1⟩ := o_undo (p := p) hc hM hT hN (by omega) hA hr hf
  have hf2 : fQ σ0 (sU τ1 80 k (j : Int)) := fun m hm => by rw [sU_ne (by omega)]; exact f1 m hm
  have C2 : Cl c s cu (sU τ1 80 k (j : Int)) := fun w hw => by rw [sU_ne (by omega), sU_ne (by omega)]; exact C1 w hw
  obtain ⟨τ3, C3, r3, q3, f3, e3⟩ := o_eat (p := p) (sum := sum) hc hT hN (show f + k < cK c by omega) C2 hf2 hj3 sUv hyes
  have hgl := gn_le hc p s0 t j (cuE cu j (f + k) j) (f + k)
  have hGl : chG c p s0 t cu sum j (f + k) ≤ 99000 * 9 := by
    unfold chG
    split <;> omega
  have r3k : τ3 80 k = (j : Int) := by rw [r3, sUv]
  have r3i : ∀ i, i ≠ k → τ3 80 i = τ 80 i := fun i hi => by rw [r3, sUnj hi, r1]
  have q3' : τ3 81 = τ 81 := by rw [q3, sU_ne (by omega), q1]
  -- the round up to the act
  have hB : ∀ K8, oB F σ (f : Int) K8 (τ, b.1, S, (k : Int)) = oA F σ (f : Int) K8 (τ, b.1, S, (k : Int)) (f : Int) (τ1, (sum : Int)) (sU τ1 80 k (j : Int)) := by
    intro K8
    unfold oB
    simp only [jn_def]
    rw [if_neg (by rw [wiN (by omega)]; omega), h0 τ hf, bp_some, wiN (n := k) (by omega), if_pos (by omega), Int.toNat_natCast, u1 (oR F σ (f : Int) K8 (τ, b.1, S, (k : Int)) (f : Int))]
    unfold oR
    simp only []
    rw [wiN (n := k) (by omega), if_pos (by omega), if_pos (by omega), Int.toNat_natCast, r1, hA.1, show (rr : Int) - 1 + 1 = (rr : Int) by omega]
    exact o_next (σ0 := σ0) hc hM (by omega) hN.1 (by omega) C1 f1 hj hno (by rcases hyes with h | h; exact Or.inl (by omega); exact Or.inr h) (by omega) _ K8 τ b.1 S _ _
  -- the act
  have hAc : ∀ K8 : sM × Int × Int × Int → Option (Int × sM), oA F σ (f : Int) K8 (τ, b.1, S, (k : Int)) (f : Int) (τ1, (sum : Int)) (sU τ1 80 k (j : Int)) = (if ¬ (k : Int) = wi (((cK c : Int) - (f : Int)) - 1) then if 0 ≤ wi ((k : Int) + 1) ∧ wi ((k : Int) + 1) < 8 then K8 (sU τ3 80 (wi ((k : Int) + 1)).toNat (-1), b.1, (chG c p s0 t cu sum j (f + k) : Int), (k : Int) + 1) else none else if wi (chG c p s0 t cu sum j (f + k) : Int) ≤ wi b.1 then K8 (τ3, b.1, (chG c p s0 t cu sum j (f + k) : Int), (k : Int)) else lp (fun K33 (q32 : sM × Int) => if wi ((cK c : Int) - (f : Int)) ≤ wi q32.2 then K8 (q32.1, (chG c p s0 t cu sum j (f + k) : Int), (chG c p s0 t cu sum j (f + k) : Int), (k : Int)) else if 0 ≤ wi q32.2 ∧ wi q32.2 < 8 then (if ¬ wi (q32.1 80 (wi q32.2).toNat) = 3 then if 0 ≤ wi q32.2 ∧ wi q32.2 < 8 then (if 0 ≤ wi q32.2 ∧ wi q32.2 < 8 then K33 ((sU q32.1 81 (wi q32.2).toNat (q32.1 80 (wi q32.2).toNat)), q32.2 + 1) else none) else none else (if 0 ≤ wi q32.2 ∧ wi q32.2 < 8 then K33 ((sU q32.1 81 (wi q32.2).toNat 6), q32.2 + 1) else none)) else none) F (τ3, 0)) := by
    intro K8
    unfold oA
    simp only [jn_def]
    rw [wiN (n := k) (by omega)]
    simp only [if_pos (show 0 ≤ (k : Int) ∧ (k : Int) < 8 by omega), Int.toNat_natCast]
    rw [if_pos (by rw [sUv, wiN (by omega)]; omega)]
    have e4 := e3 (fun q27 => if ¬ (k : Int) = wi (((σ 59 0) - (f : Int)) - 1) then if 0 ≤ wi ((k : Int) + 1) ∧ wi ((k : Int) + 1) < 8 then K8 ((sU q27.1 80 (wi ((k : Int) + 1)).toNat (-1)), b.1, (sum : Int) + q27.2, (k : Int) + 1) else none else if wi ((sum : Int) + q27.2) ≤ wi b.1 then K8 (q27.1, b.1, (sum : Int) + q27.2, (k : Int)) else lp (fun K33 (q32 : sM × Int) => if wi ((σ 59 0) - (f : Int)) ≤ wi q32.2 then K8 (q32.1, (sum : Int) + q27.2, (sum : Int) + q27.2, (k : Int)) else if 0 ≤ wi q32.2 ∧ wi q32.2 < 8 then (if ¬ wi (q32.1 80 (wi q32.2).toNat) = 3 then if 0 ≤ wi q32.2 ∧ wi q32.2 < 8 then (if 0 ≤ wi q32.2 ∧ wi q32.2 < 8 then K33 ((sU q32.1 81 (wi q32.2).toNat (q32.1 80 (wi q32.2).toNat)), q32.2 + 1) else none) else none else (if 0 ≤ wi q32.2 ∧ wi q32.2 < 8 then K33 ((sU q32.1 81 (wi q32.2).toNat 6), q32.2 + 1) else none)) else none) F (q27.1, 0))
    simp only [if_pos (show 0 ≤ (k : Int) ∧ (k : Int) < 8 by omega)] at e4
    rw [e4]
    simp only [h59, show (sum : Int) + ((chG c p s0 t cu sum j (f + k) : Int) - (sum : Int)) = (chG c p s0 t cu sum j (f + k) : Int) by omega]
  constructor
  · intro hk1
    refine ⟨sU τ3 80 (k + 1) (-1), Rch.one (fun K8 => ?_), sUv, by rw [sUnj (by omega)]; exact r3k, fun w hw => by rw [sU_ne (by omega), sU_ne (by omega)]; exact C3 w hw, fun i hi => by rw [sUnj (by omega)]; exact r3i i (by omega), ?_, fun m hm => by rw [sU_ne (by omega)]; exact f3 m hm⟩
    · rw [hB K8, hAc K8, if_pos (by rw [wi_id (by omega) (by omega)]; omega), show (k : Int) + 1 = ((k + 1 : Nat) : Int) by omega, wiN (n := k + 1) (by omega), if_pos (by omega), Int.toNat_natCast]
    · rcases hbs with y | y
      · exact Or.inl y
      · exact Or.inr (fun i hi => by rw [sU_ne (by omega), q3']; exact y i hi)
  · intro hk1
    have e0 : uPd c (gn c p s0 t) f n 0 (chS s j) (chC cu j (f + k)) (chG c p s0 t cu sum j (f + k)) (paS pa k (chK j)) b = if b.1 < (chG c p s0 t cu sum j (f + k) : Int) then ((chG c p s0 t cu sum j (f + k) : Int), paS pa k (chK j)) else b := rfl
    rw [e0]
    by_cases y : b.1 < (chG c p s0 t cu sum j (f + k) : Int)
    · rw [if_pos y]
      refine ⟨cpR τ3 n, Rch.one (fun K8 => ?_), by unfold cpR; rw [sUc_ne (by omega)]; exact r3k, fun w hw => by unfold cpR; rw [sUc_ne (by omega), sUc_ne (by omega)]; exact C3 w hw, fun i hi => by unfold cpR; rw [sUc_ne (by omega)]; exact r3i i (by omega), Or.inr (fun i hi => ?_), fun m hm => by unfold cpR; rw [sUc_ne (by omega)]; exact f3 m hm⟩
      · rw [hB K8, hAc K8, if_neg (by rw [wi_id (by omega) (by omega)]; omega), wiN (n := chG c p s0 t cu sum j (f + k)) (by omega), wi_id (z := b.1) (by omega) (by omega), if_neg (by omega)]
        have e00 : (τ3, (0 : Int)) = (fun i : Nat => (cpR τ3 i, ((i : Nat) : Int))) 0 := by
          show (τ3, (0 : Int)) = (cpR τ3 0, ((0 : Nat) : Int))
          rw [cpR_0]; rfl
        rw [e00]
        refine lp_run (fun i : Nat => (cpR τ3 i, ((i : Nat) : Int))) n (fun i hi K => ?_) (fun K => ?_) (by omega)
        · have h80 : cpR τ3 i 80 i = τ3 80 i := by unfold cpR; rw [sUc_ne (by omega)]
          have hv : ∃ v : Nat, τ3 80 i = (v : Int) ∧ v < 4 := by
            by_cases z : i = k
            · subst z; exact ⟨j, r3k, by omega⟩
            · have hp := hpa i (by omega)
              have hr' := hrw i (by omega)
              rw [r3i i z, hr']
              unfold codM
              by_cases z2 : pa i = 6
              · rw [if_pos z2]; exact ⟨3, rfl, by omega⟩
              · rw [if_neg z2]; exact ⟨pa i, rfl, by omega⟩
          obtain ⟨v, hv1, hv2⟩ := hv
          have hst := cpR_st τ3 i
          simp only []
          rw [if_neg (by rw [wi_id (by omega) (by omega), wiN (by omega)]; omega), wiN (n := i) (by omega)]
          simp only [if_pos (show 0 ≤ (i : Int) ∧ (i : Int) < 8 by omega), Int.toNat_natCast]
          rw [h80, hv1, wiN (n := v) (by omega), show ((i + 1 : Nat) : Int) = (i : Int) + 1 by omega, ← hst, hv1]
          by_cases z : v = 3
          · rw [if_neg (by omega), if_pos (by omega)]
          · rw [if_pos (by omega), if_neg (by omega)]
        · simp only []
          rw [if_pos (by rw [wi_id (by omega) (by omega), wiN (by omega)]; omega)]
      · unfold cpR
        rw [sUc_at, if_pos hi]
        show (if τ3 80 i = 3 then 6 else τ3 80 i) = ((paS pa k (chK j) i : Nat) : Int)
        unfold paS chK
        by_cases z : i = k
        · subst z
          rw [if_pos rfl, r3k]
          by_cases z3 : j = 3
          · rw [if_pos (by omega), if_pos z3]; rfl
          · rw [if_neg (by omega), if_neg z3]
        · rw [if_neg z, r3i i z, hrw i (by omega)]
          have hp := hpa i (by omega)
          unfold codM
          by_cases z2 : pa i = 6
          · rw [if_pos z2, if_pos rfl, z2]; rfl
          · rw [if_neg z2, if_neg (by omega)]
    · rw [if_neg y]
      refine ⟨τ3, Rch.one (fun K8 => ?_), r3k, C3, fun i hi => r3i i (by omega), ?_, f3⟩
      · rw [hB K8, hAc K8, if_neg (by rw [wi_id (by omega) (by omega)]; omega), wiN (n := chG c p s0 t cu sum j (f + k)) (by omega), wi_id (z := b.1) (by omega) (by omega), if_pos (by omega)]
      · rcases hbs with y | y
        · exact Or.inl y
        · exact Or.inr (fun i hi => by rw [q3']; exact y i hi)
/-- the last round at depth k: nothing is left -/
theorem o_last (hc : OkC c) (hM : RelM c σ0) (hT : Tg c p s0 t f σ0) (h0 : ∀ τ, fQ σ0 τ → X9_firstWeek τ = some (f : Int)) (hn : f + n = cK c) (hF : 200 ≤ F) {k s sum : Nat} {cu : Nat → Nat} {τ : sM} {S most : Int} (hN : Nk c s0 f k s cu) (hk : k < n) (hA : Ap c p s0 t k (f + k) s cu sum 4 τ S) (hf : fQ σ0 τ) : ∃ τ', Rch (oB F σ (f : Int)) 1 (τ, most, S, (k : Int)) (τ', most, (sum : Int), (k : Int) + (-1)) ∧ Cl c s cu τ' ∧ (∀ i, i < k → τ' 80 i = τ 80 i) ∧ τ' 81 = τ 81 ∧ fQ σ0 τ' := by
  have c5 := hc.2.2.1
  obtain ⟨τ1, C1, r1, q1, f1, u1⟩ := o_undo (p := p) hc hM hT hN (by omega) hA (Nat.le_refl _) hf
  refine ⟨sU τ1 80 k 4, Rch.one (fun K8 => ?_), fun w hw => by rw [sU_ne (by omega), sU_ne (by omega)]; exact C1 w hw, fun i hi => by rw [sUnj (by omega), r1], by rw [sU_ne (by omega), q1], fun m hm => by rw [sU_ne (by omega)]; exact f1 m hm⟩
  unfold oB
  simp only [jn_def]
  rw [if_neg (by rw [wiN (by omega)]; omega), h0 τ hf, bp_some, wiN (n := k) (by omega), if_pos (by omega), Int.toNat_natCast, u1 (oR F σ (f : Int) K8 (τ, most, S, (k : Int)) (f : Int))]
  unfold oR
  simp only []
  rw [wiN (n := k) (by omega), if_pos (by omega), if_pos (by omega), Int.toNat_natCast, r1, hA.1, show (((4 : Nat) : Int) - 1 + 1) = ((4 : Nat) : Int) by omega]
  rw [o_next (σ0 := σ0) (j := 4) hc hM (by omega) hN.1 (by omega) C1 f1 (Nat.le_refl _) (fun i h1 h2 => by omega) (Or.inl (by omega)) (Nat.le_refl _) _ K8 τ most S _ _]
  exact o_act4 (by omega) sUv _ K8 τ most S _ _
end ODO2
