theorem div16 (s w : Nat) : s / 16 ^ w = 16 * (s / 16 ^ (w + 1)) + (4 * sp s w + po s w) := by
  rw [← cd_eq]
  unfold cd
  rw [Nat.pow_succ, ← Nat.div_div_eq_div_mul]
  omega
theorem f_stateNow {c : cC} {t a s p F : Nat} {g k l : Int} {σ : sM} (hc : OkC c) (hM : RelM c σ) (hm : WM c 0 t a s p g k l σ) (hv : Vs c s) (hF : 10 ≤ F) : X9_stateNow F σ = some (s : Int) := by
  have c3 := hc.2.1
  unfold X9_stateNow
  rw [hM.2.1]
  have e0 : ((0 : Int), (cW c : Int) - 1) = (((s / 16 ^ (cW c - 0) : Nat) : Int), (cW c : Int) - 1 - ((0 : Nat) : Int)) := by
    rw [Nat.sub_zero, Nat.div_eq_of_lt hv.1]; exact Prod.ext rfl (by simp only []; omega)
  rw [e0]
  refine lp_run (fun i => (((s / 16 ^ (cW c - i) : Nat) : Int), (cW c : Int) - 1 - (i : Int))) (cW c) (fun i hi K => ?_) (fun K => ?_) (by omega)
  · have hw : cW c - 1 - i < cW c := by omega
    obtain ⟨m1, m2, m3⟩ := hm.at0 hw
    have k1 := sp_lt s (cW c - 1 - i)
    have k2 := po_lt s (cW c - 1 - i)
    simp only [nm_def]
    rw [show (cW c : Int) - 1 - (i : Int) = ((cW c - 1 - i : Nat) : Int) by omega]
    simp (disch := omega) only [b2_if0, b2_ifn, b2_if1, jn_def, nm_def, bp_some, bn_some, wiZ, wlZ, wiD, if_pos, if_neg, if_true, if_false, not_true_eq_false, not_false_eq_true, Int.toNat_natCast]
    rw [m1, m2]
    have := div16 s (cW c - 1 - i)
    rw [show cW c - 1 - i + 1 = cW c - i by omega] at this
    rw [show cW c - (i + 1) = cW c - 1 - i by omega, this]
    congr 2
    · push_cast; omega
    · omega
  · simp only []
    rw [if_pos (by rw [wi_id (by omega) (by omega)]; omega), show cW c - cW c = 0 by omega, Nat.pow_zero, Nat.div_one]
theorem e_act {c : cC} {t a s p kk : Nat} {g k l : Int} {σ : sM} (hc : OkC c) (hX : RelX c σ) (hW : WX 26 t a s p g k l σ) (hv : Vs c s) (ht : t < 1000) (hd : mD c s kk) : ∃ σ1, X7_act σ (kk : Int) = some ((hB c s kk t : Int), σ1) ∧ (∀ m, m ≠ 26 → σ1 m = σ m) ∧ WX 26 t (if kk = 6 then a else 1) (bh s kk) p (if kk < 3 then g + (hB c s kk t : Int) else g) (if 3 ≤ kk ∧ kk < 6 then k + (hB c s kk t : Int) else k) l σ1 := by
  have hs := hv.lt hc
  have hk := mD_k hd
  have hp : kk < 3 → 0 < po s kk := by
    intro h
    rcases hd with q | q | q
    · omega
    · exact q.2.2.1
    · omega
  obtain ⟨w1, w2, w3, w4, w5, w6, w7⟩ := hW
  unfold X7_act
  by_cases q6 : kk = 6
  · subst q6
    rw [if_neg (by decide)]
    refine ⟨σ, ?_, fun _ _ => rfl, ?_⟩
    · rfl
    · exact ⟨w1, w2, w3, w4, w5, w6, w7⟩
  · rw [if_pos (by rw [wiN (by omega)]; omega), w3, w1, e_hadBy hX hc hs hk ht (mD_w hd), bp_some, e_standAfter (c := c) hs hk hp, bp_some, wiN (n := kk) (by omega), if_neg q6]
    by_cases q3 : 3 ≤ kk
    · rw [if_pos (by omega), if_neg (by omega), if_pos (by omega)]
      refine ⟨_, rfl, fun m hm => by rw [sU_ne hm, sU_ne hm, sU_ne hm], ?_, ?_, ?_, ?_, ?_, ?_, ?_⟩
      · rw [sUnj (by omega), sUnj (by omega), sUnj (by omega)]; exact w1
      · rw [sUnj (by omega), sUv]; rfl
      · rw [sUnj (by omega), sUnj (by omega), sUv]
      · rw [sUnj (by omega), sUnj (by omega), sUnj (by omega)]; exact w4
      · rw [sUnj (by omega), sUnj (by omega), sUnj (by omega)]; exact w5
      · rw [sUv, sUnj (by omega), sUnj (by omega), w6]
      · rw [sUnj (by omega), sUnj (by omega), sUnj (by omega)]; exact w7
    · rw [if_neg (by omega), if_pos (by omega), if_neg (by omega)]
      refine ⟨_, rfl, fun m hm => by rw [sU_ne hm, sU_ne hm, sU_ne hm], ?_, ?_, ?_, ?_, ?_, ?_, ?_⟩
      · rw [sUnj (by omega), sUnj (by omega), sUnj (by omega)]; exact w1
      · rw [sUnj (by omega), sUv]; rfl
      · rw [sUnj (by omega), sUnj (by omega), sUv]
      · rw [sUnj (by omega), sUnj (by omega), sUnj (by omega)]; exact w4
      · rw [sUv, sUnj (by omega), sUnj (by omega), w5]
      · rw [sUnj (by omega), sUnj (by omega), sUnj (by omega)]; exact w6
      · rw [sUnj (by omega), sUnj (by omega), sUnj (by omega)]; exact w7
theorem q_z01 : q_z 0 = 0 ∧ q_z 1 = 1 := by decide
theorem f_eat {c : cC} {t a s p F w : Nat} {g k l : Int} {σ : sM} (hc : OkC c) (hM : RelM c σ) (hm : WM c 0 t a s p g k l σ) (hV : VW c t a s p) (hF : 10 ≤ F) (hw : w < cW c) : (¬ (t < cK c ∧ a = 0 ∧ mE c s w) → X9_eat F σ (w : Int) = some (-2, σ)) ∧ (t < cK c ∧ a = 0 ∧ mE c s w → ∃ σ2, X9_eat F σ (w : Int) = some ((hB c s w t : Int), σ2) ∧ fM σ σ2 ∧ WM c 0 t 1 (bh s w) p (g + (hB c s w t : Int)) k l σ2) := by
  have c3 := hc.2.1
  have c5 := hc.2.2.1
  have ht := hV.2.2.1
  have hs := hV.1.lt hc
  have ha : a < 2 := by have := hV.2.2.2; omega
  obtain ⟨m1, m2, m3⟩ := hm.at0 hw
  have k1 := sp_lt s w
  have k2 := po_lt s w
  unfold X9_eat
  rw [f_isWheelN hM hc (by omega), bp_some, b2_ifn, if_pos hw, f_stateNow hc hM hm hV.1 hF, hm.2.1]
  unfold X9_isOver
  rw [hm.1, hM.2.2.1]
  constructor
  · intro hn
    by_cases z1 : t = cK c
    · simp (disch := omega) only [b2_if0, b2_ifn, b2_if1, jn_def, nm_def, bp_some, bn_some, wiZ, wlZ, wiD, if_pos, if_neg, if_true, if_false, not_true_eq_false, not_false_eq_true, Int.toNat_natCast]
    · by_cases z2 : a = 0
      · subst z2
        simp (disch := omega) only [b2_if0, b2_ifn, b2_if1, jn_def, nm_def, bp_some, bn_some, wiZ, wlZ, wiD, if_pos, if_neg, if_true, if_false, not_true_eq_false, not_false_eq_true, Int.toNat_natCast, f_mayEat hM hc hF hV.1]
      · simp (disch := omega) only [b2_if0, b2_ifn, b2_if1, jn_def, nm_def, bp_some, bn_some, wiZ, wlZ, wiD, if_pos, if_neg, if_true, if_false, not_true_eq_false, not_false_eq_true, Int.toNat_natCast]
  · rintro ⟨z1, z2, z3⟩
    subst z2
    simp (disch := omega) only [b2_if0, b2_ifn, b2_if1, jn_def, nm_def, bp_some, bn_some, wiZ, wlZ, wiD, if_pos, if_neg, if_true, if_false, not_true_eq_false, not_false_eq_true, Int.toNat_natCast, f_mayEat hM hc hF hV.1]
    rw [q_z01.2]
    have hM1 : RelM c (sU (sU σ 67 0 1) 72 w ((sU σ 67 0 1) 72 w - 1)) := hM.congr (fun k b1 b2 => by rw [sU_ne (by omega), sU_ne (by omega)])
    rw [sU_ne (k' := 71) (by omega), sU_ne (k' := 71) (by omega), m1, f_goodOf hM1 hc hw k1, bp_some]
    have hM2 : RelM c (sU (sU (sU σ 67 0 1) 72 w ((sU σ 67 0 1) 72 w - 1)) 68 0 ((sU (sU σ 67 0 1) 72 w ((sU σ 67 0 1) 72 w - 1)) 68 0 + (cT c (cO c w) (sp s w) : Int))) := hM1.congr (fun k b1 b2 => by rw [sU_ne (by omega)])
    rw [sU_ne (k' := 71) (by omega), sU_ne (k' := 71) (by omega), sU_ne (k' := 71) (by omega), m1, f_goodOf hM2 hc hw k1, bp_some]
    have eh : hB c s w t = cT c (cO c w) (sp s w) := by unfold hB; rw [if_neg (by omega), if_pos (by omega)]
    rw [eh]
    refine ⟨_, rfl, fun k jj hk => ?_, ?_, ?_, ?_, ?_, ?_, fun v hv => ?_⟩
    · by_cases y1 : k = 68
      · rw [y1, sUnj (by omega), sU_ne (by omega), sU_ne (by omega)]
      · rw [sU_ne y1]
        by_cases y2 : k = 72
        · rw [y2, sUnj (by omega), sU_ne (by omega)]
        · rw [sU_ne y2]
          by_cases y3 : k = 67
          · rw [y3, sUnj (by omega)]
          · rw [sU_ne y3]
    · rw [sU_ne (by omega), sU_ne (by omega), sU_ne (by omega)]; exact hm.1
    · rw [sU_ne (by omega), sU_ne (by omega), sUv]; rfl
    · rw [sUv, sU_ne (by omega), sU_ne (by omega), hm.2.2.1]
    · rw [sU_ne (by omega), sU_ne (by omega), sU_ne (by omega)]; exact hm.2.2.2.1
    · rw [sU_ne (by omega), sU_ne (by omega), sU_ne (by omega)]; exact hm.2.2.2.2.1
    · obtain ⟨m1', m2', m3'⟩ := hm.at0 hv
      obtain ⟨o1, o2⟩ := bh_E hs (k := w) (by omega) z3.2.1 (w := v) (by omega)
      rw [show 3 * 0 + v = v by omega, o1, o2]
      refine ⟨?_, ?_, ?_⟩
      · rw [sU_ne (by omega), sU_ne (by omega), sU_ne (by omega)]; exact m1'
      · rw [sU_ne (by omega)]
        by_cases y : v = w
        · subst y
          have := z3.2.1
          rw [sUv, sU_ne (by omega), m2', if_pos rfl]; omega
        · rw [sUnj y, sU_ne (by omega), if_neg y]; exact m2'
      · rw [sU_ne (by omega), sU_ne (by omega), sU_ne (by omega)]; exact m3'
theorem f_sell {c : cC} {t a s p F w : Nat} {g k l : Int} {σ : sM} (hc : OkC c) (hM : RelM c σ) (hm : WM c 0 t a s p g k l σ) (hV : VW c t a s p) (hF : 10 ≤ F) (hw : w < cW c) : (¬ (t < cK c ∧ a = 0 ∧ mS c s w) → X9_sell F σ (w : Int) = some (-2, σ)) ∧ (t < cK c ∧ a = 0 ∧ mS c s w → ∃ σ2, X9_sell F σ (w : Int) = some ((hB c s (3 + w) t : Int), σ2) ∧ fM σ σ2 ∧ WM c 0 t 1 (bh s (3 + w)) p g (k + (hB c s (3 + w) t : Int)) l σ2) := by
  have c3 := hc.2.1
  have c5 := hc.2.2.1
  have ht := hV.2.2.1
  have hs := hV.1.lt hc
  have ha : a < 2 := by have := hV.2.2.2; omega
  obtain ⟨m1, m2, m3⟩ := hm.at0 hw
  have k1 := sp_lt s w
  have k2 := po_lt s w
  unfold X9_sell
  rw [f_isWheelN hM hc (by omega), bp_some, b2_ifn, if_pos hw, f_stateNow hc hM hm hV.1 hF, hm.2.1]
  unfold X9_isOver
  rw [hm.1, hM.2.2.1]
  constructor
  · intro hn
    by_cases z1 : t = cK c
    · simp (disch := omega) only [b2_if0, b2_ifn, b2_if1, jn_def, nm_def, bp_some, bn_some, wiZ, wlZ, wiD, if_pos, if_neg, if_true, if_false, not_true_eq_false, not_false_eq_true, Int.toNat_natCast]
    · by_cases z2 : a = 0
      · subst z2
        simp (disch := omega) only [b2_if0, b2_ifn, b2_if1, jn_def, nm_def, bp_some, bn_some, wiZ, wlZ, wiD, if_pos, if_neg, if_true, if_false, not_true_eq_false, not_false_eq_true, Int.toNat_natCast, f_maySell hM hc]
      · simp (disch := omega) only [b2_if0, b2_ifn, b2_if1, jn_def, nm_def, bp_some, bn_some, wiZ, wlZ, wiD, if_pos, if_neg, if_true, if_false, not_true_eq_false, not_false_eq_true, Int.toNat_natCast]
  · rintro ⟨z1, z2, z3⟩
    subst z2
    simp (disch := omega) only [b2_if0, b2_ifn, b2_if1, jn_def, nm_def, bp_some, bn_some, wiZ, wlZ, wiD, if_pos, if_neg, if_true, if_false, not_true_eq_false, not_false_eq_true, Int.toNat_natCast, f_maySell hM hc]
    rw [q_z01.2, sU_ne (k' := 66) (by omega), hm.1]
    simp (disch := omega) only [b2_if0, b2_ifn, b2_if1, jn_def, nm_def, bp_some, bn_some, wiZ, wlZ, wiD, if_pos, if_neg, if_true, if_false, not_true_eq_false, not_false_eq_true, Int.toNat_natCast]
    rw [sU_ne (k' := 72) (by omega), m2, sU_ne (k' := 65) (by omega), (hM.2.2.2.2.2.1 t (by omega)).2]
    have eh : (hB c s (3 + w) t : Int) = (po s w : Int) * (cP c t : Int) := by
      unfold hB; rw [if_neg (by omega), if_neg (by omega), show 3 + w - 3 = w by omega]; push_cast; rfl
    rw [eh]
    refine ⟨_, rfl, fun k jj hk => ?_, ?_, ?_, ?_, ?_, ?_, fun v hv => ?_⟩
    · by_cases y1 : k = 69
      · rw [y1, sUnj (by omega), sU_ne (by omega), sU_ne (by omega)]
      · rw [sU_ne y1]
        by_cases y2 : k = 72
        · rw [y2, sUnj (by omega), sU_ne (by omega)]
        · rw [sU_ne y2]
          by_cases y3 : k = 67
          · rw [y3, sUnj (by omega)]
          · rw [sU_ne y3]
    · rw [sU_ne (by omega), sU_ne (by omega), sU_ne (by omega)]; exact hm.1
    · rw [sU_ne (by omega), sU_ne (by omega), sUv]; rfl
    · rw [sU_ne (by omega), sU_ne (by omega), sU_ne (by omega)]; exact hm.2.2.1
    · rw [sUv, sU_ne (by omega), sU_ne (by omega), hm.2.2.2.1]
    · rw [sU_ne (by omega), sU_ne (by omega), sU_ne (by omega)]; exact hm.2.2.2.2.1
    · obtain ⟨m1', m2', m3'⟩ := hm.at0 hv
      obtain ⟨o1, o2⟩ := bh_S hs (k := 3 + w) (by omega) (by omega) (w := v) (by omega)
      rw [show 3 * 0 + v = v by omega, o1, o2, show 3 + w - 3 = w by omega]
      refine ⟨?_, ?_, ?_⟩
      · rw [sU_ne (by omega), sU_ne (by omega), sU_ne (by omega)]; exact m1'
      · rw [sU_ne (by omega)]
        by_cases y : v = w
        · subst y
          rw [sUv, if_pos rfl]; rfl
        · rw [sUnj y, sU_ne (by omega), if_neg y]; exact m2'
      · rw [sU_ne (by omega), sU_ne (by omega), sU_ne (by omega)]; exact m3'
theorem bh_VW {c : cC} (hc : OkC c) {t s p kk : Nat} (hV : VW c t 0 s p) (ht : t < cK c) (hd : mD c s kk) (z : Nat) (hz : z < 2) : VW c t z (bh s kk) p := ⟨bh_Vs hc hV.1 hd, hV.2.1, hV.2.2.1, by omega⟩
theorem e_mayActNow {c : cC} {t a s p : Nat} {g k l : Int} {σ : sM} (hc : OkC c) (hX : RelX c σ) (hW : WX 26 t a s p g k l σ) (hV : VW c t a s p) : X8_mayActNow σ = some (b2 (t < cK c ∧ a = 0)) := by
  have c5 := hc.2.2.1
  have ht := hV.2.2.1
  have ha : a < 2 := by have := hV.2.2.2; omega
  unfold X8_mayActNow X8_isOver
  rw [hW.1, hW.2.1, hX.2.2.1]
  by_cases z : a = 0
  · by_cases z2 : t < cK c
    · rw [b2_t ⟨z2, z⟩]; simp (disch := omega) only [b2_if0, b2_ifn, b2_if1, jn_def, nm_def, bp_some, bn_some, wiZ, wlZ, wiD, if_pos, if_neg, if_true, if_false, not_true_eq_false, not_false_eq_true, Int.toNat_natCast]
    · rw [b2_f (fun h => z2 h.1)]; simp (disch := omega) only [b2_if0, b2_ifn, b2_if1, jn_def, nm_def, bp_some, bn_some, wiZ, wlZ, wiD, if_pos, if_neg, if_true, if_false, not_true_eq_false, not_false_eq_true, Int.toNat_natCast]
  · rw [b2_f (fun h => z h.2)]; simp (disch := omega) only [b2_if0, b2_ifn, b2_if1, jn_def, nm_def, bp_some, bn_some, wiZ, wlZ, wiD, if_pos, if_neg, if_true, if_false, not_true_eq_false, not_false_eq_true, Int.toNat_natCast]
theorem s_eat {c : cC} {j : Nat} {q : qT} {x : List Nat} {t a s p F : Nat} {g k l : Int} {σ : sM} (h : Jn c j q x t a s p g k l σ) (hF : 10 ≤ F) (a1 : Int) (h1 : wi a1 = a1) : Stq j q x (X8_eat F σ a1) (fun τ => X9_eat F τ a1) := by
  obtain ⟨hc, hX, hM, hW, hm, hV, -⟩ := id h
  have b1 := rng h1
  have c3 := hc.2.1
  have c5 := hc.2.2.1
  have ht := hV.2.2.1
  have hs := hV.1.lt hc
  by_cases q1 : 0 ≤ a1 ∧ a1 < (cW c : Int)
  · obtain ⟨w, rfl⟩ : ∃ i : Nat, a1 = i := ⟨a1.toNat, by omega⟩
    have hw : w < cW c := by omega
    have hmd : mE c s w ↔ mD c s w := ⟨fun h => Or.inr (Or.inl ⟨by omega, h⟩), fun h => by rcases h with h | h | h; omega; exact h.2; omega⟩
    by_cases z : t < cK c ∧ a = 0 ∧ mE c s w
    · obtain ⟨z1, z2, z3⟩ := id z
      subst z2
      obtain ⟨σ1, e1, f1, w1⟩ := e_act hc hX hW hV.1 (by omega) (hmd.1 z3)
      have hM1 : RelM c σ1 := hM.congr (fun k b1 b2 => f1 k (by omega))
      have hm1 : WM c 0 t 0 s p g k l σ1 := hm.row hc (fun m b1 b2 => f1 m (by omega))
      obtain ⟨σ2, e2, f2, w2⟩ := (f_eat hc hM1 hm1 hV hF hw).2 z
      have e0 : X8_eat F σ (w : Int) = some ((hB c s w t : Int), σ1) := by
        unfold X8_eat X8_actIfMay
        rw [hW.2.2.1]
        simp (disch := omega) only [b2_if0, b2_ifn, b2_if1, jn_def, nm_def, bp_some, bn_some, wiZ, wlZ, wiD, if_pos, if_neg, if_true, if_false, not_true_eq_false, not_false_eq_true, Int.toNat_natCast, e_isWheelN hX hc, e_mayActNow hc hX hW hV, e_mayBe hX hc hF]
        rw [if_pos ⟨z1, trivial⟩, e1]
        rfl
      rw [if_neg (by omega), if_pos (by omega), if_neg (by omega)] at w1
      exact ⟨_, _, _, _, e0, e2, rfl, h.win f1 f2 w1 w2 (bh_VW hc hV z1 (hmd.1 z3) 1 (by omega))⟩
    · have e0 : X8_eat F σ (w : Int) = some (-2, σ) := by
        unfold X8_eat X8_actIfMay
        rw [hW.2.2.1]
        simp (disch := omega) only [b2_if0, b2_ifn, b2_if1, jn_def, nm_def, bp_some, bn_some, wiZ, wlZ, wiD, if_pos, if_neg, if_true, if_false, not_true_eq_false, not_false_eq_true, Int.toNat_natCast, e_isWheelN hX hc, e_mayActNow hc hX hW hV, e_mayBe hX hc hF]
        by_cases y : t < cK c ∧ a = 0
        · rw [if_pos y]; rfl
        · rw [if_neg y]; rfl
      exact ⟨_, _, _, _, e0, (f_eat hc hM hm hV hF hw).1 z, rfl, h.inv⟩
  · refine ⟨_, _, _, _, (?_ : X8_eat F σ a1 = some (-1, σ)), (?_ : X9_eat F σ a1 = some (-1, σ)), rfl, h.inv⟩
    · unfold X8_eat
      rw [e_isWheel hX hc a1 h1]
      simp (disch := omega) only [b2_if0, b2_ifn, b2_if1, jn_def, nm_def, bp_some, bn_some, wiZ, wlZ, wiD, if_pos, if_neg, if_true, if_false, not_true_eq_false, not_false_eq_true, Int.toNat_natCast]
    · unfold X9_eat
      rw [f_isWheel hM hc a1 h1]
      simp (disch := omega) only [b2_if0, b2_ifn, b2_if1, jn_def, nm_def, bp_some, bn_some, wiZ, wlZ, wiD, if_pos, if_neg, if_true, if_false, not_true_eq_false, not_false_eq_true, Int.toNat_natCast]
theorem s_sell {c : cC} {j : Nat} {q : qT} {x : List Nat} {t a s p F : Nat} {g k l : Int} {σ : sM} (h : Jn c j q x t a s p g k l σ) (hF : 10 ≤ F) (a1 : Int) (h1 : wi a1 = a1) : Stq j q x (X8_sell F σ a1) (fun τ => X9_sell F τ a1) := by
  obtain ⟨hc, hX, hM, hW, hm, hV, -⟩ := id h
  have b1 := rng h1
  have c3 := hc.2.1
  have c5 := hc.2.2.1
  have ht := hV.2.2.1
  have hs := hV.1.lt hc
  by_cases q1 : 0 ≤ a1 ∧ a1 < (cW c : Int)
  · obtain ⟨w, rfl⟩ : ∃ i : Nat, a1 = i := ⟨a1.toNat, by omega⟩
    have hw : w < cW c := by omega
    have hmd : mS c s w ↔ mD c s (3 + w) := ⟨fun h => Or.inr (Or.inr ⟨by omega, by omega, by rw [show 3 + w - 3 = w by omega]; exact h⟩), fun h => by rcases h with h | h | h; omega; omega; rw [show 3 + w - 3 = w by omega] at h; exact h.2.2⟩
    by_cases z : t < cK c ∧ a = 0 ∧ mS c s w
    · obtain ⟨z1, z2, z3⟩ := id z
      subst z2
      obtain ⟨σ1, e1, f1, w1⟩ := e_act hc hX hW hV.1 (by omega) (hmd.1 z3)
      have hM1 : RelM c σ1 := hM.congr (fun k b1 b2 => f1 k (by omega))
      have hm1 : WM c 0 t 0 s p g k l σ1 := hm.row hc (fun m b1 b2 => f1 m (by omega))
      obtain ⟨σ2, e2, f2, w2⟩ := (f_sell hc hM1 hm1 hV hF hw).2 z
      have e0 : X8_sell F σ (w : Int) = some ((hB c s (3 + w) t : Int), σ1) := by
        unfold X8_sell X8_actIfMay
        rw [hW.2.2.1, show (3 : Int) + (w : Int) = ((3 + w : Nat) : Int) by omega]
        simp (disch := omega) only [b2_if0, b2_ifn, b2_if1, jn_def, nm_def, bp_some, bn_some, wiZ, wlZ, wiD, if_pos, if_neg, if_true, if_false, not_true_eq_false, not_false_eq_true, Int.toNat_natCast, e_isWheelN hX hc, e_mayActNow hc hX hW hV, e_mayBe hX hc hF]
        rw [if_pos ⟨z1, trivial⟩, e1]
        rfl
      rw [if_neg (by omega), if_neg (by omega), if_pos (by omega)] at w1
      exact ⟨_, _, _, _, e0, e2, rfl, h.win f1 f2 w1 w2 (bh_VW hc hV z1 (hmd.1 z3) 1 (by omega))⟩
    · have e0 : X8_sell F σ (w : Int) = some (-2, σ) := by
        unfold X8_sell X8_actIfMay
        rw [hW.2.2.1, show (3 : Int) + (w : Int) = ((3 + w : Nat) : Int) by omega]
        simp (disch := omega) only [b2_if0, b2_ifn, b2_if1, jn_def, nm_def, bp_some, bn_some, wiZ, wlZ, wiD, if_pos, if_neg, if_true, if_false, not_true_eq_false, not_false_eq_true, Int.toNat_natCast, e_isWheelN hX hc, e_mayActNow hc hX hW hV, e_mayBe hX hc hF]
        by_cases y : t < cK c ∧ a = 0
        · rw [if_pos y]; rfl
        · rw [if_neg y]; rfl
      exact ⟨_, _, _, _, e0, (f_sell hc hM hm hV hF hw).1 z, rfl, h.inv⟩
  · refine ⟨_, _, _, _, (?_ : X8_sell F σ a1 = some (-1, σ)), (?_ : X9_sell F σ a1 = some (-1, σ)), rfl, h.inv⟩
    · unfold X8_sell
      rw [e_isWheel hX hc a1 h1]
      simp (disch := omega) only [b2_if0, b2_ifn, b2_if1, jn_def, nm_def, bp_some, bn_some, wiZ, wlZ, wiD, if_pos, if_neg, if_true, if_false, not_true_eq_false, not_false_eq_true, Int.toNat_natCast]
    · unfold X9_sell
      rw [f_isWheel hM hc a1 h1]
      simp (disch := omega) only [b2_if0, b2_ifn, b2_if1, jn_def, nm_def, bp_some, bn_some, wiZ, wlZ, wiD, if_pos, if_neg, if_true, if_false, not_true_eq_false, not_false_eq_true, Int.toNat_natCast]
