def encM (v : Nat) : Int := if v = 9 then -9 else (v : Int)
def codM (v : Nat) : Int := if v = 6 then 3 else (v : Int)
/-- portions and cuts in the reference's rows -/
def Cl (c : cC) (s : Nat) (cu : Nat → Nat) (τ : sM) : Prop := ∀ w, w < cW c → τ 83 w = (po s w : Int) ∧ τ 82 w = encM (cu w)
def fQ (σ τ : sM) : Prop := ∀ m, m < 80 ∨ 83 < m → τ m = σ m
def Tg (c : cC) (p s0 t f : Nat) (σ : sM) : Prop := ∀ w cu u, w < cW c → cu ≤ 8 → f ≤ u → u < cK c → (cu = 8 ∨ cu ≤ u) → σ 79 (72 * w + 8 * cu + u) = (gn c p s0 t w cu u : Int)
theorem f_mayBlind {c : cC} {τ : sM} {F s r : Nat} (hc : OkC c) (hM : RelM c τ) (hF : 10 ≤ F) (hv : Vs c s) (h83 : ∀ w, w < cW c → τ 83 w = (po s w : Int)) (hr : r < 3) : X9_mayBlind F τ (r : Int) = some (b2 (mE c s r)) := by
  have c3 := hc.2.1
  have hs := hv.lt hc
  have hp := po_lt s r
  have hpl := hv.2 r hr
  have hz := cZ_le hc r
  have h6 := hc.2.2.2.1
  unfold X9_mayBlind
  refine lp_run (fun i => (((oth c s r i : Nat) : Int), ((i : Nat) : Int))) (cW c) (fun i hi K => ?_) (fun K => ?_) (by omega)
  · simp only [jn_def]
    have h7 := opn_le c s i
    have hpi := po_lt s i
    have hzi := cZ_le hc i
    have e1 : ((i + 1 : Nat) : Int) = (i : Int) + 1 := by omega
    have e2 : ((oth c s r (i + 1) : Nat) : Int) = (oth c s r i : Int) + ((if i = r then 0 else opn c s i : Nat) : Int) := by show ((oth c s r i + (if i = r then 0 else opn c s i) : Nat) : Int) = _; omega
    rw [hM.2.1, if_neg (by rw [wiN (by omega), wiN (by omega)]; omega), wiN (n := i) (by omega), wiN (n := r) (by omega), Int.toNat_natCast, h83 i hi, (hM.2.2.2.2.1 i hi).2, wiN (n := po s i) (by omega), wiN (n := cZ c i) (by omega), e1, e2]
    by_cases q2 : i = r
    · rw [if_pos (by omega), if_pos q2]; rfl
    · rw [if_neg (by omega), if_neg q2, if_pos (by omega)]
      unfold opn
      by_cases q3 : po s i = 0
      · rw [if_pos (by omega), if_neg (by omega)]; rfl
      · rw [if_neg (by omega), if_pos (by omega), if_pos (by omega)]
        by_cases q4 : po s i < cZ c i
        · rw [if_neg (by omega), if_pos (by omega)]; rfl
        · rw [if_pos (by omega), if_neg (by omega)]; rfl
  · simp only []
    have h8 := oth_le c s r (cW c)
    rw [hM.2.1, if_pos (by omega), f_isWheelN hM hc (by omega), bp_some, b2_if0]
    by_cases q : r < cW c
    · rw [if_pos q, wiN (n := r) (by omega), Int.toNat_natCast, h83 r q, (hM.2.2.2.2.1 r q).2, hM.2.2.2.1, wiN (n := po s r) (by omega), wiN (n := cZ c r) (by omega), wiN (n := cM c) (by omega), wiN (n := oth c s r (cW c)) (by omega), if_pos (by omega)]
      by_cases q2 : po s r = 0
      · rw [if_pos (by omega), b2_f (by omega)]
      · rw [if_neg (by omega), if_pos (by omega), if_pos (by omega)]
        by_cases q3 : po s r < cZ c r
        · rw [if_pos (by omega), b2_t (by omega)]
        · have h9 : oth c s r (cW c) = nop c s := by
            rw [oth_nop _ _ _ (by unfold opn; rw [if_neg (by omega)]), nopTo_nop hc]
          rw [if_neg (by omega)]
          by_cases q4 : nop c s < cM c
          · rw [if_neg (by omega), b2_t (by omega)]
          · rw [if_pos (by omega), b2_f (by omega)]
    · rw [if_neg q, b2_f (by omega)]
theorem f_gainIn {τ : sM} {w e u : Nat} (hw : w < 3) (he : e ≤ 8) (hu : u < 8) (h : τ 82 w = (e : Int)) : X9_gainIn τ (w : Int) (u : Int) = some (τ 79 (72 * w + 8 * e + u)) := by
  unfold X9_gainIn
  rw [wiN (n := w) (by omega), if_pos (by omega), Int.toNat_natCast, h, show (72 : Int) * (w : Int) + 8 * (e : Int) + (u : Int) = ((72 * w + 8 * e + u : Nat) : Int) by push_cast; omega, wiN (n := 72 * w + 8 * e + u) (by omega), if_pos (by omega), Int.toNat_natCast]
theorem sU_sU {σ : sM} {k j : Nat} {v v' : Int} : sU (sU σ k j v) k j v' = sU σ k j v' := by
  funext k' j'
  unfold sU
  by_cases q : k' = k ∧ j' = j
  · rw [if_pos q, if_pos q]
  · rw [if_neg q, if_neg q, if_neg q]
theorem cuE_at (cu : Nat → Nat) (w u : Nat) : cuE cu w u w = if cu w = 9 then u else cu w := by
  unfold cuE
  by_cases q : cu w = 9
  · rw [if_pos ⟨rfl, q⟩, if_pos q]
  · rw [if_neg (fun h => q h.2), if_neg q]
/-- what is known of a node at depth k -/
def Nk (c : cC) (s0 f k s : Nat) (cu : Nat → Nat) : Prop := Vs c s ∧ Nd c s0 f (f + k) s cu
theorem f_eatB {c : cC} (hc : OkC c) {p s0 t f k s w : Nat} {cu : Nat → Nat} {τ : sM} (hN : Nk c s0 f k s cu) (hk : f + k < cK c) (hT : Tg c p s0 t f τ) (hm : mE c s w) (hC : Cl c s cu τ) : ∃ τ', X9_eatBlind τ (w : Int) ((f : Int) + (k : Int)) = some ((gn c p s0 t w (cuE cu w (f + k) w) (f + k) : Int), τ') ∧ (∀ m, m ≠ 82 → m ≠ 83 → τ' m = τ m) ∧ Cl c (bh s w) (cuE cu w (f + k)) τ' := by
  have c3 := hc.2.1
  have c5 := hc.2.2.1
  have hw := hm.1
  have hp := hm.2.1
  have hpl := po_lt s w
  have hs := hN.1.lt hc
  obtain ⟨h83, h82⟩ := hC w hw
  obtain ⟨n1, n2⟩ := hN.2 w hw
  have hcE := cuE_at cu w (f + k)
  have hE8 : cuE cu w (f + k) w ≤ 8 ∧ (cuE cu w (f + k) w = 8 ∨ cuE cu w (f + k) w ≤ f + k) := by
    rw [hcE]
    split <;> omega
  have e1 : X9_eatBlind τ (w : Int) ((f : Int) + (k : Int)) = some ((gn c p s0 t w (cuE cu w (f + k) w) (f + k) : Int), sU (sU τ 82 w (cuE cu w (f + k) w : Int)) 83 w ((po s w : Int) - 1)) := by
    unfold X9_eatBlind
    simp only [jn_def, nm_def]
    have eq1 : ∀ J : Int → Option (Int × sM), (if ¬ wi (τ 82 w) = (-9) then J (τ 82 w) else J ((f : Int) + (k : Int))) = J (cuE cu w (f + k) w : Int) := by
      intro J
      rw [h82, hcE]
      unfold encM
      by_cases q : cu w = 9
      · rw [if_pos q, if_neg (by decide), if_pos q]; congr 1
      · rw [if_neg q, if_pos (by rw [wiN (by omega)]; omega), if_neg q]
    rw [wiN (n := w) (by omega)]
    simp only [if_pos (show 0 ≤ (w : Int) ∧ (w : Int) < 3 by omega), Int.toNat_natCast]
    rw [eq1 (fun q2 => bp (X9_gainIn (sU (sU τ 82 w q2) 83 w ((sU τ 82 w q2) 83 w - 1)) (w : Int) ((f : Int) + (k : Int))) (fun r9 => some (r9, sU (sU τ 82 w q2) 83 w ((sU τ 82 w q2) 83 w - 1))))]
    rw [sU_ne (k' := 83) (by omega), h83, show (f : Int) + (k : Int) = ((f + k : Nat) : Int) by omega, f_gainIn (e := cuE cu w (f + k) w) (by omega) hE8.1 (by omega) (by rw [sU_ne (by omega), sUv]), bp_some, sU_ne (by omega), sU_ne (by omega), hT w _ _ hw hE8.1 (by omega) (by omega) hE8.2]
  refine ⟨_, e1, fun m h1 h2 => by rw [sU_ne h2, sU_ne h1], fun v hv => ?_⟩
  obtain ⟨g83, g82⟩ := hC v hv
  obtain ⟨o1, -⟩ := bh_E hs (k := w) (by omega) hp (w := v) (by omega)
  rw [o1]
  by_cases y : v = w
  · subst y
    rw [if_pos rfl, sUv, sU_ne (by omega), sUv]
    refine ⟨by omega, ?_⟩
    unfold encM
    rw [if_neg (by omega)]
  · rw [if_neg y, sUnj y, sU_ne (by omega), sU_ne (by omega), sUnj y]
    refine ⟨g83, ?_⟩
    rw [g82]
    unfold cuE
    rw [if_neg (fun h => y h.1)]
theorem f_undoB {c : cC} (hc : OkC c) {p s0 t f k s w : Nat} {cu : Nat → Nat} {τ : sM} (hM : RelM c τ) (hN : Nk c s0 f k s cu) (hk : f + k < cK c) (hT : Tg c p s0 t f τ) (hm : mE c s w) (hC : Cl c (bh s w) (cuE cu w (f + k)) τ) : ∃ τ', X9_undo τ (w : Int) ((f : Int) + (k : Int)) = some ((gn c p s0 t w (cuE cu w (f + k) w) (f + k) : Int), τ') ∧ (∀ m, m ≠ 82 → m ≠ 83 → τ' m = τ m) ∧ Cl c s cu τ' := by
  have c3 := hc.2.1
  have c5 := hc.2.2.1
  have hw := hm.1
  have hp := hm.2.1
  have hpl := po_lt s w
  have hs := hN.1.lt hc
  have hz := cZ_le hc w
  obtain ⟨h83, h82⟩ := hC w hw
  obtain ⟨n1, n2⟩ := hN.2 w hw
  obtain ⟨o1, -⟩ := bh_E hs (k := w) (by omega) hp (w := w) (by omega)
  rw [if_pos rfl] at o1
  rw [o1] at h83
  have hcE := cuE_at cu w (f + k)
  have hE8 : cuE cu w (f + k) w ≤ 8 ∧ (cuE cu w (f + k) w = 8 ∨ cuE cu w (f + k) w ≤ f + k) := by
    rw [hcE]
    split <;> omega
  have h82' : τ 82 w = (cuE cu w (f + k) w : Int) := by rw [h82]; unfold encM; rw [if_neg (by omega)]
  have h63 := (hM.2.2.2.2.1 w hw).2
  have e1 : X9_undo τ (w : Int) ((f : Int) + (k : Int)) = some ((gn c p s0 t w (cuE cu w (f + k) w) (f + k) : Int), sU (sU τ 83 w ((po s w : Nat) : Int)) 82 w (encM (cu w))) := by
    unfold X9_undo
    simp only [jn_def]
    rw [show (f : Int) + (k : Int) = ((f + k : Nat) : Int) by omega, f_gainIn (e := cuE cu w (f + k) w) (by omega) hE8.1 (by omega) h82', bp_some, hT w _ _ hw hE8.1 (by omega) (by omega) hE8.2, wiN (n := w) (by omega)]
    simp only [if_pos (show 0 ≤ (w : Int) ∧ (w : Int) < 3 by omega), if_pos (show 0 ≤ (w : Int) ∧ (w : Int) < 6 by omega), Int.toNat_natCast]
    rw [sUv, sU_ne (k' := 63) (by omega), sU_ne (k' := 82) (by omega), h63, h82', h83, show ((po s w - 1 : Nat) : Int) + 1 = ((po s w : Nat) : Int) by omega, wiN (n := po s w) (by omega), wiN (n := cZ c w) (by omega)]
    unfold encM
    rw [hcE]
    by_cases q : cu w = 9
    · rw [if_neg (by omega), if_pos q, if_pos q]
    · rw [if_pos (by omega), if_neg q, if_neg q]
  refine ⟨_, e1, fun m h1 h2 => by rw [sU_ne h1, sU_ne h2], fun v hv => ?_⟩
  obtain ⟨g83, g82⟩ := hC v hv
  obtain ⟨o1, -⟩ := bh_E hs (k := w) (by omega) hp (w := v) (by omega)
  by_cases y : v = w
  · subst y
    rw [sU_ne (by omega), sUv, sUv]
    exact ⟨rfl, rfl⟩
  · rw [sU_ne (by omega), sUnj y, sUnj y, sU_ne (by omega)]
    rw [if_neg y] at o1
    rw [o1] at g83
    refine ⟨g83, ?_⟩
    rw [g82]
    unfold cuE
    rw [if_neg (fun h => y h.1)]
/-- the child of a node by code j (3: nothing) -/
def chS (s j : Nat) : Nat := if j = 3 then s else bh s j
def chC (cu : Nat → Nat) (j u : Nat) : Nat → Nat := if j = 3 then cu else cuE cu j u
def chG (c : cC) (p s0 t : Nat) (cu : Nat → Nat) (sum j u : Nat) : Nat := if j = 3 then sum else sum + gn c p s0 t j (cuE cu j u j) u
def chK (j : Nat) : Nat := if j = 3 then 6 else j
/-- the loop's place at depth k, where the last code tried is rr - 1 -/
def Ap (c : cC) (p s0 t k u s : Nat) (cu : Nat → Nat) (sum rr : Nat) (τ : sM) (S : Int) : Prop := τ 80 k = (rr : Int) - 1 ∧ ((rr = 0 ∨ rr = 4) ∧ Cl c s cu τ ∧ S = (sum : Int) ∨ (1 ≤ rr ∧ rr ≤ 3) ∧ mE c s (rr - 1) ∧ Cl c (bh s (rr - 1)) (cuE cu (rr - 1) u) τ ∧ S = ((sum + gn c p s0 t (rr - 1) (cuE cu (rr - 1) u (rr - 1)) u : Nat) : Int))
theorem Ap_ch {c : cC} {p s0 t k u s sum j : Nat} {cu : Nat → Nat} {τ : sM} (hj : j ≤ 3) (h80 : τ 80 k = (j : Int)) (hC : Cl c (chS s j) (chC cu j u) τ) (hm : j = 3 ∨ mE c s j) : Ap c p s0 t k u s cu sum (j + 1) τ (chG c p s0 t cu sum j u : Int) := by
  refine ⟨by rw [h80]; omega, ?_⟩
  unfold chS chC at hC
  unfold chG
  by_cases y : j = 3
  · rw [if_pos y] at hC ⊢
    rw [if_pos y] at hC
    exact Or.inl ⟨Or.inr (by omega), hC, rfl⟩
  · rw [if_neg y] at hC ⊢
    rw [if_neg y] at hC
    rcases hm with hm | hm
    · exact absurd hm y
    · refine Or.inr ⟨by omega, ?_, ?_, ?_⟩
      · rw [show j + 1 - 1 = j by omega]; exact hm
      · rw [show j + 1 - 1 = j by omega]; exact hC
      · rw [show j + 1 - 1 = j by omega]
def Rch {α β : Type} (B : (β → Option α) → β → Option α) (n : Nat) (x x' : β) : Prop := ∀ F, n ≤ F → lp B F x = lp B (F - n) x'
theorem Rch.one {α β : Type} {B : (β → Option α) → β → Option α} {x x' : β} (h : ∀ K, B K x = K x') : Rch B 1 x x' := by
  intro F hF
  obtain ⟨G, rfl⟩ : ∃ G, F = G + 1 := ⟨F - 1, by omega⟩
  rw [lp_succ, h]
  rfl
theorem Rch.trans {α β : Type} {B : (β → Option α) → β → Option α} {n m : Nat} {x y z : β} (h : Rch B n x y) (h2 : Rch B m y z) : Rch B (n + m) x z := by
  intro F hF
  rw [h F (by omega), h2 (F - n) (by omega), show F - n - m = F - (n + m) by omega]
section ODO
variable {c : cC} {p s0 t a f n F : Nat} {g k0 l : Int} {σ σ0 : sM}
/-- the undo ahead of the next code -/
theorem o_undo (hc : OkC c) (hM : RelM c σ0) (hT : Tg c p s0 t f σ0) {k s sum rr : Nat} {cu : Nat → Nat} {τ : sM} {S : Int} (hN : Nk c s0 f k s cu) (hk : f + k < cK c) (hA : Ap c p s0 t k (f + k) s cu sum rr τ S) (hr : rr ≤ 4) (hf : fQ σ0 τ) : ∃ τ1, Cl c s cu τ1 ∧ τ1 80 = τ 80 ∧ τ1 81 = τ 81 ∧ fQ σ0 τ1 ∧ ∀ (K14 : sM × Int → Option (Int × sM)), (if wi (τ 80 k) < 0 then K14 (τ, S) else if 0 ≤ (k : Int) ∧ (k : Int) < 8 then if 3 ≤ wi (τ 80 k) then K14 (τ, S) else if 0 ≤ (k : Int) ∧ (k : Int) < 8 then bn (X9_undo τ (τ 80 k) ((f : Int) + (k : Int))) (fun r57 σ59 => K14 (σ59, S - r57)) else none else none) = K14 (τ1, (sum : Int)) := by
  have c5 := hc.2.2.1
  obtain ⟨h80, hA⟩ := hA
  have hw : wi (τ 80 k) = (rr : Int) - 1 := by rw [h80, wi_id (by omega) (by omega)]
  rcases hA with ⟨h1, h2, h3⟩ | ⟨h1, h2, h3, h4⟩
  · subst h3
    refine ⟨τ, h2, rfl, rfl, hf, fun K14 => ?_⟩
    rw [hw]
    rcases h1 with h1 | h1
    · rw [if_pos (by omega)]
    · rw [if_neg (by omega), if_pos (by omega), if_pos (by omega)]
  · have hMτ : RelM c τ := hM.congr (fun k b1 b2 => hf k (by omega))
    have hTτ : Tg c p s0 t f τ := fun w cu u a1 a2 a3 a4 a5 => by rw [hf 79 (by omega)]; exact hT w cu u a1 a2 a3 a4 a5
    obtain ⟨τ1, e1, f1, C1⟩ := f_undoB hc hMτ hN hk hTτ h2 h3
    refine ⟨τ1, C1, f1 80 (by omega) (by omega), f1 81 (by omega) (by omega), fun m hm => by rw [f1 m (by omega) (by omega)]; exact hf m hm, fun K14 => ?_⟩
    rw [hw, h80, show (rr : Int) - 1 = ((rr - 1 : Nat) : Int) by omega, if_neg (by omega), if_pos (by omega), if_neg (by omega), if_pos (by omega), e1, bn_some, h4]
    congr 2
    omega
/-- the next code that may be -/
theorem o_next (hc : OkC c) (hM : RelM c σ0) (hF : 10 ≤ F) {k s rr j : Nat} {cu : Nat → Nat} {τ1 : sM} (hv : Vs c s) (hk : k < 8) (hC : Cl c s cu τ1) (hf : fQ σ0 τ1) (hj : rr ≤ j) (hno : ∀ i, rr ≤ i → i < j → i < 3 ∧ ¬ mE c s i) (hyes : 3 ≤ j ∨ mE c s j) (hj4 : j ≤ 4) (r1 : Int) (K8 : sM × Int × Int × Int → Option (Int × sM)) (τ : sM) (most S : Int) (r10 : Int) (q13 : sM × Int) : lp (oI F σ r1 K8 (τ, most, S, (k : Int)) r10 q13) F (sU τ1 80 k (rr : Int)) = oA F σ r1 K8 (τ, most, S, (k : Int)) r10 q13 (sU τ1 80 k (j : Int)) := by
  have hMi : ∀ v : Int, RelM c (sU τ1 80 k v) := fun v => hM.congr (fun k b1 b2 => by rw [sU_ne (by omega)]; exact hf k (by omega))
  have h83 : ∀ v : Int, ∀ w, w < cW c → sU τ1 80 k v 83 w = (po s w : Int) := fun v w hw => by rw [sU_ne (by omega)]; exact (hC w hw).1
  have e0 : sU τ1 80 k (rr : Int) = (fun i : Nat => sU τ1 80 k ((rr + i : Nat) : Int)) 0 := rfl
  rw [e0]
  refine lp_run (fun i : Nat => sU τ1 80 k ((rr + i : Nat) : Int)) (j - rr) (fun i hi K => ?_) (fun K => ?_) (by omega)
  · obtain ⟨n1, n2⟩ := hno (rr + i) (by omega) (by omega)
    unfold oI
    simp only [jn_def, sUv]
    rw [wiN (n := k) (by omega)]
    simp only [if_pos (show 0 ≤ (k : Int) ∧ (k : Int) < 8 by omega), Int.toNat_natCast, sUv]
    rw [wiN (n := rr + i) (by omega), if_neg (by omega), f_mayBlind hc (hMi _) hF hv (h83 _) n1, bp_some, b2_ifn, if_neg n2, sU_sU]
    rfl
  · unfold oI
    simp only [jn_def, sUv]
    rw [wiN (n := k) (by omega)]
    simp only [if_pos (show 0 ≤ (k : Int) ∧ (k : Int) < 8 by omega), Int.toNat_natCast, sUv]
    rw [show rr + (j - rr) = j by omega, wiN (n := j) (by omega)]
    by_cases y : 3 ≤ j
    · rw [if_pos (by omega)]
    · rcases hyes with h | h
      · exact absurd h y
      · rw [if_neg (by omega), f_mayBlind hc (hMi _) hF hv (h83 _) (by omega), bp_some, b2_ifn, if_pos h]
/-- the round's end: no code is left -/
theorem o_act4 {k : Nat} (hk : k < 8) {τ2 : sM} (h80 : τ2 80 k = 4) (r1 : Int) (K8 : sM × Int × Int × Int → Option (Int × sM)) (τ : sM) (most S : Int) (r10 : Int) (q13 : sM × Int) : oA F σ r1 K8 (τ, most, S, (k : Int)) r10 q13 τ2 = K8 (τ2, most, q13.2, (k : Int) + (-1)) := by
  unfold oA
  simp only [jn_def]
  rw [wiN (n := k) (by omega)]
  simp only [if_pos (show 0 ≤ (k : Int) ∧ (k : Int) < 8 by omega), Int.toNat_natCast, h80]
  rw [if_neg (by decide)]
/-- the act of code j -/
theorem o_eat (hc : OkC c) (hT : Tg c p s0 t f σ0) {k s sum j : Nat} {cu : Nat → Nat} {τ2 : sM} (hN : Nk c s0 f k s cu) (hk : f + k < cK c) (hC : Cl c s cu τ2) (hf : fQ σ0 τ2) (hj : j ≤ 3) (h80 : τ2 80 k = (j : Int)) (hm : j = 3 ∨ mE c s j) : ∃ τ3, Cl c (chS s j) (chC cu j (f + k)) τ3 ∧ τ3 80 = τ2 80 ∧ τ3 81 = τ2 81 ∧ fQ σ0 τ3 ∧ ∀ (K28 : sM × Int → Option (Int × sM)), (if 3 ≤ wi (τ2 80 k) then K28 (τ2, 0) else if 0 ≤ (k : Int) ∧ (k : Int) < 8 then bn (X9_eatBlind τ2 (τ2 80 k) ((f : Int) + (k : Int))) (fun r43 σ45 => K28 (σ45, r43)) else none) = K28 (τ3, (chG c p s0 t cu sum j (f + k) : Int) - (sum : Int)) := by
  have c5 := hc.2.2.1
  rw [h80, wiN (n := j) (by omega)]
  unfold chS chC chG
  by_cases y : j = 3
  · rw [if_pos y, if_pos y, if_pos y]
    refine ⟨τ2, hC, rfl, rfl, hf, fun K28 => ?_⟩
    rw [if_pos (by omega), Int.sub_self]
  · rw [if_neg y, if_neg y, if_neg y]
    rcases hm with h | h
    · exact absurd h y
    · have hTτ : Tg c p s0 t f τ2 := fun w cu u a1 a2 a3 a4 a5 => by rw [hf 79 (by omega)]; exact hT w cu u a1 a2 a3 a4 a5
      obtain ⟨τ3, e3, f3, C3⟩ := f_eatB hc hN hk hTτ h hC
      refine ⟨τ3, C3, f3 80 (by omega) (by omega), f3 81 (by omega) (by omega), fun m hm => by rw [f3 m (by omega) (by omega)]; exact hf m hm, fun K28 => ?_⟩
      rw [if_neg (by omega), if_pos (by omega), e3, bn_some]
      congr 2
      omega
/-- bestRow filled to i -/
def cpR (τ : sM) (i : Nat) : sM := sUc τ 81 (fun j => if j < i then (if τ 80 j = 3 then 6 else τ 80 j) else τ 81 j)
theorem cpR_st (τ : sM) (i : Nat) : sU (cpR τ i) 81 i (if τ 80 i = 3 then 6 else τ 80 i) = cpR τ (i + 1) := by
  funext k' j'
  unfold cpR sU sUc
  by_cases q : k' = 81
  · subst q
    by_cases q2 : j' = i
    · subst q2
      rw [if_pos ⟨rfl, rfl⟩, if_pos rfl]
      show (if τ 80 j' = 3 then 6 else τ 80 j') = if j' < j' + 1 then (if τ 80 j' = 3 then 6 else τ 80 j') else τ 81 j'
      rw [if_pos (show j' < j' + 1 by omega)]
    · rw [if_neg (fun h => q2 h.2), if_pos rfl, if_pos rfl]
      show (if j' < i then (if τ 80 j' = 3 then 6 else τ 80 j') else τ 81 j') = if j' < i + 1 then (if τ 80 j' = 3 then 6 else τ 80 j') else τ 81 j'
      by_cases q3 : j' < i
      · rw [if_pos q3, if_pos (show j' < i + 1 by omega)]
      · rw [if_neg q3, if_neg (show ¬ j' < i + 1 by omega)]
  · rw [if_neg (fun h => q h.1), if_neg q, if_neg q]
end ODO
