/-- what is laid ahead: so many lines, and which are marked -/
def zAhd (T : zTb) (L : Int → Int) (m : Nat) (M : zM) : Prop := ∀ k : Nat, k < m → (∀ c : Int, 0 ≤ c → c < T.1 8 0 → M 168 (8 * (k : Int) + c) = zln T L k (1 + c)) ∧ M 169 (k : Int) = zmk T (zln T L k)
def zPA : Int → Int → Prop := fun a k => zPG a k ∨ a = 167 ∨ a = 168 ∨ a = 169 ∨ a = 125 ∧ (k = 57 ∨ k = 61)
def zPB : Int → Int → Prop := fun a k => a = 195 ∨ a = 167 ∨ a = 168 ∨ a = 169 ∨ a = 125 ∧ (k = 50 ∨ k = 54 ∨ k = 96 ∨ k = 57 ∨ k = 61)
theorem zPG_PA {M M' : zM} (h : zSm zPG M M') : zSm zPA M M' := h.mono (fun _ _ p => Or.inl p)
theorem zTm.frA {T : zTb} {M M' : zM} (hm : zSm zPA M M') (h : zTm T M) : zTm T M' := by
  obtain ⟨a, b, d, f, g⟩ := h
  unfold zTm
  rw [hm 158 2 (by unfold zPA zPG; omega), hm 158 3 (by unfold zPA zPG; omega), hm 125 52 (by unfold zPA zPG; omega)]
  exact ⟨a, b, d, fun c h0 hc => (f c h0 hc).fr (fun a k h1 h2 => hm a k (by unfold zPA zPG; omega)), fun q => (g q).fr (fun a k h1 h2 => hm a k (by unfold zPA zPG; omega))⟩
theorem zmk_01 (T : zTb) (L : Int → Int) : zmk T L = 0 ∨ zmk T L = 1 := by
  unfold zmk
  split
  · split <;> simp
  · simp
theorem c_laysAheadI {G : zG} {h sl : Nat} (hsl : 2 ≤ sl) {T : zTb} {k : Nat} {L : Int → Int} {M0 : zM} {Q : Int → zM → Prop} (hT : zTok T) (hk : k ≤ 200)
    (go : ∀ M u, zSm (fun a _ => a = 168) M0 M → (∀ c : Int, 0 ≤ c → c < T.1 8 0 → M 168 (8 * (k : Int) + c) = L (1 + c)) → (∀ i, i < 8 * (k : Int) → M 168 i = M0 168 i) → zX G (y_Md_laysAhead, h + 1, sl) u 33 [(0, (2, 125)), (1, (0, 8))] [] M Q) (hl : zLm (T.1 8 0) L M0) (h61 : M0 125 61 = k) :
    ∀ (d j : Nat) {M : zM} {u : Nat × Nat × Nat × Nat}, d + j = 8 → zSm (fun a _ => a = 168) M0 M → (∀ c : Int, 0 ≤ c → c < (j : Int) → c < T.1 8 0 → M 168 (8 * (k : Int) + c) = L (1 + c)) → (∀ i, i < 8 * (k : Int) → M 168 i = M0 168 i) → zX G (y_Md_laysAhead, h + 1, sl) u 33 [(0, (2, 125)), (1, (0, (j : Int)))] [] M Q
  | 0, j, M, u, e, hM, hr, ho => by
    have : j = 8 := by omega
    subst this
    have hn8 := hT.2.1
    exact go M u hM (fun c a b => hr c a (by omega) b) ho
  | d + 1, j, M, u, e, hM, hr, ho => by
    have hn8 := hT.2.1
    have e61 : M 125 61 = k := by rw [hM 125 61 (by omega)]; exact h61
    refine B_Md_laysAhead_33 hsl ⟨fun g => absurd g (by omega), fun _ => ⟨by rw [e61]; unfold zI; omega, by rw [e61]; unfold zI; omega, c_valueOf hsl (by omega) (by omega) ⟨by omega, by unfold zI; omega, ?_⟩⟩⟩
    rw [e61]
    have := c_laysAheadI (G := G) (h := h) (Q := Q) hsl hT hk go hl h61 d (j + 1) (M := zwr M 168 (8 * k + j) (M 164 (1 + j))) (u := u) (by omega) (hM.wr rfl) (fun c a b b2 => ?_) (fun i hi => ?_)
    · rw [zcs] at this
      exact this
    · by_cases q : c = j
      · subst q
        rw [zwr_s, hM 164 _ (by omega)]
        exact (hl.2 _ a b2).1
      · rw [zwr_k _ (by omega)]
        exact hr c a (by omega) b2
    · rw [zwr_k _ (by omega)]
      exact ho i hi
def zam (L : Int → Int) : Nat := min 201 (1000 - L 0).toNat
theorem c_laysAheadL {G : zG} {h sl : Nat} (hsl : 2 ≤ sl) {T : zTb} {L : Int → Int} {M0 : zM} {Q : Int → zM → Prop} (hT : zTok T) (hL : zLok T (T.1 8 0) L) (hn : L 0 ≤ 999) (q : ∀ M' u, zSm zPA M0 M' → M' 167 = M0 167 → M' 125 61 = zam L → zAhd T L (zam L) M' → zX G (y_Md_laysAhead, h + 5 + 1, sl) u 94 [(0, (2, 125))] [] M' Q) :
    ∀ (d k : Nat) {M : zM} {u : Nat × Nat × Nat × Nat}, d + k = zam L → zSm zPA M0 M → M 167 = M0 167 → zTm T M → M 125 61 = k → zAhd T L k M → zLm (T.1 8 0) (zln T L k) M → zX G (y_Md_laysAhead, h + 5 + 1, sl) u 9 [(0, (2, 125))] [] M Q
  | 0, k, M, u, e, hM, h7, hm, h61, ha, hl => by
    have hk : k = zam L := by omega
    have h0 := hL.1
    have hln := zln_ok hT hL k (by unfold zam at hk; omega)
    have hq := q M u hM h7 (by rw [h61, hk]) (hk ▸ ha)
    refine B_Md_laysAhead_9 hsl ⟨fun _ => hq, fun g => ⟨fun _ => hq, fun g2 => ?_⟩⟩
    rw [hl.1, hln.1] at g2
    unfold zam at hk
    omega
  | d + 1, k, M, u, e, hM, h7, hm, h61, ha, hl => by
    have hk : k < zam L := by omega
    have h0 := hL.1
    have hb : k ≤ 200 ∧ L 0 + k ≤ 999 := by unfold zam at hk; omega
    have hln := zln_ok hT hL k (by omega)
    refine B_Md_laysAhead_9 hsl ⟨fun g => absurd g (by omega), fun _ => ⟨fun g => absurd g (by rw [hl.1, hln.1]; omega), fun _ => ?_⟩⟩
    refine c_laysAheadI (M0 := M) (k := k) (L := zln T L k) hsl hT hb.1 (fun M1 u1 hM1 hr1 ho1 => ?_) hl h61 8 0 rfl (zSm.refl _ _) (fun c a b _ => absurd b (by omega)) (fun i _ => rfl)
    have g1 : zSm zPA M M1 := hM1.mono (fun a _ p => Or.inr (Or.inr (Or.inl p)))
    have l1 : zLm (T.1 8 0) (zln T L k) M1 := hl.fr (fun j => hM1 164 j (by omega))
    have e1 : M1 125 61 = k := by rw [hM1 125 61 (by omega)]; exact h61
    refine B_Md_laysAhead_33 hsl ⟨fun _ => c_isMarkedM (h := h + 2) hsl hT hln.2 (hm.frA g1) l1 (fun M2 hM2 => ?_), fun g => absurd (by decide) g⟩
    have e2 : ∀ v, (zwr M2 169 (M1 125 61) v) 125 61 = k := fun v => by rw [zwr_o _ (by decide), hM2 125 61 (by unfold zPS; omega)]; exact e1
    rw [e2, e1]
    refine ⟨by omega, by unfold zI; omega, ?_⟩
    have g2 : zSm zPA M1 (zwr (zwr M2 169 k (zmk T (zln T L k))) 125 61 (k + 1)) := ((zPG_PA (zPS_PG hM2)).wr (Or.inr (Or.inr (Or.inr (Or.inl rfl))))).wr (Or.inr (Or.inr (Or.inr (Or.inr ⟨rfl, Or.inr rfl⟩))))
    have e164 : ∀ j, (zwr (zwr M2 169 k (zmk T (zln T L k))) 125 61 (k + 1)) 164 j = M1 164 j := fun j => by rw [zwr_o _ (by decide), zwr_o _ (by decide), hM2 164 j (by unfold zPS; omega)]
    refine c_lineGoes (h := h) hsl hT hln.2 (by rw [hln.1]; omega) (hm.frA (g1.trans g2)) (l1.fr e164) (fun M3 hM3 hl3 => ?_)
    refine c_laysAheadL (G := G) (h := h) (Q := Q) hsl hT hL hn q d (k + 1) (M := M3) (u := u1) (by omega) ((hM.trans (g1.trans g2)).trans (zPG_PA hM3)) ?_ (hm.frA ((g1.trans g2).trans (zPG_PA hM3))) ?_ (fun i hi => ?_) hl3
    · rw [← h7]
      funext j
      rw [hM3 167 j (by unfold zPG; omega), zwr_o _ (by decide), zwr_o _ (by decide), hM2 167 j (by unfold zPS; omega), hM1 167 j (by omega)]
    · rw [hM3 125 61 (by unfold zPG; omega), zwr_s, zcs]
    · have r8 : ∀ j, M3 168 j = M1 168 j := fun j => by rw [hM3 168 j (by unfold zPG; omega), zwr_o _ (by decide), zwr_o _ (by decide), hM2 168 j (by unfold zPS; omega)]
      by_cases qk : i = k
      · subst qk
        refine ⟨fun c a b => by rw [r8]; exact hr1 c a b, ?_⟩
        rw [hM3 169 _ (by unfold zPG; omega), zwr_o _ (by decide), zwr_s]
      · have hh := ha i (by omega)
        refine ⟨fun c a b => ?_, ?_⟩
        · have := hT.2.1
          rw [r8, ho1 _ (by omega)]
          exact hh.1 c a b
        · rw [hM3 169 _ (by unfold zPG; omega), zwr_o _ (by decide), zwr_k _ (by omega), hM2 169 _ (by unfold zPS; omega), hM1 169 _ (by omega)]
          exact hh.2
theorem c_laysAhead {G : zG} {h sl : Nat} (hsl : 2 ≤ sl) {T : zTb} {L : Int → Int} {M : zM} {Q : Int → zM → Prop} (hT : zTok T) (hL : zLok T (T.1 8 0) L) (hn : L 0 ≤ 999) (hm : zTm T M) (hl : zLm (T.1 8 0) L M) (q : ∀ M', zSm zPB M M' → M' 125 61 = zam L → zAhd T L (zam L) M' → Q 0 M') : zCt G (h + 6) sl 0 0 y_Md_laysAhead [(2, 125)] M Q := by
  have h1 : zSm zPA M (zwr M 125 61 0) := (zSm.refl _ M).wr (Or.inr (Or.inr (Or.inr (Or.inr ⟨rfl, Or.inr rfl⟩))))
  refine E_Md_laysAhead hsl (c_putsAside hsl (fun M1 hM1 hr1 => ?_))
  have h2 : zSm zPA (zwr M 125 61 0) M1 := hM1.mono (fun a k p => by unfold zPA; omega)
  have e164 : ∀ j, M1 164 j = M 164 j := fun j => by rw [hM1 164 j (by omega), zwr_o _ (by decide)]
  refine c_laysAheadL (M0 := M1) (h := h) hsl hT hL hn (fun M2 u hM2 h7 h61 ha => ?_) (zam L) 0 (by omega) (zSm.refl _ _) rfl (hm.frA (h1.trans h2)) ?_ (fun i hi => absurd hi (by omega)) (hl.fr e164)
  · refine B_Md_laysAhead_94 hsl (c_takesBack hsl (fun M3 hM3 hr3 => ?_))
    refine q M3 (fun a k n => ?_) ?_ (fun i hi => ⟨fun c a b => ?_, ?_⟩)
    · by_cases c : a = 164 ∧ 0 ≤ k ∧ k < 17
      · obtain ⟨rfl, c0, c1⟩ := c
        rw [hr3 k c0 c1, h7, hr1 k c0 c1, zwr_o _ (by decide)]
      · unfold zPB at n
        rw [hM3 a k (by omega), hM2 a k (by unfold zPA zPG; omega), hM1 a k (by omega), h1 a k (by unfold zPA zPG; omega)]
    · rw [hM3 125 61 (by omega)]
      exact h61
    · rw [hM3 168 _ (by omega)]
      exact (ha i hi).1 c a b
    · rw [hM3 169 _ (by omega)]
      exact (ha i hi).2
  · rw [hM1 125 61 (by omega), zwr_s]
    rfl
