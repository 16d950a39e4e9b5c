/-! THE MODEL: pieces. -/
theorem zPm.fr {rm : Int} {rw : Int → Int} {M M' : zM} (e1 : M' 125 62 = M 125 62) (e : ∀ k, M' 170 k = M 170 k) (h : zPm rm rw M) : zPm rm rw M' := ⟨by rw [e1]; exact h.1, h.2.fr e⟩
theorem m_doesFitL {G : zG} {h sl : Nat} (hsl : 2 ≤ sl) {T : zTb} {rm : Int} {rw : Int → Int} {line : Nat} {M : zM} {Q : Int → zM → Prop} (hT : zTok T) (hR : zRw T rm rw) (hr : zPm rm rw M) (ht : zTru T 1000 M) (hl : line < 400) :
    ∀ (d k : Nat) {u : Nat × Nat × Nat × Nat}, d + k = rm.toNat → Q (if zaq (fun k => decide (ztr T (line + (rw (3 * k)).toNat) (1 + rw (3 * k + 1)) = rw (3 * k + 2))) d k = true then 1 else 0) M → zX G (y_Md_doesFit, h + 1, sl) u 2 [(0, (2, 125)), (1, (0, (line : Int))), (2, (0, (k : Int)))] [] M Q
  | 0, k, u, e, q => B_Md_doesFit_2 hsl ⟨fun _ => q, fun g => absurd (by rw [hr.1]; omega) g⟩
  | d + 1, k, u, e, q => by
    have hb := hR.1
    obtain ⟨r1, r2, r3⟩ := hR.2 (k : Int) (by omega) (by omega)
    refine B_Md_doesFit_2 hsl ⟨fun g => absurd g (by rw [hr.1]; omega), fun _ => ?_⟩
    rw [hr.2 _ (by omega) (by omega), hr.2 _ (by omega) (by omega)]
    refine ⟨by unfold zI; omega, by omega, by unfold zI; omega, by unfold zI; omega, by omega, c_trueOf hsl hT ht (by omega) (by omega) r2.1 r2.2 ?_⟩
    rw [hr.2 _ (by omega) (by omega), show ((line : Int) + rw (3 * (k : Int))).toNat = line + (rw (3 * (k : Int))).toNat from by omega]
    refine ⟨by unfold zI; omega, by omega, fun g => ⟨by unfold zI; omega, ?_⟩, fun g => ?_⟩
    · rw [zaq_yes (p := fun k => decide (ztr T (line + (rw (3 * (k : Nat))).toNat) (1 + rw (3 * (k : Nat) + 1)) = rw (3 * (k : Nat) + 2))) (decide_eq_true g)] at q
      have := m_doesFitL (G := G) (h := h) (Q := Q) hsl hT hR hr ht hl d (k + 1) (u := u) (by omega) q
      rw [zcs] at this
      exact this
    · rw [zaq_no (p := fun k => decide (ztr T (line + (rw (3 * (k : Nat))).toNat) (1 + rw (3 * (k : Nat) + 1)) = rw (3 * (k : Nat) + 2))) (by simp only [decide_eq_true_eq]; exact g)] at q
      exact q
theorem m_doesFit {G : zG} {h sl : Nat} (hsl : 2 ≤ sl) {T : zTb} {rm : Int} {rw : Int → Int} {line : Nat} {M : zM} {Q : Int → zM → Prop} (hT : zTok T) (hR : zRw T rm rw) (hr : zPm rm rw M) (ht : zTru T 1000 M) (hl : line < 400) (q : Q (if zfp T rm rw line = true then 1 else 0) M) : zCt G (h + 1) sl 0 0 y_Md_doesFit [(2, 125), (0, (line : Int))] M Q :=
  E_Md_doesFit hsl (m_doesFitL hsl hT hR hr ht hl rm.toNat 0 (by omega) q)
theorem m_fitsL {G : zG} {h sl : Nat} (hsl : 2 ≤ sl) {T : zTb} {rm k : Int} {rw : Int → Int} {M : zM} {Q : Int → zM → Prop} (hT : zTok T) (hR : zRw T rm rw) (hr : zPm rm rw M) (ht : zTru T 1000 M) (q : Q (zkth (zfp T rm rw) (fun i => (i : Int)) 400 k) M) :
    ∀ (d i : Nat) {u : Nat × Nat × Nat × Nat}, d + i = 400 → zkh (zfp T rm rw) (fun i => (i : Int)) k i = -1 → zX G (y_Md_fits, h + 1 + 1, sl) u 11 [(0, (2, 125)), (1, (0, k)), (2, (0, (zct (zfp T rm rw) i : Nat))), (3, (0, (i : Int)))] [] M Q
  | 0, i, u, e, hz => by
    have : i = 400 := by omega
    subst this
    unfold zkth at q
    refine B_Md_fits_11 hsl ⟨fun _ => ⟨fun g => ?_, fun g => ?_⟩, fun g => absurd (by decide) g⟩
    · rw [if_neg g, hz] at q; exact q
    · rw [if_pos (by omega)] at q; exact q
  | d + 1, i, u, e, hz => by
    have hle := zct_le (zfp T rm rw) i
    refine B_Md_fits_11 hsl ⟨fun g => absurd g (by omega), fun _ => m_doesFit hsl hT hR hr ht (by omega) ?_⟩
    by_cases c : zfp T rm rw i = true
    · rw [if_pos c]
      refine ⟨fun _ => ⟨fun g => ⟨by unfold zI; omega, by unfold zI; omega, ?_⟩, fun g => ?_⟩, fun y => absurd (by decide) y⟩
      · have := m_fitsL (G := G) (h := h) (Q := Q) hsl hT hR hr ht q d (i + 1) (u := u) (by omega) (by rw [zkh_no (fun x => g x.2)]; exact hz)
        rw [zct_yes c, zcs, zcs] at this
        exact this
      · unfold zkth at q
        have ek : k = (zct (zfp T rm rw) i : Nat) := by omega
        rw [if_neg (by omega), ek, zkh_is c (by omega)] at q
        exact q
    · rw [if_neg c]
      refine ⟨fun y => absurd rfl y, fun _ => ⟨by unfold zI; omega, ?_⟩⟩
      have := m_fitsL (G := G) (h := h) (Q := Q) hsl hT hR hr ht q d (i + 1) (u := u) (by omega) (by rw [zkh_no (fun x => c x.1)]; exact hz)
      rw [zct_no c, zcs] at this
      exact this
theorem m_fits {G : zG} {h sl : Nat} (hsl : 2 ≤ sl) {T : zTb} {rm k : Int} {rw : Int → Int} {M : zM} {Q : Int → zM → Prop} (hT : zTok T) (hR : zRw T rm rw) (hr : zPm rm rw M) (ht : zTru T 1000 M) (q : Q (zkth (zfp T rm rw) (fun i => (i : Int)) 400 k) M) : zCt G (h + 2) sl 0 0 y_Md_fits [(2, 125), (0, k)] M Q := by
  refine E_Md_fits hsl ⟨fun _ => m_fitsL hsl hT hR hr ht q 400 0 rfl rfl, fun g => ?_⟩
  unfold zkth at q
  rw [if_neg (by omega), zkh_out (Or.inl (by omega))] at q
  exact q
theorem m_firstR {G : zG} {h sl : Nat} (hsl : 2 ≤ sl) {T : zTb} {rm : Int} {rw : Int → Int} {line : Nat} {M : zM} {Q : Int → zM → Prop} (hn8 : T.1 8 0 ≤ 8) (hR : zRw T rm rw) (hr : zPm rm rw M) {V : zTb} (hl : zLm (T.1 8 0) (ztr V line) M)
    (q1 : ∀ u, zwf V rm rw line = true → zX G (y_Md_fitsFirst, h + 1, sl) u 14 [(0, (2, 125)), (1, (0, (line : Int))), (2, (0, rm))] [] M Q) (q0 : zwf V rm rw line = false → Q 0 M) (hl9 : line ≤ 1000) :
    ∀ (f k : Nat) {u : Nat × Nat × Nat × Nat}, f + k = rm.toNat → (zaq (fun k => decide (rw (3 * k) = line → ztr V line (1 + rw (3 * k + 1)) = rw (3 * k + 2))) f k = zwf V rm rw line) → zX G (y_Md_fitsFirst, h + 1, sl) u 14 [(0, (2, 125)), (1, (0, (line : Int))), (2, (0, (k : Int)))] [] M Q
  | 0, k, u, e, hz => by
    have hb := hR.1
    have := q1 u hz.symm
    rw [show rm = (k : Int) from by omega] at this
    exact this
  | f + 1, k, u, e, hz => by
    have hb := hR.1
    obtain ⟨r1, r2, r3⟩ := hR.2 (k : Int) (by omega) (by omega)
    have next : (rw (3 * (k : Int)) = line → ztr V line (1 + rw (3 * (k : Int) + 1)) = rw (3 * (k : Int) + 2)) → zI ((k : Int) + 1) ∧ zX G (y_Md_fitsFirst, h + 1, sl) u 14 [(0, (2, 125)), (1, (0, (line : Int))), (2, (0, (k : Int) + 1))] [] M Q := fun g => ⟨by unfold zI; omega, by
      rw [zaq_yes (p := fun k : Nat => decide (rw (3 * (k : Int)) = line → ztr V line (1 + rw (3 * (k : Int) + 1)) = rw (3 * (k : Int) + 2))) (decide_eq_true g)] at hz
      have := m_firstR (G := G) (h := h) (Q := Q) hsl hn8 hR hr hl q1 q0 hl9 f (k + 1) (u := u) (by omega) hz
      rw [zcs] at this
      exact this⟩
    refine B_Md_fitsFirst_14 hsl ⟨fun g => absurd g (by rw [hr.1]; omega), fun _ => ?_⟩
    rw [hr.2 _ (by omega) (by omega), hr.2 _ (by omega) (by omega)]
    refine ⟨by unfold zI; omega, by omega, fun g => next (fun x => absurd x g), fun g => ⟨by unfold zI; omega, by omega, c_valueOf hsl r2.1 (by omega) ?_⟩⟩
    rw [(hl.2 _ r2.1 r2.2).1, hr.2 _ (by omega) (by omega)]
    refine ⟨by unfold zI; omega, by omega, fun g2 => next (fun _ => g2), fun g2 => q0 ?_⟩
    rw [zaq_no (p := fun k : Nat => decide (rw (3 * (k : Int)) = line → ztr V line (1 + rw (3 * (k : Int) + 1)) = rw (3 * (k : Int) + 2))) (by simp only [decide_eq_true_eq]; exact fun x => g2 (x (by omega)))] at hz
    exact hz.symm
theorem m_firstL {G : zG} {h sl : Nat} (hsl : 2 ≤ sl) {T V : zTb} {rm : Int} {rw : Int → Int} {M0 : zM} {Q : Int → zM → Prop} (hV : zTok V) (hn : V.1 8 0 = T.1 8 0) (hn8 : T.1 8 0 ≤ 8) (hR : zRw T rm rw) (hr0 : zPm rm rw M0) (hm0 : zTm V M0) :
    ∀ (f line : Nat) {M : zM} {u : Nat × Nat × Nat × Nat}, f + line = 31 → zSm zPG M0 M → zLm (T.1 8 0) (ztr V line) M → (∀ M', zSm zPG M0 M' → Q (if zaq (zwf V rm rw) f line = true then 1 else 0) M') → zX G (y_Md_fitsFirst, h + 5 + 1, sl) u 6 [(0, (2, 125)), (1, (0, (line : Int)))] [] M Q
  | 0, line, M, u, e, hM, hl, q => B_Md_fitsFirst_6 hsl ⟨fun _ => q M hM, fun g => absurd (by omega) g⟩
  | f + 1, line, M, u, e, hM, hl, q => by
    have hlo := ztr_ok hV (k := line) (by omega)
    have hm : zTm V M := hm0.fr hM
    have hr : zPm rm rw M := hr0.fr (hM _ _ (by unfold zPG; omega)) (fun k => hM _ _ (by unfold zPG; omega))
    refine B_Md_fitsFirst_6 hsl ⟨fun g => absurd g (by omega), fun _ => m_firstR (T := T) (V := V) hsl hn8 hR hr hl (fun u' g => ?_) (fun g => ?_) (by omega) rm.toNat 0 (by omega) rfl⟩
    · refine B_Md_fitsFirst_14 hsl ⟨fun _ => c_lineGoes hsl hV hlo.2 (by rw [hlo.1]; omega) hm (by rw [hn]; exact hl) (fun M1 hM1 hl1 => ⟨by unfold zI; omega, ?_⟩), fun x => absurd (by rw [hr.1]; omega) x⟩
      rw [hn] at hl1
      have hl1 : zLm (T.1 8 0) (ztr V (line + 1)) M1 := hl1
      rw [zaq_yes g] at q
      have := m_firstL (G := G) (h := h) (Q := Q) hsl hV hn hn8 hR hr0 hm0 f (line + 1) (M := M1) (u := u') (by omega) (hM.trans hM1) hl1 q
      rw [zcs] at this
      exact this
    · rw [zaq_no (by rw [g]; decide)] at q
      exact q M hM
theorem m_fitsFirst {G : zG} {h sl : Nat} (hsl : 2 ≤ sl) {T V : zTb} {rm : Int} {rw : Int → Int} {M : zM} {Q : Int → zM → Prop} (hV : zTok V) (hn : V.1 8 0 = T.1 8 0) (hn8 : T.1 8 0 ≤ 8) (hR : zRw T rm rw) (hr : zPm rm rw M) (hm : zTm V M) (q : ∀ M', zSm zPG M M' → Q (if zwd0 V rm rw = true then 1 else 0) M') : zCt G (h + 6) sl 0 0 y_Md_fitsFirst [(2, 125)] M Q := by
  refine E_Md_fitsFirst hsl (c_begins (h := h + 1) hsl hV hm (fun M1 hM1 hl1 => ?_))
  rw [hn] at hl1
  exact m_firstL (M0 := M1) (h := h) hsl hV hn hn8 hR (hr.fr (hM1 _ _ (by unfold zPG; omega)) (fun k => hM1 _ _ (by unfold zPG; omega))) (hm.fr hM1) 31 0 rfl (zSm.refl _ _) hl1 (fun M2 hM2 => q M2 (hM1.trans hM2))
/-- the Model's tablet with another difference written into it -/
theorem zTm.td {T : zTb} {c d : Int} {M M' : zM} (hT : zTok T) (c0 : 0 ≤ c) (cn : c < T.1 8 0) (e : ∀ a k, zdMk a k → ¬ (164 ≤ a ∨ a = 160 ∧ k = 56 + 7 * c + 3) → M' a k = M a k) (e5 : M' 160 (56 + 7 * c + 3) = d) (h : zTm T M) : zTm (zTd T c d) M' := by
  have h8 := hT.2.1
  obtain ⟨a, b, d', f, g⟩ := h
  have e8 : ∀ k, (zTd T c d).1 8 k = T.1 8 k := fun k => zwr_o _ (by omega)
  unfold zTm
  rw [e8, e8, e8, e 158 2 (by unfold zdMk; omega) (by omega), e 158 3 (by unfold zdMk; omega) (by omega), e 125 52 (by unfold zdMk; omega) (by omega)]
  have fC : ∀ x, 0 ≤ x → zTmC T M x → zTmC (zTd T c d) M' x := fun x x0 hx => by
    obtain ⟨p1, p2, p3, p4⟩ := hx
    unfold zTmC
    rw [e 161 _ (by unfold zdMk; omega) (by omega), e 162 _ (by unfold zdMk; omega) (by omega)]
    exact ⟨p1, p2, p3, zSg_fr (j := 1600) (fun j hj => e 163 j (by unfold zdMk; omega) (by omega)) (by omega) p4⟩
  refine ⟨a, b, d', fun x x0 xn => ?_, fun y => fC 8 (by decide) (g y)⟩
  obtain ⟨q0, q1, q2, q3, q4, q5, q6, q7⟩ := f x x0 xn
  have ek : ∀ k, k ≠ 5 → (zTd T c d).1 x k = T.1 x k := fun k hk => zwr_k _ hk
  unfold zTm1
  rw [ek 0 (by decide), ek 1 (by decide), ek 2 (by decide), ek 3 (by decide), ek 4 (by decide), ek 6 (by decide), ek 7 (by decide)]
  rw [e 160 _ (by unfold zdMk; omega) (by omega), e 160 (56 + 7 * x + 1) (by unfold zdMk; omega) (by omega), e 160 (56 + 7 * x + 2) (by unfold zdMk; omega) (by omega), e 160 (56 + 7 * x + 4) (by unfold zdMk; omega) (by omega), e 160 (56 + 7 * x + 5) (by unfold zdMk; omega) (by omega), e 160 (56 + 7 * x + 6) (by unfold zdMk; omega) (by omega)]
  refine ⟨q0, q1, q2, ?_, q4, q5, q6, fun y => fC x x0 (q7 y)⟩
  by_cases cx : x = c
  · subst cx
    rw [e5]
    exact (zwr_s _ _ _ _).symm
  · rw [e 160 (56 + 7 * x + 3) (by unfold zdMk; omega) (by omega), q3]
    exact (zwr_o _ cx).symm
def zPmd (c : Int) : Int → Int → Prop := fun a k => zPG a k ∨ a = 160 ∧ k = 56 + 7 * c + 3
theorem m_diffL {G : zG} {h sl : Nat} (hsl : 2 ≤ sl) {T : zTb} {rm c k : Int} {rw : Int → Int} {M0 : zM} {Q : Int → zM → Prop} (hT : zTok T) (hR : zRw T rm rw) (c0 : 0 ≤ c) (cn : c < T.1 8 0) (h0 : T.1 c 0 = 0) (hk : -1 ≤ k) (hr0 : zPm rm rw M0) (hm0 : zTm T M0)
    (q : ∀ M1 M', zSm (zPmd c) M0 M1 → M1 160 (56 + 7 * c + 3) = T.1 c 5 → zSm (fun a k => a = 164 ∧ 0 ≤ k ∧ k < 17 ∨ a = 125 ∧ k = 57) M1 M' → (∀ j : Int, 0 ≤ j → j < 17 → M' 164 j = M1 167 j) → Q (zkth (zdp T rm rw c) (fun i => (i : Int) + 1) (zgap T c) k) M') :
    ∀ (f i : Nat) {M : zM} {u : Nat × Nat × Nat × Nat}, f + i = zgap T c → zSm (zPmd c) M0 M → zX G (y_Md_differences, h + 6 + 1, sl) u 55 [(0, (2, 125)), (1, (0, c)), (2, (0, k)), (3, (0, 56 + 7 * c + 3)), (4, (0, T.1 c 5)), (5, (0, (zct (zdp T rm rw c) i : Nat))), (6, (0, zkh (zdp T rm rw c) (fun i => (i : Int) + 1) k i)), (7, (0, (i : Int) + 1))] [] M Q
  | 0, i, M, u, e, hM => by
    have h8 := hT.2.1
    have hok := hT.2.2.2.2.2.2.2 c c0 cn
    have hg : (zgap T c : Int) = T.1 c 2 - T.1 c 1 := by unfold zTok1 at hok; unfold zgap; omega
    obtain ⟨q0, q1, q2, _⟩ := hm0.2.2.2.1 c c0 cn
    have ei : i = zgap T c := by omega
    refine B_Md_differences_55 hsl (c_fieldOf hsl c0 (by omega) (by decide) (by decide) (c_fieldOf hsl c0 (by omega) (by decide) (by decide) ?_))
    rw [hM 160 (56 + 7 * c + 2) (by unfold zPmd zPG; omega), hM 160 (56 + 7 * c + 1) (by unfold zPmd zPG; omega), q1, q2, if_neg (by omega), if_neg (by omega)]
    refine ⟨by unfold zTok1 at hok; unfold zI; omega, fun _ => ⟨by omega, c_takesBack hsl (fun M' hM' r => ?_)⟩, fun g => absurd (by omega) g⟩
    have := q _ M' (hM.wr (Or.inr ⟨rfl, rfl⟩)) (zwr_s _ _ _ _) hM' r
    unfold zkth at this
    rw [ei]
    refine ⟨fun g => ?_, fun g => ?_⟩
    · rw [if_neg g] at this; exact this
    · rw [if_pos (by omega)] at this; exact this
  | f + 1, i, M, u, e, hM => by
    have h8 := hT.2.1
    have hok := hT.2.2.2.2.2.2.2 c c0 cn
    have hg : (zgap T c : Int) = T.1 c 2 - T.1 c 1 := by unfold zTok1 at hok; unfold zgap; omega
    have hg9 : T.1 c 2 - T.1 c 1 ≤ 999 := by unfold zTok1 at hok; omega
    have hle := zct_le (zdp T rm rw c) i
    obtain ⟨q0, q1, q2, _⟩ := hm0.2.2.2.1 c c0 cn
    refine B_Md_differences_55 hsl (c_fieldOf hsl c0 (by omega) (by decide) (by decide) (c_fieldOf hsl c0 (by omega) (by decide) (by decide) ?_))
    rw [hM 160 (56 + 7 * c + 2) (by unfold zPmd zPG; omega), hM 160 (56 + 7 * c + 1) (by unfold zPmd zPG; omega), q1, q2, if_neg (by omega), if_neg (by omega)]
    have hM1 : zSm (zPmd c) M0 (zwr M 160 (56 + 7 * c + 3) ((i : Int) + 1)) := hM.wr (Or.inr ⟨rfl, rfl⟩)
    have hTd := zTd_ok (d := (i : Int) + 1) hT c0 cn h0 (by omega)
    have hm1 : zTm (zTd T c ((i : Int) + 1)) (zwr M 160 (56 + 7 * c + 3) ((i : Int) + 1)) := zTm.td hT c0 cn (fun a j p n => hM1 a j (by unfold zdMk at p; unfold zPmd zPG; omega)) (zwr_s _ _ _ _) hm0
    refine ⟨by unfold zI; omega, fun g => absurd g (by omega), fun _ => ⟨by omega, m_fitsFirst (T := T) hsl hTd.1 hTd.2 h8 hR (hr0.fr (hM1 _ _ (by unfold zPmd zPG; omega)) (fun j => hM1 _ _ (by unfold zPmd zPG; omega))) hm1 (fun M2 hM2 => ?_)⟩⟩
    have hM2' : zSm (zPmd c) M0 M2 := hM1.trans (hM2.mono (fun _ _ p => Or.inl p))
    have ih := m_diffL (G := G) (h := h) (Q := Q) hsl hT hR c0 cn h0 hk hr0 hm0 q f (i + 1) (M := M2) (u := u) (by omega) hM2'
    rw [zcs] at ih
    have hz : zdp T rm rw c i = zwd0 (zTd T c ((i : Int) + 1)) rm rw := rfl
    rw [← hz]
    by_cases c1 : zdp T rm rw c i = true
    · rw [if_pos c1]
      rw [zct_yes c1, zcs] at ih
      refine ⟨fun _ => ⟨fun g => ⟨by unfold zI; omega, by unfold zI; omega, ?_⟩, fun g => ⟨by unfold zI; omega, by unfold zI; omega, ?_⟩⟩, fun y => absurd (by decide) y⟩
      · rw [zkh_no (fun x => g x.2)] at ih; exact ih
      · rw [zkh_yes c1 (by omega)] at ih; exact ih
    · rw [if_neg c1]
      rw [zct_no c1, zkh_no (fun x => c1 x.1)] at ih
      exact ⟨fun y => absurd rfl y, fun _ => ⟨by unfold zI; omega, ih⟩⟩
theorem m_differences {G : zG} {h sl : Nat} (hsl : 2 ≤ sl) {T : zTb} {L : Int → Int} {rm c k : Int} {rw : Int → Int} {M : zM} {Q : Int → zM → Prop} (hP : zPu T L) (hC : zMk T L M) (hR : zRw T rm rw) (hr : zPm rm rw M) (q : ∀ M', zSm zPB M M' → zMk T L M' → Q (zdif T rm rw c k) M') : zCt G (h + 7) sl 0 0 y_Md_differences [(2, 125), (0, c), (0, k)] M Q := by
  have h8 := hP.1.2.1
  have q0 := q M (zSm.refl _ _) hC
  unfold zdif at q q0
  refine E_Md_differences hsl (c_isColM hsl hP.1 hC.1 (fun a b => ⟨fun y => absurd y (by decide), fun _ => c_sortOf hsl a (by omega) ?_⟩) (fun g => ⟨fun _ => ?_, fun y => absurd rfl y⟩))
  · obtain ⟨t0, t1, t2, t3, _⟩ := hC.1.2.2.2.1 c a b
    rw [t0]
    refine ⟨fun g => ?_, fun g => ⟨fun g2 => ⟨by unfold zI; omega, by unfold zI; omega, by unfold zI; omega, by omega, c_putsAside hsl (fun M1 hM1 r1 => ?_)⟩, fun g2 => ?_⟩⟩
    · rw [if_neg (by omega)] at q0; exact q0
    · have h0 : T.1 c 0 = 0 := by omega
      rw [t3]
      have hm1 : zTm T M1 := hC.1.frG (fun a k p => hM1 a k (by unfold zdMk at p; omega))
      refine m_diffL (M0 := M1) (h := h) hsl hP.1 hR a b h0 g2 (hr.fr (hM1 _ _ (by omega)) (fun j => hM1 _ _ (by omega))) hm1 (fun M2 M3 h12 e5 h23 r3 => ?_) (zgap T c) 0 (by omega) (zSm.refl _ _)
      have hs : zSm zPB M M3 := fun x j n => by
        by_cases c1 : x = 164 ∧ 0 ≤ j ∧ j < 17
        · obtain ⟨rfl, j0, j1⟩ := c1
          rw [r3 j j0 j1, h12 167 j (by unfold zPmd zPG; omega), r1 j j0 j1]
        · unfold zPB at n
          rw [h23 x j (by omega)]
          by_cases c2 : x = 160 ∧ j = 56 + 7 * c + 3
          · obtain ⟨rfl, rfl⟩ := c2
            rw [e5, t3]
          · rw [h12 x j (by unfold zPmd zPG; omega), hM1 x j (by omega)]
      have := q M3 hs (hC.frB hP.1 hs)
      rw [if_pos ⟨⟨a, b⟩, h0⟩] at this
      exact this
    · have h0 : T.1 c 0 = 0 := by omega
      rw [if_pos ⟨⟨a, b⟩, h0⟩] at q0
      unfold zkth at q0
      rw [if_neg (by omega), zkh_out (Or.inl (by omega))] at q0
      exact q0
  · rw [if_neg (by omega)] at q0; exact q0
theorem m_alikeB {G : zG} {h sl : Nat} (hsl : 2 ≤ sl) {T : zTb} {rm c : Int} {rw : Int → Int} {e : Nat} {M0 : zM} {Q : Int → zM → Prop} (hT : zTok T) (he : e ≤ 30) (c0 : 0 ≤ c) (cn : c < T.1 8 0) (h3 : T.1 c 0 ≠ 3) (hR : zRw T rm rw) (hr0 : zPm rm rw M0) (ht0 : zTru T 1000 M0)
    (q : ∀ M', zSm (fun a _ => a = 171) M0 M' → Q (zml T rm rw e c) M') :
    ∀ (f i : Nat) (y : Int) {M : zM} {u : Nat × Nat × Nat × Nat}, f + i = 400 → y = zmx (zfp T rm rw) (fun l => ztr T (l + e) (1 + c)) i → zSm (fun a _ => a = 171) M0 M → (∀ v, 0 ≤ v → v < 1000 → M 171 v = zlk (zfp T rm rw) (fun l => ztr T (l + e) (1 + c)) v i) → zX G (y_Md_mostAlike, h + 1 + 1, sl) u 30 [(0, (2, 125)), (1, (0, (e : Int))), (2, (0, c)), (3, (0, y)), (4, (0, (i : Int)))] [] M Q
  | 0, i, y, M, u, x, ey, hM, hz => by
    have : i = 400 := by omega
    subst this
    subst ey
    exact B_Md_mostAlike_30 hsl ⟨fun _ => q M hM, fun g => absurd (by decide) g⟩
  | f + 1, i, y, M, u, x, ey, hM, hz => by
    have hr : zPm rm rw M := hr0.fr (hM _ _ (by omega)) (fun j => hM _ _ (by omega))
    have ht : zTru T 1000 M := ht0.frG (fun a j p => hM a j (by omega))
    have hmi := zmx_in (zfp T rm rw) (fun l => ztr T (l + e) (1 + c)) i
    rw [← ey] at hmi
    refine B_Md_mostAlike_30 hsl ⟨fun g => absurd g (by omega), fun _ => m_doesFit hsl hT hR hr ht (by omega) ?_⟩
    have go : ∀ (M1 : zM) (y' : Int), zSm (fun a _ => a = 171) M M1 → y' = zmx (zfp T rm rw) (fun l => ztr T (l + e) (1 + c)) (i + 1) → (∀ v, 0 ≤ v → v < 1000 → M1 171 v = zlk (zfp T rm rw) (fun l => ztr T (l + e) (1 + c)) v (i + 1)) → zI ((i : Int) + 1) ∧ zX G (y_Md_mostAlike, h + 1 + 1, sl) u 30 [(0, (2, 125)), (1, (0, (e : Int))), (2, (0, c)), (3, (0, y')), (4, (0, (i : Int) + 1))] [] M1 Q := fun M1 y' h1 h2 h3' => ⟨by unfold zI; omega, by
      have := m_alikeB (G := G) (h := h) (Q := Q) hsl hT he c0 cn h3 hR hr0 ht0 q f (i + 1) y' (M := M1) (u := u) (by omega) h2 (hM.trans h1) h3'
      rw [zcs] at this
      exact this⟩
    have es : zmx (zfp T rm rw) (fun l => ztr T (l + e) (1 + c)) (i + 1) = if zfp T rm rw i = true ∧ y < zlk (zfp T rm rw) (fun l => ztr T (l + e) (1 + c)) (ztr T (i + e) (1 + c)) i + 1 then zlk (zfp T rm rw) (fun l => ztr T (l + e) (1 + c)) (ztr T (i + e) (1 + c)) i + 1 else y := by
      rw [ey]; rfl
    have el : ∀ v, zlk (zfp T rm rw) (fun l => ztr T (l + e) (1 + c)) v (i + 1) = zlk (zfp T rm rw) (fun l => ztr T (l + e) (1 + c)) v i + (if zfp T rm rw i = true ∧ ztr T (i + e) (1 + c) = v then 1 else 0) := fun v => rfl
    by_cases hc : zfp T rm rw i = true
    · rw [if_pos hc]
      have hok := hT.2.2.2.2.2.2.2 c c0 cn
      have hv := (ztr_ok hT (k := i + e) (by omega)).2.2.2 c c0 cn
      unfold zCok at hv
      rw [if_neg h3] at hv
      have hb : 0 ≤ ztr T (i + e) (1 + c) ∧ ztr T (i + e) (1 + c) < 1000 := by unfold zTok1 at hok; omega
      have hin := zlk_in (zfp T rm rw) (fun l => ztr T (l + e) (1 + c)) (ztr T (i + e) (1 + c)) i
      refine ⟨fun _ => ⟨by unfold zI; omega, c_trueOf hsl hT ht (by omega) (by omega) c0 cn ?_⟩, fun y => absurd (by decide) y⟩
      rw [show ((i : Int) + (e : Int)).toNat = i + e from by omega, hz _ hb.1 hb.2, zwr_s]
      have tab : ∀ v, 0 ≤ v → v < 1000 → (zwr M 171 (ztr T (i + e) (1 + c)) (zlk (zfp T rm rw) (fun l => ztr T (l + e) (1 + c)) (ztr T (i + e) (1 + c)) i + 1)) 171 v = zlk (zfp T rm rw) (fun l => ztr T (l + e) (1 + c)) v (i + 1) := fun v v0 v1 => by
        rw [el]
        by_cases cv : v = ztr T (i + e) (1 + c)
        · subst cv
          rw [zwr_s, if_pos ⟨hc, rfl⟩]
        · rw [zwr_k _ cv, if_neg (fun x => cv x.2.symm), hz v v0 v1]
          omega
      refine ⟨hb, by unfold zI; omega, fun g => go _ _ ((zSm.refl _ M).wr rfl) ?_ tab, fun g => go _ _ ((zSm.refl _ M).wr rfl) ?_ tab⟩
      · rw [es, if_neg (fun x => by omega)]
      · rw [es, if_pos ⟨hc, by omega⟩]
    · rw [if_neg hc]
      refine ⟨fun y => absurd rfl y, fun _ => go M y (zSm.refl _ _) ?_ (fun v v0 v1 => ?_)⟩
      · rw [es, if_neg (fun x => hc x.1)]
      · rw [el, if_neg (fun x => hc x.1), hz v v0 v1]
        omega
theorem m_alikeA {G : zG} {h sl : Nat} (hsl : 2 ≤ sl) {T : zTb} {rm c : Int} {rw : Int → Int} {e : Nat} {M0 : zM} {Q : Int → zM → Prop} (hT : zTok T) (he : e ≤ 30) (c0 : 0 ≤ c) (cn : c < T.1 8 0) (h3 : T.1 c 0 ≠ 3) (hR : zRw T rm rw) (hr0 : zPm rm rw M0) (ht0 : zTru T 1000 M0)
    (q : ∀ M', zSm (fun a _ => a = 171) M0 M' → Q (zml T rm rw e c) M') :
    ∀ (f i : Nat) {M : zM} {u : Nat × Nat × Nat × Nat}, f + i = 1000 → zSm (fun a _ => a = 171) M0 M → (∀ v, 0 ≤ v → v < (i : Int) → M 171 v = 0) → zX G (y_Md_mostAlike, h + 1 + 1, sl) u 5 [(0, (2, 125)), (1, (0, (e : Int))), (2, (0, c)), (3, (0, 0)), (4, (0, (i : Int)))] [] M Q
  | 0, i, M, u, x, hM, hz => B_Md_mostAlike_5 hsl ⟨fun _ => m_alikeB (M0 := M0) hsl hT he c0 cn h3 hR hr0 ht0 q 400 0 0 rfl rfl hM (fun v v0 v1 => hz v v0 (by omega)), fun g => absurd (by omega) g⟩
  | f + 1, i, M, u, x, hM, hz => by
    refine B_Md_mostAlike_5 hsl ⟨fun g => absurd g (by omega), fun _ => ⟨by omega, by unfold zI; omega, ?_⟩⟩
    have := m_alikeA (G := G) (h := h) (Q := Q) hsl hT he c0 cn h3 hR hr0 ht0 q f (i + 1) (M := zwr M 171 (i : Int) 0) (u := u) (by omega) (hM.wr rfl) (fun v v0 v1 => by
      by_cases c : v = (i : Int)
      · subst c; exact zwr_s _ _ _ _
      · rw [zwr_k _ c]; exact hz v v0 (by omega))
    rw [zcs] at this
    exact this
/-- the Model's two signs that something has been found agree -/
def zWx (x : Int × Int × Int) : Prop := x.1 = -1 ∧ x.2.2 = 0 ∨ 0 ≤ x.1 ∧ 0 < x.2.2
theorem m_tellsC {G : zG} {h sl : Nat} (hsl : 2 ≤ sl) {T : zTb} {rm w : Int} {rw : Int → Int} {e : Nat} {M0 : zM} {x0 : Int × Int × Int} {Q : Int → zM → Prop} (hT : zTok T) (he : e ≤ 30) (hR : zRw T rm rw) (hr0 : zPm rm rw M0) (ht0 : zTru T 1000 M0) (hm0 : zTm T M0)
    (q : ∀ M' u x, zSm (fun a _ => a = 171) M0 M' → x = zte2 T rm rw e x0 (T.1 8 0).toNat → zWx x → zX G (y_Md_tells, h + 2 + 1, sl) u 24 [(0, (2, 125)), (1, (0, w)), (2, (0, x.1)), (3, (0, x.2.1)), (4, (0, x.2.2)), (5, (0, (e : Int) + 1))] [] M' Q) :
    ∀ (f k : Nat) (X : Int × Int × Int) {M : zM} {u : Nat × Nat × Nat × Nat}, f + k = (T.1 8 0).toNat → zSm (fun a _ => a = 171) M0 M → X = zte2 T rm rw e x0 k → zWx X → zX G (y_Md_tells, h + 2 + 1, sl) u 34 [(0, (2, 125)), (1, (0, w)), (2, (0, X.1)), (3, (0, X.2.1)), (4, (0, X.2.2)), (5, (0, (e : Int))), (6, (0, (k : Int)))] [] M Q
  | 0, k, X, M, u, x, hM, eX, hx => by
    have hn := hT.1
    have hm : zTm T M := hm0.frG (fun a j p => hM a j (by unfold zdMk at p; omega))
    refine B_Md_tells_34 hsl (E_Md_columnMany hsl ?_)
    rw [hm.two]
    exact ⟨fun _ => ⟨by unfold zI; omega, q M u X hM (by rw [eX, show (T.1 8 0).toNat = k from by omega]) hx⟩, fun g => absurd (by omega) g⟩
  | f + 1, k, X, M, u, x, hM, eX, hx => by
    have hn := hT.1
    have hn8 := hT.2.1
    have hm : zTm T M := hm0.frG (fun a j p => hM a j (by unfold zdMk at p; omega))
    have hr : zPm rm rw M := hr0.fr (hM _ _ (by omega)) (fun j => hM _ _ (by omega))
    have ht : zTru T 1000 M := ht0.frG (fun a j p => hM a j (by omega))
    have hml := zml_in T rm rw e (k : Int)
    have es : zte2 T rm rw e x0 (k + 1) = zte1 T rm rw e k X := by rw [eX]; rfl
    have next : ∀ (M1 : zM) (X' : Int × Int × Int), zSm (fun a _ => a = 171) M M1 → X' = zte1 T rm rw e k X → zWx X' → zI ((k : Int) + 1) ∧ zX G (y_Md_tells, h + 2 + 1, sl) u 34 [(0, (2, 125)), (1, (0, w)), (2, (0, X'.1)), (3, (0, X'.2.1)), (4, (0, X'.2.2)), (5, (0, (e : Int))), (6, (0, (k : Int) + 1))] [] M1 Q := fun M1 X' h1 h2 h3 => ⟨by unfold zI; omega, by
      have := m_tellsC (G := G) (h := h) (Q := Q) hsl hT he hR hr0 ht0 hm0 q f (k + 1) X' (M := M1) (u := u) (by omega) (hM.trans h1) (by rw [es]; exact h2) h3
      rw [zcs] at this
      exact this⟩
    refine B_Md_tells_34 hsl (E_Md_columnMany hsl ?_)
    rw [hm.two]
    refine ⟨fun g => absurd g (by omega), fun _ => c_sortOf hsl (by omega) (by omega) ?_⟩
    rw [(hm.2.2.2.1 (k : Int) (by omega) (by omega)).1]
    refine ⟨fun g => E_Md_mostAlike hsl (m_alikeA (M0 := M) hsl hT he (by omega) (by omega) g hR hr ht (fun M1 hM1 => ?_) 1000 0 rfl (zSm.refl _ _) (fun v v0 v1 => absurd v1 (by omega))), fun g => next M X (zSm.refl _ _) ?_ hx⟩
    · have same : ¬ (0 < zml T rm rw e k ∧ (X.2.2 = 0 ∨ zml T rm rw e k < X.2.2)) → X = zte1 T rm rw e k X := fun y => by
        unfold zte1
        rw [if_neg (fun z => y z.2)]
      have take : (0 < zml T rm rw e k ∧ (X.2.2 = 0 ∨ zml T rm rw e k < X.2.2)) → ((e : Int), (k : Int), zml T rm rw e k) = zte1 T rm rw e k X := fun y => by
        unfold zte1
        rw [if_pos ⟨g, y⟩]
      unfold zWx at hx
      refine ⟨fun g1 => next M1 X hM1 (same (by omega)) hx, fun g1 => ⟨fun g2 => next M1 ((e : Int), (k : Int), zml T rm rw e k) hM1 (take ⟨by omega, Or.inl (by omega)⟩) (Or.inr ⟨Int.natCast_nonneg e, by show 0 < zml T rm rw e k; omega⟩), fun g2 => ⟨fun g3 => next M1 ((e : Int), (k : Int), zml T rm rw e k) hM1 (take ⟨by omega, Or.inr g3⟩) (Or.inr ⟨Int.natCast_nonneg e, by show 0 < zml T rm rw e k; omega⟩), fun g3 => next M1 X hM1 (same (by omega)) hx⟩⟩⟩
    · unfold zte1
      rw [if_neg (fun z => g (fun y => z.1 y))]
theorem m_tellsD {G : zG} {h sl : Nat} (hsl : 2 ≤ sl) {T : zTb} {rm w : Int} {rw : Int → Int} {M0 : zM} {Q : Int → zM → Prop} (hT : zTok T) (hR : zRw T rm rw) (hr0 : zPm rm rw M0) (ht0 : zTru T 1000 M0) (hm0 : zTm T M0) (w0 : 0 ≤ w) (w2 : w ≤ 2)
    (q : ∀ M', zSm (fun a _ => a = 171) M0 M' → Q (ztel T rm rw w) M') :
    ∀ (f e : Nat) (X : Int × Int × Int) {M : zM} {u : Nat × Nat × Nat × Nat}, f + e = 31 → zSm (fun a _ => a = 171) M0 M → X = zte T rm rw e → zWx X → zX G (y_Md_tells, h + 2 + 1, sl) u 24 [(0, (2, 125)), (1, (0, w)), (2, (0, X.1)), (3, (0, X.2.1)), (4, (0, X.2.2)), (5, (0, (e : Int)))] [] M Q
  | 0, e, X, M, u, x, hM, eX, hx => by
    have : e = 31 := by omega
    subst this
    have qq := q M hM
    unfold ztel at qq
    rw [← eX] at qq
    unfold zWx at hx
    refine B_Md_tells_24 hsl ⟨fun _ => ⟨fun g => ⟨fun g1 => ⟨fun g2 => ?_, fun g2 => ?_⟩, fun g1 => ?_⟩, fun g => ?_⟩, fun g => absurd (by decide) g⟩
    · rw [if_neg (by omega), if_neg g1, if_neg g2, if_pos (by omega)] at qq; exact qq
    · rw [if_neg (by omega), if_neg g1, if_pos (by omega)] at qq; exact qq
    · rw [if_neg (by omega), if_pos (by omega)] at qq; exact qq
    · rw [if_pos (by omega)] at qq; exact qq
  | f + 1, e, X, M, u, x, hM, eX, hx => by
    refine B_Md_tells_24 hsl ⟨fun g => absurd g (by omega), fun _ => m_tellsC (M0 := M0) (x0 := X) hsl hT (by omega) hR hr0 ht0 hm0 (fun M' u' x' h1 h2 h3 => ?_) (T.1 8 0).toNat 0 X (by omega) hM rfl hx⟩
    have := m_tellsD (G := G) (h := h) (Q := Q) hsl hT hR hr0 ht0 hm0 w0 w2 q f (e + 1) x' (M := M') (u := u') (by omega) h1 (by rw [h2, eX]; rfl) h3
    rw [zcs] at this
    exact this
theorem m_tells {G : zG} {h sl : Nat} (hsl : 2 ≤ sl) {T : zTb} {L : Int → Int} {rm w : Int} {rw : Int → Int} {M : zM} {Q : Int → zM → Prop} (hP : zPu T L) (hC : zMk T L M) (hR : zRw T rm rw) (hr : zPm rm rw M) (q : ∀ M', zSm (fun a _ => a = 171) M M' → zMk T L M' → Q (ztel T rm rw w) M') : zCt G (h + 3) sl 0 0 y_Md_tells [(2, 125), (0, w)] M Q := by
  have q' : ∀ M', zSm (fun a _ => a = 171) M M' → Q (ztel T rm rw w) M' := fun M' hM => q M' hM (hC.fr hP.1 (fun a k p => hM a k (by unfold zdMk at p; omega)))
  refine E_Md_tells hsl (c_isIn hsl (fun a b => ⟨fun _ => m_tellsD (M0 := M) hsl hP.1 hR hr hC.2.2 hC.1 a b q' 31 0 (-1, -1, 0) rfl (zSm.refl _ _) rfl (Or.inl ⟨rfl, rfl⟩), fun y => absurd (by decide) y⟩) (fun g => ⟨fun y => absurd rfl y, fun _ => ?_⟩))
  have := q' M (zSm.refl _ _)
  unfold ztel at this
  split at this
  · exact this
  · rw [if_neg (by omega), if_neg (by omega), if_neg (by omega)] at this; exact this
