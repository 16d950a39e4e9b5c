/-! THE CLASS: differences(). -/
theorem zTd_lok {T : zTb} {c d n : Int} {L : Int → Int} (h : zLok (zTd T c d) n L) : zLok T n L := by
  refine ⟨h.1, h.2.1, fun e e0 en => ?_⟩
  have he := h.2.2 e e0 en
  have ek : ∀ k, k ≠ 5 → (zTd T c d).1 e k = T.1 e k := fun k hk => zwr_k _ hk
  unfold zCok at he ⊢
  rw [ek 0 (by decide), ek 1 (by decide), ek 2 (by decide)] at he
  exact he
theorem c_wouldR {G : zG} {h sl : Nat} (hsl : 1 ≤ sl) {T V : zTb} {t rm c d D : Int} {rw : Int → Int} {line : Nat} {M : zM} {Q : Int → zM → Prop} (hn8 : T.1 8 0 ≤ 8) (hR : zRw T rm rw) (hr : zPr rm rw M) (hl : zLc (T.1 8 0) (ztr V line) M 64)
    (q1 : ∀ u, zwf V rm rw line = true → zX G (y_Piece_wouldFit, h + 1, sl) u 21 [(0, (2, 63)), (1, (2, t)), (2, (0, c)), (3, (0, d)), (4, (0, D)), (5, (0, (line : Int))), (6, (0, rm))] [] M Q) (q0 : zwf V rm rw line = false → Q 0 M) :
    ∀ (f k : Nat) {u : Nat × Nat × Nat × Nat}, f + k = rm.toNat → (zaq (fun k => decide (rw (3 * k) = line → ztr V line (1 + rw (3 * k + 1)) = rw (3 * k + 2))) f k = zwf V rm rw line) → zX G (y_Piece_wouldFit, h + 1, sl) u 21 [(0, (2, 63)), (1, (2, t)), (2, (0, c)), (3, (0, d)), (4, (0, D)), (5, (0, (line : Int))), (6, (0, (k : Int)))] [] M Q
  | 0, k, u, e, hz => by
    have hb := hR.1
    have := q1 u hz.symm
    rw [show rm = (k : Int) from by omega] at this
    exact this
  | f + 1, k, u, e, hz => by
    have hb := hR.1
    obtain ⟨r1, r2, r3⟩ := hR.2 (k : Int) (by omega) (by omega)
    obtain ⟨e1, e2, e3⟩ := hr.2 (k : Int) (by omega) (by omega)
    have next : (rw (3 * (k : Int)) = line → ztr V line (1 + rw (3 * (k : Int) + 1)) = rw (3 * (k : Int) + 2)) → zI ((k : Int) + 1) ∧ zX G (y_Piece_wouldFit, h + 1, sl) u 21 [(0, (2, 63)), (1, (2, t)), (2, (0, c)), (3, (0, d)), (4, (0, D)), (5, (0, (line : Int))), (6, (0, (k : Int) + 1))] [] M Q := fun g => ⟨by unfold zI; omega, by
      rw [zaq_yes (p := fun k : Nat => decide (rw (3 * (k : Int)) = line → ztr V line (1 + rw (3 * (k : Int) + 1)) = rw (3 * (k : Int) + 2))) (decide_eq_true g)] at hz
      have := c_wouldR (G := G) (h := h) (Q := Q) hsl hn8 hR hr hl q1 q0 f (k + 1) (u := u) (by omega) hz
      rw [zcs] at this
      exact this⟩
    refine B_Piece_wouldFit_21 hsl ⟨fun g => absurd g (by rw [hr.1]; omega), fun _ => ⟨by omega, ?_⟩⟩
    rw [e1, e2, e3]
    refine ⟨fun g => next (fun x => absurd x g), fun g => ⟨by omega, ?_⟩⟩
    rw [show M 65 (rw (3 * (k : Int) + 1)) = ztr V line (1 + rw (3 * (k : Int) + 1)) from (hl.2.2 _ r2.1 r2.2).1]
    refine ⟨fun g2 => next (fun _ => g2), fun g2 => q0 ?_⟩
    rw [zaq_no (p := fun k : Nat => decide (rw (3 * (k : Int)) = line → ztr V line (1 + rw (3 * (k : Int) + 1)) = rw (3 * (k : Int) + 2))) (by simp only [decide_eq_true_eq]; exact fun x => g2 (x (by omega)))] at hz
    exact hz.symm
theorem c_wouldL {G : zG} {h sl : Nat} (hsl : 1 ≤ sl) {T : zTb} {t rm c d D : Int} {rw : Int → Int} {M0 : zM} {Q : Int → zM → Prop} (hT : zTok T) (ht : t = 79 ∨ t = 102) (hR : zRw T rm rw) (c0 : 0 ≤ c) (cn : c < T.1 8 0) (h0 : T.1 c 0 = 0) (hd : 1 ≤ d ∧ d ≤ T.1 c 2 - T.1 c 1) (hD : D ≤ 30)
    (hr0 : zPr rm rw M0) (hm0 : zTc T M0 t) :
    ∀ (f line : Nat) {M : zM} {u : Nat × Nat × Nat × Nat}, (f : Int) + line = D + 1 → zSm (zPC t 64) M0 M → zLc (T.1 8 0) (ztr (zTd T c d) line) M 64 → (∀ M', zSm (zPC t 64) M0 M' → Q (if zaq (zwf (zTd T c d) rm rw) f line = true then 1 else 0) M') → zX G (y_Piece_wouldFit, h + 4 + 1, sl) u 11 [(0, (2, 63)), (1, (2, t)), (2, (0, c)), (3, (0, d)), (4, (0, D)), (5, (0, (line : Int)))] [] M Q
  | 0, line, M, u, e, hM, hl, q => B_Piece_wouldFit_11 hsl ⟨fun _ => q M hM, fun g => absurd (by omega) g⟩
  | f + 1, line, M, u, e, hM, hl, q => by
    have hk8 : zK t = (8, 0) := by rcases ht with rfl | rfl <;> decide
    have hTd := zTd_ok hT c0 cn h0 hd
    have hlo := ztr_ok hTd.1 (k := line) (by omega)
    rw [hTd.2] at hlo
    have hm : zTc T M t := hm0.fr (by omega) hM
    have hr : zPr rm rw M := hr0.fr (fun a j p => hM a j (by unfold zPC zPLn; omega))
    refine B_Piece_wouldFit_11 hsl ⟨fun g => absurd g (by omega), fun _ => c_wouldR (T := T) (V := zTd T c d) hsl hT.2.1 hR hr hl (fun u' g => ?_) (fun g => ?_) rm.toNat 0 (by omega) rfl⟩
    · refine B_Piece_wouldFit_21 hsl ⟨fun _ => ⟨hk8, c_next hsl hk8 (by omega) (by decide) hT (zTd_lok hlo.2) (by rw [hlo.1]; omega) (fun e e0 en ee => by subst ee; exact ⟨h0, hd⟩) hm hl (fun M1 hM1 hl1 => ⟨by unfold zI; omega, ?_⟩)⟩, fun x => absurd (by rw [hr.1]; omega) x⟩
      rw [zTd_nx hT cn h0] at hl1
      have hl1 : zLc (T.1 8 0) (ztr (zTd T c d) (line + 1)) M1 64 := hl1
      rw [zaq_yes g] at q
      have := c_wouldL (G := G) (h := h) (Q := Q) hsl hT ht hR c0 cn h0 hd hD hr0 hm0 f (line + 1) (M := M1) (u := u') (by omega) (hM.trans hM1) hl1 q
      rw [zcs] at this
      exact this
    · rw [zaq_no (by rw [g]; decide)] at q
      exact q M hM
theorem c_wouldFit {G : zG} {h sl : Nat} (hsl : 1 ≤ sl) {T : zTb} {t rm c D : Int} {i : Nat} {rw : Int → Int} {M : zM} {Q : Int → zM → Prop} (hT : zTok T) (ht : t = 79 ∨ t = 102) (hR : zRw T rm rw) (c0 : 0 ≤ c) (cn : c < T.1 8 0) (h0 : T.1 c 0 = 0) (hd : (i : Int) + 1 ≤ T.1 c 2 - T.1 c 1) (hD : -1 ≤ D ∧ D ≤ 30) (hdeep : ∀ k, 0 ≤ k → k < rm → rw (3 * k) ≤ D)
    (hr : zPr rm rw M) (hm : zTc T M t) (q : ∀ M', zSm (zPC t 64) M M' → Q (if zdp T rm rw c i = true then 1 else 0) M') : zCt G (h + 5) sl 0 0 y_Piece_wouldFit [(2, 63), (2, t), (0, c), (0, (i : Int) + 1), (0, D)] M Q := by
  have hk8 : zK t = (8, 0) := by rcases ht with rfl | rfl <;> decide
  refine E_Piece_wouldFit hsl ⟨hk8, c_begin (h := h + 1) hsl hk8 (by omega) (by decide) hT hm (fun M1 hM1 hl1 => ?_)⟩
  have e0 : zbg T = ztr (zTd T c ((i : Int) + 1)) 0 := (zTd_bg hT cn).symm
  rw [e0] at hl1
  refine c_wouldL (M0 := M1) (h := h) hsl hT ht hR c0 cn h0 ⟨by omega, hd⟩ hD.2 (hr.fr (fun a j p => hM1 a j (by unfold zPC zPLn; omega))) (hm.fr (by omega) hM1) (D + 1).toNat 0 (by omega) (zSm.refl _ _) hl1 (fun M2 hM2 => ?_)
  have hz := zwd_deep (T := zTd T c ((i : Int) + 1)) (rm := rm) (rw := rw) (m := (D + 1).toNat) (by omega) (fun k k0 kn => by have := hdeep k k0 kn; omega)
  have := q M2 (hM1.trans hM2)
  unfold zdp at this
  rw [hz]
  exact this
def zPld (t : Int) : Int → Int → Prop := fun a k => a = 63 ∧ (k = 10 ∨ k = 16) ∨ a = 71 ∨ zPC t 64 a k
theorem c_listDL {G : zG} {h sl : Nat} (hsl : 1 ≤ sl) {T : zTb} {t rm c D : Int} {rw : Int → Int} {M0 : zM} {Q : Int → zM → Prop} (hT : zTok T) (ht : t = 79 ∨ t = 102) (hR : zRw T rm rw) (c0 : 0 ≤ c) (cn : c < T.1 8 0) (h0 : T.1 c 0 = 0) (hD : -1 ≤ D ∧ D ≤ 30) (hdeep : ∀ k, 0 ≤ k → k < rm → rw (3 * k) ≤ D)
    (hr0 : zPr rm rw M0) (hm0 : zTc T M0 t) (q : ∀ M', zSm (zPld t) M0 M' → M' 63 16 = c → zPd T rm rw c M' → Q 0 M') :
    ∀ (f i : Nat) {M : zM} {u : Nat × Nat × Nat × Nat}, f + i = zgap T c → zSm (zPld t) M0 M → M 63 10 = (zct (zdp T rm rw c) i : Nat) → (∀ k : Int, 0 ≤ k → k < (zct (zdp T rm rw c) i : Nat) → M 71 k = zkh (zdp T rm rw c) (fun i => (i : Int) + 1) k i) → zX G (y_Piece_listDifferences, h + 5 + 1, sl) u 70 [(0, (2, 63)), (1, (2, t)), (2, (0, c)), (3, (0, D)), (4, (0, T.1 c 2 - T.1 c 1)), (5, (0, (i : Int) + 1))] [] M Q
  | 0, i, M, u, e, hM, h10, hl => by
    have hok := hT.2.2.2.2.2.2.2 c c0 cn
    have hg : (zgap T c : Int) = T.1 c 2 - T.1 c 1 := by unfold zTok1 at hok; unfold zgap; omega
    have ei : i = zgap T c := by omega
    refine B_Piece_listDifferences_70 hsl ⟨fun _ => q _ (hM.wr (Or.inl ⟨rfl, Or.inr rfl⟩)) (zwr_s _ _ _ _) ⟨by rw [zwr_k _ (by decide), ← ei]; exact h10, fun k a b => by rw [zwr_o _ (by decide), ← ei]; rw [← ei] at b; exact hl k a b⟩, fun g => absurd (by omega) g⟩
  | f + 1, i, M, u, e, hM, h10, hl => by
    have hok := hT.2.2.2.2.2.2.2 c c0 cn
    have hg : (zgap T c : Int) = T.1 c 2 - T.1 c 1 := by unfold zTok1 at hok; unfold zgap; omega
    have hg9 : T.1 c 2 - T.1 c 1 ≤ 999 := by unfold zTok1 at hok; omega
    have hle := zct_le (zdp T rm rw c) i
    have hm : zTc T M t := hm0.frG hT (fun a k h1 h2 h3 h4 => hM a k (by unfold zPld zPC zPLn; omega))
    have hr : zPr rm rw M := hr0.fr (fun a j p => hM a j (by unfold zPld zPC zPLn; omega))
    refine B_Piece_listDifferences_70 hsl ⟨fun g => absurd g (by omega), fun _ => ⟨fun g => absurd g (by omega), fun _ => c_wouldFit hsl hT ht hR c0 cn h0 (by omega) hD hdeep hr hm (fun M1 hM1 => ?_)⟩⟩
    have g1 : zSm (zPld t) M M1 := hM1.mono (fun _ _ p => Or.inr (Or.inr p))
    have e10 : M1 63 10 = (zct (zdp T rm rw c) i : Nat) := by rw [hM1 _ _ (by unfold zPC zPLn; omega)]; exact h10
    have e71 : ∀ k, M1 71 k = M 71 k := fun k => hM1 _ _ (by unfold zPC zPLn; omega)
    by_cases hz : zdp T rm rw c i = true
    · rw [if_pos hz]
      refine ⟨fun g => absurd g (by decide), fun _ => ?_⟩
      rw [e10]
      have e2 : ∀ v, (zwr M1 71 ((zct (zdp T rm rw c) i : Nat) : Int) v) 63 10 = (zct (zdp T rm rw c) i : Nat) := fun v => by rw [zwr_o _ (by decide)]; exact e10
      rw [e2]
      refine ⟨by omega, by unfold zI; omega, by unfold zI; omega, ?_⟩
      have := c_listDL (G := G) (h := h) (Q := Q) hsl hT ht hR c0 cn h0 hD hdeep hr0 hm0 q f (i + 1) (M := zwr (zwr M1 71 ((zct (zdp T rm rw c) i : Nat) : Int) ((i : Int) + 1)) 63 10 (((zct (zdp T rm rw c) i : Nat) : Int) + 1)) (u := u) (by omega) (((hM.trans g1).wr (Or.inr (Or.inl rfl))).wr (Or.inl ⟨rfl, Or.inl rfl⟩)) (by rw [zwr_s, zct_yes hz]; omega) (fun k a b => by
        rw [zct_yes hz] at b
        rw [zwr_o _ (by decide)]
        by_cases ck : k = (zct (zdp T rm rw c) i : Nat)
        · subst ck
          rw [zwr_s, zkh_yes hz rfl]
        · rw [zwr_k _ ck, zkh_no (fun x => ck x.2.symm), e71]
          exact hl k a (by omega))
      rw [zcs] at this
      exact this
    · rw [if_neg hz]
      refine ⟨fun _ => ⟨by unfold zI; omega, ?_⟩, fun g => absurd rfl g⟩
      have := c_listDL (G := G) (h := h) (Q := Q) hsl hT ht hR c0 cn h0 hD hdeep hr0 hm0 q f (i + 1) (M := M1) (u := u) (by omega) (hM.trans g1) (by rw [zct_no hz]; exact e10) (fun k a b => by
        rw [zct_no hz] at b
        rw [zkh_no (fun x => hz x.1), e71]
        exact hl k a b)
      rw [zcs] at this
      exact this
theorem c_deepL {G : zG} {h sl : Nat} (hsl : 1 ≤ sl) {T : zTb} {t rm c : Int} {rw : Int → Int} {M : zM} {Q : Int → zM → Prop} (hT : zTok T) (ht : t = 79 ∨ t = 102) (hR : zRw T rm rw) (c0 : 0 ≤ c) (cn : c < T.1 8 0) (h0 : T.1 c 0 = 0) (hr : zPr rm rw M) (hm : zTc T M t) (q : ∀ M', zSm (zPld t) M M' → M' 63 16 = c → zPd T rm rw c M' → Q 0 M') :
    ∀ (f k : Nat) (D : Int) {u : Nat × Nat × Nat × Nat}, f + k = rm.toNat → -1 ≤ D → D ≤ 30 → (∀ i, 0 ≤ i → i < (k : Int) → rw (3 * i) ≤ D) → zX G (y_Piece_listDifferences, h + 5 + 1, sl) u 14 [(0, (2, 63)), (1, (2, t)), (2, (0, c)), (3, (0, D)), (4, (0, (k : Int)))] [] M Q
  | 0, k, D, u, e, d0, d1, hd => by
    have hb := hR.1
    have hn8 := hT.2.1
    have hok := hT.2.2.2.2.2.2.2 c c0 cn
    have hk8 : zK t = (8, 0) := by rcases ht with rfl | rfl <;> decide
    obtain ⟨⟨_, a2, a3, _⟩, _⟩ := hm.2.1 c c0 cn
    refine B_Piece_listDifferences_14 hsl ⟨fun _ => ⟨hk8, by omega, ?_⟩, fun g => absurd (by rw [hr.1]; omega) g⟩
    rw [a2, a3]
    refine ⟨by unfold zTok1 at hok; unfold zI; omega, ?_⟩
    have g1 : zSm (zPld t) M (zwr M 63 10 0) := (zSm.refl _ M).wr (Or.inl ⟨rfl, Or.inl rfl⟩)
    exact c_listDL (M0 := M) hsl hT ht hR c0 cn h0 ⟨d0, d1⟩ (fun i a b => hd i a (by omega)) hr hm q (zgap T c) 0 (by omega) g1 (zwr_s _ _ _ _) (fun i a b => absurd b (by show ¬ i < ((0 : Nat) : Int); omega))
  | f + 1, k, D, u, e, d0, d1, hd => by
    have hb := hR.1
    obtain ⟨r1, r2, r3⟩ := hR.2 (k : Int) (by omega) (by omega)
    obtain ⟨e1, e2, e3⟩ := hr.2 (k : Int) (by omega) (by omega)
    refine B_Piece_listDifferences_14 hsl ⟨fun g => absurd g (by rw [hr.1]; omega), fun _ => ⟨by omega, ?_⟩⟩
    rw [e1]
    have next : ∀ D', -1 ≤ D' → D' ≤ 30 → (∀ i, 0 ≤ i → i < (k : Int) + 1 → rw (3 * i) ≤ D') → zI ((k : Int) + 1) ∧ zX G (y_Piece_listDifferences, h + 5 + 1, sl) u 14 [(0, (2, 63)), (1, (2, t)), (2, (0, c)), (3, (0, D')), (4, (0, (k : Int) + 1))] [] M Q := fun D' x1 x2 x3 => ⟨by unfold zI; omega, by
      have := c_deepL (G := G) (h := h) (Q := Q) hsl hT ht hR c0 cn h0 hr hm q f (k + 1) D' (u := u) (by omega) x1 x2 (by rw [zcs]; exact x3)
      rw [zcs] at this
      exact this⟩
    refine E_Jm_max_III hsl ⟨fun g => next _ (by omega) (by omega) (fun i a b => ?_), fun g => next _ (by omega) (by omega) (fun i a b => ?_)⟩
    · by_cases ci : i = (k : Int)
      · subst ci; omega
      · have := hd i a (by omega); omega
    · by_cases ci : i = (k : Int)
      · subst ci; omega
      · exact hd i a (by omega)
theorem c_listD {G : zG} {h sl : Nat} (hsl : 1 ≤ sl) {T : zTb} {t rm c : Int} {rw : Int → Int} {M : zM} {Q : Int → zM → Prop} (hT : zTok T) (ht : t = 79 ∨ t = 102) (hR : zRw T rm rw) (c0 : 0 ≤ c) (cn : c < T.1 8 0) (h0 : T.1 c 0 = 0) (hp : zPc T rm rw M) (hm : zTc T M t) (q : ∀ M', zSm (zPld t) M M' → zPc T rm rw M' → zPd T rm rw c M' → Q 0 M') : zCt G (h + 6) sl 0 0 y_Piece_listDifferences [(2, 63), (2, t), (0, c)] M Q := by
  refine E_Piece_listDifferences hsl ⟨fun _ => ?_, fun g => q M (zSm.refl _ _) hp (hp.2.2.2.1 c c0 cn h0 (by omega))⟩
  obtain ⟨p1, p2, p3, p4, p5⟩ := hp
  refine c_deepL (t := t) hsl hT ht hR c0 cn h0 p1 hm (fun M' hM' h16 hd => q M' hM' ?_ hd) rm.toNat 0 (-1) (by omega) (by decide) (by decide) (fun i a b => absurd b (by omega))
  have f : ∀ a k, a = 63 ∧ k ≠ 10 ∧ k ≠ 16 ∨ 66 ≤ a ∧ a ≤ 70 → M' a k = M a k := fun a k p => hM' a k (by unfold zPld zPC zPLn; omega)
  refine ⟨p1.fr (fun a j p => f a j (by omega)), fun x => (p2 (by rw [← f 63 14 (by omega)]; exact x)).fr (fun a j p => f a j (by omega)), fun x => (p3 (by rw [← f 63 15 (by omega)]; exact x)).fr (fun a j p => f a j (by omega)), fun e e0 en ez x => ?_, fun v v0 v1 => by rw [f 69 v (by omega)]; exact p5 v v0 v1⟩
  rw [h16] at x
  subst x
  exact hd
def zdif (T : zTb) (rm : Int) (rw : Int → Int) (c k : Int) : Int := if (0 ≤ c ∧ c < T.1 8 0) ∧ T.1 c 0 = 0 then zkth (zdp T rm rw c) (fun i => (i : Int) + 1) (zgap T c) k else -1
theorem c_differences {G : zG} {h sl : Nat} (hsl : 1 ≤ sl) {T : zTb} {L : Int → Int} {t rm c k : Int} {rw : Int → Int} {M : zM} {Q : Int → zM → Prop} (hP : zPu T L) (hC : zCk T L t M) (hR : zRw T rm rw) (hp : zPc T rm rw M) (q : ∀ M', zSm (zPp t) M M' → zCk T L t M' → zPc T rm rw M' → Q (zdif T rm rw c k) M') : zCt G (h + 7) sl 0 0 y_Zt_differences [(2, 1), (0, c), (0, k)] M Q := by
  have ht := hC.1
  have hn8 := hP.1.2.1
  have q0 := q M (zSm.refl _ _) hC hp
  unfold zdif at q q0
  refine E_Zt_differences hsl (c_isColC hsl hC (fun a b => ⟨fun g => absurd g (by decide), fun _ => ⟨hC.k8, ⟨a, by omega⟩, ?_⟩⟩) (fun g => ⟨fun _ => ?_, fun g2 => absurd rfl g2⟩))
  · rw [hC.2.1, (hC.c1 a b).1.1]
    refine ⟨fun g => c_listD hsl hP.1 ht hR a b g hp hC.2.2.1 (fun M1 hM1 hp1 hd1 => ?_), fun g => ?_⟩
    · have hC1 : zCk T L t M1 := hC.fr hP.1 (fun a j p => hM1 a j (by unfold zdCk at p; unfold zPld zPC zPLn; omega))
      have qq := q M1 (hM1.mono (fun a j p => by unfold zPld zPC zPLn at p; unfold zPp zPq; omega)) hC1 hp1
      rw [if_pos ⟨⟨a, b⟩, g⟩] at qq
      unfold zkth at qq
      have hle := zct_le (zdp T rm rw c) (zgap T c)
      have hok := hP.1.2.2.2.2.2.2.2 c a b
      have hg9 : zgap T c ≤ 999 := by unfold zTok1 at hok; unfold zgap; omega
      rw [hd1.1]
      refine ⟨fun g => ⟨fun g2 => ?_, fun g2 => ⟨fun g3 => ?_, fun g3 => ⟨by omega, ?_⟩⟩⟩, fun g => ?_⟩
      · rw [if_neg g, zkh_out (Or.inl g2)] at qq; exact qq
      · rw [if_neg g, zkh_out (Or.inr g3)] at qq; exact qq
      · rw [if_neg g] at qq
        rw [hd1.2 k (by omega) (by omega)]; exact qq
      · rw [if_pos (by omega)] at qq; exact qq
    · rw [if_neg (by omega)] at q0; exact q0
  · rw [if_neg (by omega)] at q0; exact q0
