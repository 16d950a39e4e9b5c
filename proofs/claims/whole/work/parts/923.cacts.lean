/-! THE CLASS: acts. -/
/-- the class's clock without what is ahead; what is true is known beyond N -/
def zCw (T : zTb) (X : Int → Int) (t N : Int) (M : zM) : Prop := (t = 79 ∨ t = 102) ∧ M 1 11 = t ∧ zTc T M t ∧ zLc (T.1 8 0) X M 4 ∧ ∃ m : Nat, N < m ∧ zCo T (zbg T) m M 8 t
theorem zCw.k8 {T : zTb} {X : Int → Int} {t N : Int} {M : zM} (h : zCw T X t N M) : zK (M 1 11) = (8, 0) := by
  rw [h.2.1]
  rcases h.1 with rfl | rfl <;> decide
theorem zCw.kt {T : zTb} {X : Int → Int} {t N : Int} {M : zM} (h : zCw T X t N M) : zK t = (8, 0) := by
  rcases h.1 with rfl | rfl <;> decide
theorem zCw.fr {T : zTb} {X X' : Int → Int} {t N : Int} {M M' : zM} (hT : zTok T) (h : zCw T X t N M) (e : ∀ a k, zdCk t a k → a ≠ 4 → a ≠ 5 → ¬ (13 ≤ a ∧ a ≤ 17) → M' a k = M a k) (hl : zLc (T.1 8 0) X' M' 4) : zCw T X' t N M' := by
  obtain ⟨a1, a2, a3, _, m, a5, a6⟩ := h
  exact ⟨a1, by rw [e _ _ (by unfold zdCk; omega) (by omega) (by omega) (by omega)]; exact a2, a3.frG hT (fun a k h1 h2 h3 h4 => e a k (by unfold zdCk; omega) (by omega) (by omega) (by omega)), hl, m, a5, a6.fr (fun a k p => e a k (by unfold zdCo at p; unfold zdCk; omega) (by unfold zdCo at p; omega) (by unfold zdCo at p; omega) (by unfold zdCo at p; omega))⟩
theorem c_untrueWL {G : zG} {h sl : Nat} (hsl : 1 ≤ sl) {T : zTb} {L : Int → Int} {t N : Int} {M : zM} {Q : Int → zM → Prop} (hT : zTok T) (hL0 : 0 ≤ L 0) (hC : zCw T L t N M) (hN : L 0 ≤ N) (q : Q (zwm T L) M) :
    ∀ (d k : Nat) {u : Nat × Nat × Nat × Nat}, d + k = (T.1 8 0).toNat → zX G (y_Zt_untrueColumns, h + 1, sl) u 4 [(0, (2, 1)), (1, (0, zwg L (ztr T (L 0).toNat) k)), (2, (0, (k : Int)))] [] M Q
  | 0, k, u, e => by
    have hn := hT.1
    refine B_Zt_untrueColumns_4 hsl ⟨hC.k8, fun _ => ?_, fun g => absurd (by rw [hC.2.1, hC.2.2.1.1.1]; omega) g⟩
    unfold zwm at q
    rw [show (T.1 8 0).toNat = k from by omega] at q
    exact q
  | d + 1, k, u, e => by
    have hn := hT.1
    have hn8 := hT.2.1
    obtain ⟨m, hm, hc⟩ := hC.2.2.2.2
    have hw := zwg_in L (ztr T (L 0).toNat) k
    refine B_Zt_untrueColumns_4 hsl ⟨hC.k8, fun g => absurd g (by rw [hC.2.1, hC.2.2.1.1.1]; omega), fun _ => ⟨by omega, ?_⟩⟩
    rw [hC.2.2.2.1.1, show (M 5 (k : Int)) = L (1 + k) from (hC.2.2.2.1.2.2 k (by omega) (by omega)).1]
    have hgo : zCt G h sl 0 0 y_Course_told [(2, 8), (0, (((L 0).toNat : Nat) : Int)), (0, (k : Int))] M (fun r3 M4 => (L (1 + k) = r3 → (zI ((k : Int) + 1)) ∧ (zX G (y_Zt_untrueColumns, h + 1, sl) u 4 [(0, (2, 1)), (1, (0, zwg L (ztr T (L 0).toNat) k)), (2, (0, ((k : Int) + 1)))] [] M4 Q)) ∧ (¬ L (1 + k) = r3 → (zI (zwg L (ztr T (L 0).toNat) k + 1)) ∧ ((zI ((k : Int) + 1)) ∧ (zX G (y_Zt_untrueColumns, h + 1, sl) u 4 [(0, (2, 1)), (1, (0, (zwg L (ztr T (L 0).toNat) k + 1))), (2, (0, ((k : Int) + 1)))] [] M4 Q)))) := by
      refine c_toldC hsl (Or.inl rfl) hT hc (by omega) (by omega) (by omega) ?_
      have ih := c_untrueWL (G := G) (h := h) (Q := Q) hsl hT hL0 hC hN q d (k + 1) (u := u) (by omega)
      rw [zcs] at ih
      refine ⟨fun g => ⟨by unfold zI; omega, ?_⟩, fun g => ⟨by unfold zI; omega, by unfold zI; omega, ?_⟩⟩
      · rw [zwg_s1 (V := ztr T (L 0).toNat) g] at ih
        exact ih
      · rw [zwg_s2 (V := ztr T (L 0).toNat) g] at ih
        exact ih
    rw [show (((L 0).toNat : Nat) : Int) = L 0 from by omega] at hgo
    exact hgo
/-- kept if marked -/
def zPkm (t : Int) : Int → Int → Prop := fun a k => a = t ∧ (k = 8 ∨ k = 9) ∨ a = t + 4 ∨ a = 18 ∧ k = 4 ∨ a = 19 ∨ a = 20
theorem c_keepIf {G : zG} {h sl : Nat} (hsl : 1 ≤ sl) {T : zTb} {X : Int → Int} {t N ac j : Int} {K : zKp3} {R : Int → Int → Int} {M : zM} {Q : Int → zM → Prop} (hT : zTok T) (hX : zLok T (T.1 8 0) X) (hC : zCw T X t N M) (hN : X 0 ≤ N) (h9 : N ≤ 999) (hK : 0 ≤ K.1 ∧ K.1 < X 0) (hH : zHc T K R ac j M)
    (q : ∀ M', zSm (zPkm t) M M' → zCw T X t N M' → zHc T (zkp1 T X K) R ac j M' → Q (zmk T X) M') : zCt G (h + 4) sl 0 0 y_Zt_keepIfMarked [(2, 1)] M Q := by
  have ht := hC.1
  refine E_Zt_keepIfMarked hsl ⟨hC.k8, ?_⟩
  rw [hC.2.1]
  refine c_isMarkedC hsl hC.kt (by omega) (by decide) hT hX hC.2.2.1 hC.2.2.2.1 (fun M1 hM1 e1 => ?_)
  have s1 : zSm (fun a k => a = t ∧ (k = 8 ∨ k = 9) ∨ a = t + 4) M M1 := fun a k n => by
    by_cases c : a < t
    · exact e1 a k c
    · exact hM1 a k (by unfold zPC zPLn; omega)
  have hC1 : zCw T X t N M1 := hC.fr hT (fun a k p _ _ _ => s1 a k (by unfold zdCk at p; omega)) (hC.2.2.2.1.fr (s1 _ _ (by omega)) (s1 _ _ (by omega)) (fun k => s1 _ _ (by omega)))
  have hH1 : zHc T K R ac j M1 := hH.fr (fun a k p => s1 a k (by unfold zdHc at p; omega))
  rcases zmk_01 T X with e | e
  · rw [e]
    refine ⟨fun y => absurd rfl y, fun _ => ?_⟩
    have := q M1 (s1.mono (fun a k p => by unfold zPkm; omega)) hC1 (by unfold zkp1; rw [if_neg (by omega)]; exact hH1)
    rw [e] at this
    exact this
  · rw [e]
    refine ⟨fun _ => E_Zt_untrueColumns hsl (c_untrueWL (h := h + 2) hsl hT hX.1 hC1 hN ?_ (T.1 8 0).toNat 0 (by omega)), fun y => absurd (by decide) y⟩
    rw [hC1.2.2.2.1.1]
    have h18 := hH1.1.1
    refine c_keep hsl (by rw [h18]; omega) ?_
    have s2 : zSm (fun a k => a = 18 ∧ k = 4 ∨ a = 19 ∨ a = 20) M1 (zwr (zwr (zwr M1 19 (M1 18 4) (X 0)) 20 (M1 18 4) (zwm T X)) 18 4 (M1 18 4 + 1)) := (((zSm.refl _ M1).wr (by omega)).wr (by omega)).wr (by omega)
    have := q _ ((s1.mono (fun a k p => by unfold zPkm; omega)).trans (s2.mono (fun a k p => by unfold zPkm; omega))) (hC1.fr hT (fun a k p _ _ _ => s2 a k (by unfold zdCk at p; omega)) (hC1.2.2.2.1.fr (s2 _ _ (by omega)) (s2 _ _ (by omega)) (fun k => s2 _ _ (by omega)))) (by
      obtain ⟨⟨x1, x2, x3⟩, x4, x5, x6⟩ := hH1
      unfold zkp1
      rw [if_pos e]
      refine ⟨⟨by rw [zwr_s, x1], fun k a b => ?_, fun k a b => ?_⟩, by rw [zwr_k _ (by decide), zwr_o _ (by decide), zwr_o _ (by decide)]; exact x4, by rw [zwr_k _ (by decide), zwr_o _ (by decide), zwr_o _ (by decide)]; exact x5, fun s hs => ?_⟩
      · rw [zwr_o _ (by decide), zwr_o _ (by decide), x1]
        simp only at b ⊢
        by_cases c : k = K.1
        · subst c; rw [zwr_s, zup_s]
        · rw [zwr_k _ c, zup_o _ _ c]; exact x2 k a (by omega)
      · rw [zwr_o _ (by decide), x1]
        simp only at b ⊢
        by_cases c : k = K.1
        · subst c; rw [zwr_s, zup_s]
        · rw [zwr_k _ c, zup_o _ _ c, zwr_o _ (by decide)]; exact x3 k a (by omega)
      · have hs2 := hs.1
        have y := x6 s hs
        exact ⟨y.1.fr (s2 _ _ (by omega)) (s2 _ _ (by omega)) (fun k => s2 _ _ (by omega)), by rw [s2 _ _ (by omega)]; exact y.2⟩)
    rw [e] at this
    exact this
/-- what is ahead is told anew -/
def zPse (t : Int) : Int → Int → Prop := fun a k => a = t ∧ (k = 8 ∨ k = 9) ∨ a = t + 4 ∨ 8 ≤ a ∧ a ≤ 17
theorem c_settle {G : zG} {h sl : Nat} (hsl : 1 ≤ sl) {T : zTb} {X : Int → Int} {t N : Int} {M : zM} {Q : Int → zM → Prop} (hP : zPu T X) (hC : zCw T X t N M) (q : ∀ M', zSm (zPse t) M M' → zCk T X t M' → Q 0 M') : zCt G (h + 6) sl 0 0 y_Zt_settle [(2, 1)] M Q := by
  have ht := hC.1
  have h9 := hP.2.2
  have h0 := hP.2.1.1
  refine E_Zt_settle hsl ?_
  rw [hC.2.1]
  refine c_coBegin (h := h + 2) (A := X) (t := t) hsl (Or.inr rfl) (by decide) (Or.inl (by decide)) hP.1 hC.2.2.2.1 (fun M1 hM1 hc1 => ?_)
  have s1 : zSm (zPse t) M M1 := hM1.mono (fun a k p => by unfold zPLn at p; unfold zPse; omega)
  have hl1 : zLc (T.1 8 0) X M1 4 := hC.2.2.2.1.fr (hM1 _ _ (by unfold zPLn; omega)) (hM1 _ _ (by unfold zPLn; omega)) (fun k => hM1 _ _ (by unfold zPLn; omega))
  have hC1 : zCw T X t N M1 := hC.fr hP.1 (fun a k p _ _ n => hM1 a k (by unfold zdCk at p; unfold zPLn; omega)) hl1
  rw [hl1.1]
  obtain ⟨a1, a2, a3, _, m, a5, a6⟩ := hC1
  have hb := zbg_ok hP.1
  have : zCt G (h + 5) sl 0 0 y_Course_reach [(2, 8), (0, (((X 0).toNat : Nat) : Int))] M1 (fun r3 M4 => Q 0 M4) := by
    refine c_reachG hsl (Or.inl rfl) hC.kt (by omega) hP.1 hb.2 (by rw [hb.1]; omega) (by have e : (zK (8 + 4)).2 = 1000 := by decide
                                                                                          rw [e]; omega) a3 a6 (fun M2 m2 hm2 _ hM2 hc2 => q M2 (s1.trans (hM2.mono (fun a k p => by unfold zPR zPC zPLn zPO at p; unfold zPse; omega))) ?_)
    have f : ∀ a k, a = 1 ∨ a = 4 ∨ a = 5 ∨ 13 ≤ a ∧ a ≤ 17 → M2 a k = M1 a k := fun a k p => hM2 a k (by unfold zPR zPC zPLn zPO; omega)
    exact ⟨a1, by rw [f _ _ (by omega)]; exact a2, a3.frG hP.1 (zPR_kp (Or.inl rfl) (by omega) hM2), hl1.fr (f _ _ (by omega)) (f _ _ (by omega)) (fun k => f _ _ (by omega)), ⟨m2, by omega, hc2⟩, ⟨1, hc1.fr (fun a k p => f a k (by unfold zdCo at p; omega))⟩⟩
  rw [show (((X 0).toNat : Nat) : Int) = X 0 from by omega] at this
  exact this
/-- a line remembered -/
theorem c_remem {G : zG} {h sl : Nat} (hsl : 1 ≤ sl) {T : zTb} {L : Int → Int} {t ac j : Int} {K : zKp3} {R : Int → Int → Int} {M : zM} {Q : Int → zM → Prop} (hP : zPu T L) (hC : zCk T L t M) (hp : zHp T L K R ac j) (hH : zHc T K R ac j M)
    (q : ∀ M', zSm (fun a k => a = 18 ∧ (k = 5 ∨ k = 6) ∨ 22 ≤ a ∧ a ≤ 62) M M' → zCk T L t M' → zHc T K (zR1 R j L K.1) (zac1 ac) (zj1 j) M' → Q 0 M') : zCt G (h + 2) sl 0 0 y_History_remember [(2, 18), (2, 4)] M Q := by
  have ht := hC.1
  have hH0 := hH
  obtain ⟨⟨x1, x2, x3⟩, x4, x5, x6⟩ := hH
  obtain ⟨h1, h2, h3, h4, h5⟩ := hp
  have hj : 0 ≤ zj1 j ∧ zj1 j < 20 := by unfold zj1; omega
  refine c_remember (j := zj1 j) hsl (by decide) (by decide) hP.1.2.1 hC.2.2.2.1 (by omega) (by omega) (by rw [x4]; rfl) (fun M' hM' e5 e6 e22 hl => ?_)
  have s : zSm (fun a k => a = 18 ∧ (k = 5 ∨ k = 6) ∨ 22 ≤ a ∧ a ≤ 62) M M' := hM'.mono (fun a k p => by unfold zPH zPLn at p; omega)
  refine q M' s (hC.fr hP.1 (fun a k p => s a k (by unfold zdCk at p; omega))) ⟨⟨by rw [s _ _ (by omega)]; exact x1, x2.fr (fun k => s _ _ (by omega)), x3.fr (fun k => s _ _ (by omega))⟩, e5, by rw [e6, x5]; rfl, fun r hr => ?_⟩
  have hr2 := hr.1
  by_cases c : r = zj1 j
  · subst c
    have e1 : zR1 R j L K.1 (zj1 j) = zsv L K.1 := zob_s _ _ _
    rw [e1, e22, x1, zsv_s]
    exact ⟨hl.sv hP.1.2.1, rfl⟩
  · have e2 : zR1 R j L K.1 r = R r := zob_o _ _ c
    rw [e2]
    have y := x6 r (zvs_1 h2 h3 hr c).1
    have f : ∀ a k, a = 22 ∧ k = r ∨ a = 23 + 2 * r ∨ a = 23 + 2 * r + 1 → M' a k = M a k := fun a k p => hM' a k (by unfold zPH zPLn; omega)
    exact ⟨y.1.fr (f _ _ (by omega)) (f _ _ (by omega)) (fun k => f _ _ (by omega)), by rw [f _ _ (by omega)]; exact y.2⟩
/-- all that acts may change in the class -/
def zPaw (t : Int) : Int → Int → Prop := fun a k => a = t ∧ (k = 8 ∨ k = 9) ∨ a = t + 4 ∨ a = 4 ∨ a = 5 ∨ 8 ≤ a ∧ a ≤ 20 ∨ 22 ≤ a ∧ a ≤ 62
def zPac (t : Int) : Int → Int → Prop := fun a k => a = t ∧ (k = 8 ∨ k = 9) ∨ a = t + 4 ∨ a = 1 ∧ k = 16 ∨ a = 4 ∨ a = 5 ∨ 8 ≤ a ∧ a ≤ 20 ∨ 22 ≤ a ∧ a ≤ 62
theorem c_writeL {G : zG} {h sl : Nat} (hsl : 1 ≤ sl) {T : zTb} {L : Int → Int} {t ac j : Int} {n : Nat} {K : zKp3} {R : Int → Int → Int} {M0 : zM} {Q : Int → zM → Prop} (hP : zPu T L) (h9 : L 0 + n ≤ 999) (hn : n ≤ 100) (hK : 0 ≤ K.1 ∧ K.1 ≤ L 0)
    (q : ∀ M', zSm (zPaw t) M0 M' → zCk T (zln T L n) t M' → zHc T (zKs T L K n) R ac j M' → Q (zKc T L n) M') :
    ∀ (d i : Nat) {M : zM} {u : Nat × Nat × Nat × Nat}, d + i = n → zSm (zPaw t) M0 M → zCw T (zln T L i) t (L 0 + n) M → zHc T (zKs T L K i) R ac j M → zX G (y_Zt_write, h + 6 + 1, sl) u 48 [(0, (2, 1)), (1, (0, (n : Int))), (2, (0, zKc T L i)), (3, (0, (i : Int)))] [] M Q
  | 0, i, M, u, e, hM, hC, hH => by
    have : i = n := by omega
    subst this
    have hln := zln_ok hP.1 hP.2.1 i (by omega)
    refine B_Zt_write_48 hsl ⟨fun _ => c_settle hsl ⟨hP.1, hln.2, by rw [hln.1]; exact h9⟩ hC (fun M1 hM1 hC1 => ?_), fun g => absurd (by omega) g⟩
    exact q M1 (hM.trans (hM1.mono (fun a k p => by unfold zPse at p; unfold zPaw; omega))) hC1 (hH.fr (fun a k p => hM1 a k (by have := hC.1; unfold zdHc at p; unfold zPse; omega)))
  | d + 1, i, M, u, e, hM, hC, hH => by
    have ht := hC.1
    have h0 := hP.2.1.1
    have hln := zln_ok hP.1 hP.2.1 i (by omega)
    have hln1 := zln_ok hP.1 hP.2.1 (i + 1) (by omega)
    have hb := zKs_b (T := T) (L := L) (K := K) i
    refine B_Zt_write_48 hsl ⟨fun g => absurd g (by omega), fun _ => ⟨hC.k8, ?_⟩⟩
    rw [hC.2.1]
    refine c_next (h := h + 2) hsl hC.kt (by omega) (by decide) hP.1 hln.2 (by rw [hln.1]; omega) zChd_no hC.2.2.1 hC.2.2.2.1 (fun M1 hM1 hl1 => ?_)
    rw [znxd_own] at hl1
    have hl1 : zLc (T.1 8 0) (zln T L (i + 1)) M1 4 := hl1
    have hC1 : zCw T (zln T L (i + 1)) t (L 0 + n) M1 := hC.fr hP.1 (fun a k p x y z => hM1 a k (by unfold zdCk at p; unfold zPC zPLn; omega)) hl1
    have hH1 := hH.fr (M' := M1) (fun a k p => hM1 a k (by unfold zdHc at p; unfold zPC zPLn; omega))
    refine c_keepIf (h := h + 2) hsl hP.1 hln1.2 hC1 (by rw [hln1.1]; omega) h9 (by rw [hln1.1]; omega) hH1 (fun M2 hM2 hC2 hH2 => ?_)
    have hM2' : zSm (zPaw t) M0 M2 := (hM.trans (hM1.mono (fun a k p => by unfold zPC zPLn at p; unfold zPaw; omega))).trans (hM2.mono (fun a k p => by unfold zPkm at p; unfold zPaw; omega))
    have ih := c_writeL (G := G) (h := h) (Q := Q) hsl hP h9 hn hK q d (i + 1) (M := M2) (u := u) (by omega) hM2' hC2 hH2
    have es : zKc T L (i + 1) = zKc T L i + zmk T (zln T L (i + 1)) := rfl
    rw [es, zcs] at ih
    rcases zmk_01 T (zln T L (i + 1)) with x | x
    · rw [x] at ih ⊢
      rw [Int.add_zero] at ih
      exact ⟨fun _ => ⟨by unfold zI; omega, ih⟩, fun y => absurd rfl y⟩
    · rw [x] at ih ⊢
      exact ⟨fun y => absurd y (by decide), fun _ => ⟨by unfold zI; omega, by unfold zI; omega, ih⟩⟩
theorem c_write {G : zG} {h sl : Nat} (hsl : 1 ≤ sl) {T : zTb} {L : Int → Int} {t ac j n : Int} {K : zKp3} {R : Int → Int → Int} {Rf : Int → Int} {M : zM} {Q : Int → zM → Prop} (hP : zPu T L) (hC : zCk T L t M) (hp : zHp T L K R ac j) (hH : zHc T K R ac j M) (hR : zAr M 78 6 Rf) (hbb : 0 ≤ Rf 3 ∧ Rf 3 ≤ 100000)
    (q1 : (1 ≤ n ∧ n ≤ 100 ∧ L 0 + n ≤ 999) → ∀ M', zSm (zPaw t) M M' → zCk T (zln T L n.toNat) t M' → zHc T (zKs T L K n.toNat) (zR1 R j L K.1) (zac1 ac) (zj1 j) M' → Q (zKc T L n.toNat) M')
    (q0 : ¬ (1 ≤ n ∧ n ≤ 100 ∧ L 0 + n ≤ 999) → ∀ M', zSm (zPrf 78) M M' → zAr M' 78 6 (zup Rf 3 (Rf 3 + 1)) → Q (-1) M') : zCt G (h + 7) sl 0 0 y_Zt_write [(2, 1), (0, n)] M Q := by
  have ht := hC.1
  have h0 := hP.2.1.1
  refine E_Zt_write hsl (c_isAheadC hsl hP hC (fun a b c => ⟨fun _ => c_remem (h := h + 4) hsl hP hC hp hH (fun M1 hM1 hC1 hH1 => ?_), fun y => absurd (by decide) y⟩) (fun g => ⟨fun y => absurd rfl y, fun _ => c_none hsl (by decide) (by decide) hR hbb (q0 g)⟩))
  rw [hC1.l0]
  refine ⟨by unfold zI; omega, ?_⟩
  obtain ⟨k, rfl⟩ : ∃ k : Nat, n = k := ⟨n.toNat, by omega⟩
  have : zCt G (h + 6) sl 0 0 y_Course_reach [(2, 8), (0, (((L 0).toNat + k : Nat) : Int))] M1 (fun r7 M8 => zX G (y_Zt_write, h + 6 + 1, sl) (0, 0, 0, 0) 48 [(0, (2, 1)), (1, (0, (k : Int))), (2, (0, 0)), (3, (0, 0))] [] M8 Q) := by
    refine c_reachT (h := h + 1) hsl hP hC1 (by omega) (fun M2 m hM2 hC2 hm hc => ?_)
    refine c_writeL (M0 := M2) (t := t) (K := K) hsl hP c (by omega) hp.1 (fun M3 hM3 hC3 hH3 => ?_) k 0 (by omega) (zSm.refl _ _) ⟨ht, hC2.2.1, hC2.2.2.1, hC2.2.2.2.1, m, by omega, hc⟩ (hH1.fr (fun a j p => hM2 a j (by unfold zdHc at p; unfold zPR zPC zPLn zPO; omega)))
    rw [show ((k : Int)).toNat = k from by omega] at q1
    exact q1 ⟨a, b, c⟩ M3 (((hM1.mono (fun a j p => by unfold zPaw; omega)).trans (hM2.mono (fun a j p => by unfold zPR zPC zPLn zPO at p; unfold zPaw; omega))).trans hM3) hC3 hH3
  rw [show (((L 0).toNat + k : Nat) : Int) = L 0 + k from by omega] at this
  exact this
