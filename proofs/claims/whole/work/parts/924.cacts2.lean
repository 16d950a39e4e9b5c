/-! THE CLASS: put, turn, undo, chance. -/
theorem zCk.cw {T : zTb} {L : Int → Int} {t : Int} {M : zM} (h : zCk T L t M) : zCw T L t (L 0) M := ⟨h.1, h.2.1, h.2.2.1, h.2.2.2.1, h.2.2.2.2.1⟩
theorem zPu.set {T : zTb} {L : Int → Int} {c v : Int} (hP : zPu T L) (c0 : 0 ≤ c) (cn : c < T.1 8 0) (h3 : T.1 c 0 ≠ 3) (h1 : T.1 c 1 ≤ v) (h2 : v ≤ T.1 c 2) : zPu T (zup L (1 + c) v) := by
  have hn8 := hP.1.2.1
  refine ⟨hP.1, ⟨by rw [zup_o _ _ (by omega)]; exact hP.2.1.1, by rw [zup_o _ _ (by omega)]; exact hP.2.1.2.1, fun e e0 en => ?_⟩, by rw [zup_o _ _ (by omega)]; exact hP.2.2⟩
  rw [zup_o _ _ (by omega : 9 + e ≠ _)]
  have hc := hP.2.1.2.2 e e0 en
  by_cases x : e = c
  · subst x
    rw [zup_s]
    unfold zCok at hc ⊢
    rw [if_neg h3] at hc ⊢
    exact ⟨⟨h1, h2⟩, hc.2⟩
  · rw [zup_o _ _ (by omega)]
    exact hc
theorem zPu.way {T : zTb} {L : Int → Int} {c v : Int} (hP : zPu T L) (c0 : 0 ≤ c) (cn : c < T.1 8 0) (h0 : T.1 c 0 = 0) (hv : v = 0 ∨ v = 1) : zPu T (zup L (9 + c) v) := by
  have hn8 := hP.1.2.1
  refine ⟨hP.1, ⟨by rw [zup_o _ _ (by omega)]; exact hP.2.1.1, by rw [zup_o _ _ (by omega)]; exact hP.2.1.2.1, fun e e0 en => ?_⟩, by rw [zup_o _ _ (by omega)]; exact hP.2.2⟩
  rw [zup_o _ _ (by omega : 1 + e ≠ _)]
  have hc := hP.2.1.2.2 e e0 en
  by_cases x : e = c
  · subst x
    rw [zup_s]
    unfold zCok at hc ⊢
    rw [if_neg (by omega), if_pos h0] at hc ⊢
    exact ⟨hc.1, hv⟩
  · rw [zup_o _ _ (by omega)]
    exact hc
def zpok (T : zTb) (L : Int → Int) (c v : Int) : Prop := (0 ≤ c ∧ c < T.1 8 0) ∧ T.1 c 0 ≠ 3 ∧ T.1 c 1 ≤ v ∧ v ≤ T.1 c 2 ∧ L (1 + c) ≠ v
theorem c_put {G : zG} {h sl : Nat} (hsl : 1 ≤ sl) {T : zTb} {L : Int → Int} {t ac j c v : Int} {K : zKp3} {R : Int → Int → Int} {Rf : Int → Int} {M : zM} {Q : Int → zM → Prop} (hP : zPu T L) (hC : zCk T L t M) (hp : zHp T L K R ac j) (hH : zHc T K R ac j M) (hR : zAr M 78 6 Rf) (hbb : 0 ≤ Rf 2 ∧ Rf 2 ≤ 100000)
    (q1 : zpok T L c v → ∀ M', zSm (zPaw t) M M' → zCk T (zup L (1 + c) v) t M' → zHc T K (zR1 R j L K.1) (zac1 ac) (zj1 j) M' → Q 1 M')
    (q0 : ¬ zpok T L c v → ∀ M', zSm (zPrf 78) M M' → zAr M' 78 6 (zup Rf 2 (Rf 2 + 1)) → Q 0 M') : zCt G (h + 7) sl 0 0 y_Zt_put [(2, 1), (0, c), (0, v)] M Q := by
  have ht := hC.1
  have hn8 := hP.1.2.1
  have no : ¬ zpok T L c v → ∀ u, zX G (y_Zt_put, h + 6 + 1, sl) u 52 [(0, (2, 1))] [] M Q := fun g u => B_Zt_put_52 hsl (c_refused hsl (by decide) (by decide) hR hbb (q0 g))
  refine E_Zt_put hsl (c_isColC hsl hC (fun a b => ⟨fun y => absurd y (by decide), fun _ => ⟨hC.k8, by omega, ?_⟩⟩) (fun g => ⟨fun _ => no (fun x => g x.1) _, fun y => absurd rfl y⟩))
  have hkc := (zs_cols hC.kt a (by omega)).2
  obtain ⟨⟨a1, a2, a3, _⟩, _⟩ := hC.c1 a b
  rw [hC.2.1]
  refine E_Column_moves hsl ⟨hkc, ?_⟩
  rw [a1]
  refine ⟨fun g => ⟨fun _ => no (fun x => x.2.1 g) _, fun y => absurd rfl y⟩, fun g3 => ⟨fun y => absurd y (by decide), fun _ => ⟨hC.k8, ?_⟩⟩⟩
  rw [hC.2.1]
  refine E_Column_canTell hsl ⟨hkc, ?_⟩
  rw [a2, a3]
  refine ⟨fun g => ⟨fun _ => no (fun x => by have := x.2.2.1; omega) _, fun y => absurd rfl y⟩, fun g1 => ⟨fun g => ⟨fun _ => no (fun x => by have := x.2.2.2.1; omega) _, fun y => absurd rfl y⟩, fun g2 => ⟨fun y => absurd y (by decide), fun _ => ?_⟩⟩⟩
  rw [show M 5 c = L (1 + c) from (hC.2.2.2.1.2.2 c a b).1]
  refine ⟨fun g => c_remem (h := h + 4) hsl hP hC hp hH (fun M1 hM1 hC1 hH1 => ?_), fun g => no (fun x => x.2.2.2.2 (by omega)) _⟩
  have hP' : zPu T (zup L (1 + c) v) := hP.set a b g3 (by omega) (by omega)
  have hl1 : zLc (T.1 8 0) (zup L (1 + c) v) (zwr M1 5 c v) 4 := hC1.2.2.2.1.val (by omega) a
  have e5 : ∀ x k, x ≠ 5 → (zwr M1 5 c v) x k = M1 x k := fun x k n => zwr_o _ n
  refine c_settle hsl hP' (hC1.cw.fr hP.1 (fun x k _ _ n _ => e5 x k n) hl1) (fun M2 hM2 hC2 => ?_)
  refine q1 ⟨⟨a, b⟩, g3, by omega, by omega, g⟩ M2 (((hM1.mono (fun a j p => by unfold zPaw; omega)).wr (by unfold zPaw; omega)).trans (hM2.mono (fun a k p => by unfold zPse at p; unfold zPaw; omega))) hC2 (hH1.fr (fun x k p => ?_))
  rw [hM2 x k (by unfold zdHc at p; unfold zPse; omega), e5 x k (by unfold zdHc at p; omega)]
def ztok2 (T : zTb) (c : Int) : Prop := (0 ≤ c ∧ c < T.1 8 0) ∧ T.1 c 0 = 0
theorem c_turn {G : zG} {h sl : Nat} (hsl : 1 ≤ sl) {T : zTb} {L : Int → Int} {t ac j c : Int} {K : zKp3} {R : Int → Int → Int} {Rf : Int → Int} {M : zM} {Q : Int → zM → Prop} (hP : zPu T L) (hC : zCk T L t M) (hp : zHp T L K R ac j) (hH : zHc T K R ac j M) (hR : zAr M 78 6 Rf) (hbb : 0 ≤ Rf 2 ∧ Rf 2 ≤ 100000)
    (q1 : ztok2 T c → ∀ M', zSm (zPaw t) M M' → zCk T (zup L (9 + c) (1 - L (9 + c))) t M' → zHc T K (zR1 R j L K.1) (zac1 ac) (zj1 j) M' → Q 1 M')
    (q0 : ¬ ztok2 T c → ∀ M', zSm (zPrf 78) M M' → zAr M' 78 6 (zup Rf 2 (Rf 2 + 1)) → Q 0 M') : zCt G (h + 7) sl 0 0 y_Zt_turn [(2, 1), (0, c)] M Q := by
  have ht := hC.1
  have hn8 := hP.1.2.1
  have no : ¬ ztok2 T c → ∀ u, zX G (y_Zt_turn, h + 6 + 1, sl) u 23 [(0, (2, 1))] [] M Q := fun g u => B_Zt_turn_23 hsl (c_refused hsl (by decide) (by decide) hR hbb (q0 g))
  refine E_Zt_turn hsl (c_isColC hsl hC (fun a b => ⟨fun y => absurd y (by decide), fun _ => ⟨hC.k8, by omega, ?_⟩⟩) (fun g => ⟨fun _ => no (fun x => g x.1) _, fun y => absurd rfl y⟩))
  obtain ⟨⟨a1, _⟩, _⟩ := hC.c1 a b
  rw [hC.2.1, a1]
  refine ⟨fun g => c_remem (h := h + 4) hsl hP hC hp hH (fun M1 hM1 hC1 hH1 => ?_), fun g => no (fun x => g x.2) _⟩
  have hup := (hP.2.1.2.2 c a b).up
  have fin : ∀ v u, v = 1 - L (9 + c) → zX G (y_Zt_turn, h + 6 + 1, sl) u 61 [(0, (2, 1))] [(0, v), (0, c), (2, 4)] M1 Q := fun v u ev => by
    have hv : v = 0 ∨ v = 1 := by omega
    have hP' : zPu T (zup L (9 + c) v) := hP.way a b g hv
    refine B_Zt_turn_61 hsl (c_go hsl (by decide) hC1.2.2.2.1 hn8 a (by omega) hv (fun w hw => ?_))
    have e4 : ∀ x k, x ≠ 4 → (zwr M1 4 2 w) x k = M1 x k := fun x k n => zwr_o _ n
    refine c_settle hsl hP' (hC1.cw.fr hP.1 (fun x k _ n _ _ => e4 x k n) hw) (fun M2 hM2 hC2 => ?_)
    rw [ev] at hC2
    refine q1 ⟨⟨a, b⟩, g⟩ M2 (((hM1.mono (fun a j p => by unfold zPaw; omega)).wr (by unfold zPaw; omega)).trans (hM2.mono (fun a k p => by unfold zPse at p; unfold zPaw; omega))) hC2 (hH1.fr (fun x k p => ?_))
    rw [hM2 x k (by unfold zdHc at p; unfold zPse; omega), e4 x k (by unfold zdHc at p; omega)]
  refine c_goesUp hsl (by decide) hC1.2.2.2.1.2.1 a (by omega) ?_
  rw [(hC1.2.2.2.1.2.2 c a b).2]
  exact ⟨fun y => fin 0 _ (by omega), fun y => fin 1 _ (by omega)⟩
/-- after an act undone: kept as then -/
def zK0 (K : zKp3) (N : Int) : zKp3 := (N, K.2.1, K.2.2)
theorem zvs_u {ac j s : Int} (ha : 0 ≤ ac ∧ ac ≤ 20) (hj : 0 ≤ j ∧ j < 20) (h : zvs (ac - 1) ((j + 19) % 20) s) : zvs ac j s ∧ s ≠ j := by
  have h1 := h.1
  have h2 := h.2
  refine ⟨⟨h1, by omega⟩, ?_⟩
  omega
theorem zHp.undo {T : zTb} {L : Int → Int} {K : zKp3} {R : Int → Int → Int} {ac j : Int} (h : zHp T L K R ac j) (ha : ac ≠ 0) : zHp T (R j) (zK0 K (R j 17)) R (ac - 1) ((j + 19) % 20) := by
  obtain ⟨h1, h2, h3, h4, h5⟩ := h
  have vj : zvs ac j j := ⟨h3, by omega⟩
  have hj := h4 j vj
  refine ⟨⟨hj.2.2.1, hj.2.2.2.1⟩, by omega, by omega, fun s hs => ?_, fun s r hs hr hd => ?_⟩
  · have v := zvs_u h2 h3 hs
    have := h4 s v.1
    exact ⟨this.1, this.2.1, this.2.2.1, this.2.2.2.1, h5 s j v.1 vj (by omega)⟩
  · have v := zvs_u h2 h3 hs
    have w := zvs_u h2 h3 hr
    have v1 := hs.1
    have w1 := hr.1
    refine h5 s r v.1 w.1 ?_
    have n1 := v.2
    have n2 := w.2
    omega
theorem c_undo {G : zG} {h sl : Nat} (hsl : 1 ≤ sl) {T : zTb} {L : Int → Int} {t ac j : Int} {K : zKp3} {R : Int → Int → Int} {Rf : Int → Int} {M : zM} {Q : Int → zM → Prop} (hP : zPu T L) (hC : zCk T L t M) (hp : zHp T L K R ac j) (hH : zHc T K R ac j M) (hR : zAr M 78 6 Rf) (hbb : 0 ≤ Rf 4 ∧ Rf 4 ≤ 100000)
    (q1 : ac ≠ 0 → ∀ M', zSm (zPaw t) M M' → zCk T (R j) t M' → zHc T (zK0 K (R j 17)) R (ac - 1) ((j + 19) % 20) M' → Q 1 M')
    (q0 : ac = 0 → ∀ M', zSm (zPrf 78) M M' → zAr M' 78 6 (zup Rf 4 (Rf 4 + 1)) → Q 0 M') : zCt G (h + 7) sl 0 0 y_Zt_undo [(2, 1)] M Q := by
  have ht := hC.1
  have hn8 := hP.1.2.1
  obtain ⟨⟨x1, x2, x3⟩, x4, x5, x6⟩ := hH
  obtain ⟨h1, h2, h3, h4, h5⟩ := hp
  refine E_Zt_undo hsl (c_goBack (h := h + 4) (L := R j) hsl (by decide) (by decide) hn8 (by omega) (by omega) (fun g => ?_) (fun g => ⟨fun y => absurd rfl y, fun _ => c_refused hsl (by decide) (by decide) hR hbb (q0 (by omega))⟩) (fun g M1 hM1 e4 e5 e6 hl => ⟨fun _ => ?_, fun y => absurd (by decide) y⟩))
  · rw [x4]
    exact (x6 j ⟨h3, by omega⟩).1
  · have vj : zvs ac j j := ⟨h3, by omega⟩
    have hj := h4 j vj
    have s1 : zSm (zPaw t) M M1 := hM1.mono (fun a k p => by unfold zPU zPLn at p; unfold zPaw; omega)
    have hC1 : zCw T (R j) t (L 0) M1 := hC.cw.fr hP.1 (fun a k p n1 n2 _ => hM1 a k (by unfold zdCk at p; unfold zPU zPLn; omega)) hl
    refine c_settle hsl ⟨hP.1, hj.1, hj.2.1⟩ hC1 (fun M2 hM2 hC2 => ?_)
    refine q1 (by omega) M2 (s1.trans (hM2.mono (fun a k p => by unfold zPse at p; unfold zPaw; omega))) hC2 ?_
    have f : ∀ a k, zdHc a k → ¬ a = 18 → M2 a k = M a k := fun a k p n => by
      rw [hM2 a k (by unfold zdHc at p; unfold zPse; omega), hM1 a k (by unfold zdHc at p; unfold zPU zPLn; omega)]
    have f18 : ∀ k, M2 18 k = M1 18 k := fun k => hM2 _ _ (by unfold zPse; omega)
    refine ⟨⟨by rw [f18, e4, x4]; exact (x6 j vj).2, fun k a b => ?_, fun k a b => ?_⟩, by rw [f18, e5, x4], by rw [f18, e6, x5], fun s hs => ?_⟩
    · rw [f _ _ (by unfold zdHc; omega) (by decide)]
      have b : k < R j 17 := b
      exact x2 k a (by omega)
    · rw [f _ _ (by unfold zdHc; omega) (by decide)]
      have b : k < R j 17 := b
      exact x3 k a (by omega)
    · have v := zvs_u h2 h3 hs
      have hs2 := hs.1
      have y := x6 s v.1
      exact ⟨y.1.fr (f _ _ (by unfold zdHc; omega) (by omega)) (f _ _ (by unfold zdHc; omega) (by omega)) (fun k => f _ _ (by unfold zdHc; omega) (by omega)), by rw [f _ _ (by unfold zdHc; omega) (by decide)]; exact y.2⟩
theorem c_draw {G : zG} {h sl : Nat} (hsl : 1 ≤ sl) {x m : Int} {M : zM} {Q : Int → zM → Prop} (h1 : M 1 16 = x) (hx : 0 ≤ x ∧ x < 2147483648) (hm : 0 < m ∧ m ≤ 1000) (q : Q (zdr x m) (zwr M 1 16 (zsd x))) : zCt G h sl 0 0 y_Zt_draw [(2, 1), (0, m)] M Q := by
  have hs := zsd_in x
  refine E_Zt_draw hsl ?_
  rw [h1, zwr_s, zland_mod (by omega) (by omega)]
  refine ⟨by unfold zL; omega, by unfold zL; omega, fun g => absurd g (by omega), fun _ => ?_⟩
  have e1 : (1103515245 * x + 12345) % 2147483648 = zsd x := rfl
  rw [e1]
  have e2 : Int.tdiv (zsd x) 64 = zsd x / 64 := Int.tdiv_eq_ediv_of_nonneg hs.1
  have e3 : Int.tmod (zsd x / 64) m = zdr x m := Int.tmod_eq_emod_of_nonneg (by omega)
  have hd0 : 0 ≤ zdr x m := Int.emod_nonneg _ (by omega)
  have hd1 : zdr x m < m := Int.emod_lt_of_pos _ hm.1
  rw [e2, e3, zl2i_in (by unfold zI; omega)]
  exact ⟨by unfold zL; omega, by omega, q⟩
def zPsl : Int → Int → Prop := fun a k => a = 1 ∧ k = 16 ∨ a = 5
theorem c_slipBy {G : zG} {h sl : Nat} (hsl : 1 ≤ sl) {T : zTb} {X : Int → Int} {t N x : Int} {M : zM} {Q : Int → zM → Prop} (hT : zTok T) (hX : zLok T (T.1 8 0) X) (hC : zCw T X t N M) (h1 : M 1 16 = x) (hx : 0 ≤ x ∧ x < 2147483648)
    (q : ∀ M', zSm zPsl M M' → zCw T (zchs T X x).1 t N M' → M' 1 16 = (zchs T X x).2.1 → Q (zchs T X x).2.2 M') : zCt G (h + 2) sl 0 0 y_Zt_slipByTheSeed [(2, 1)] M Q := by
  have ht := hC.1
  have hn := hT.1
  have hn8 := hT.2.1
  have f : ∀ (M1 : zM), zSm (fun a k => a = 1 ∧ k = 16) M M1 → zCw T X t N M1 := fun M1 hM1 => hC.fr hT (fun a k p _ _ _ => hM1 a k (by unfold zdCk at p; omega)) (hC.2.2.2.1.fr (hM1 _ _ (by omega)) (hM1 _ _ (by omega)) (fun k => hM1 _ _ (by omega)))
  have s1 : zSm (fun a k => a = 1 ∧ k = 16) M (zwr M 1 16 (zsd x)) := (zSm.refl _ M).wr ⟨rfl, rfl⟩
  have hC1 := f _ s1
  refine E_Zt_slipByTheSeed hsl (c_draw hsl h1 hx (by decide) ⟨hC1.k8, ?_⟩)
  rw [hC1.2.1, hC1.2.2.1.1.2.2.1, hC1.2.2.1.1.1]
  have none0 : ¬ (zdr x 100 < T.1 8 1 ∧ 0 < T.1 8 0) → Q 0 (zwr M 1 16 (zsd x)) := fun g => by
    unfold zchs at q
    rw [if_neg g] at q
    exact q _ (s1.mono (fun a k p => Or.inl p)) hC1 (zwr_s _ _ _ _)
  refine ⟨fun g => none0 (by omega), fun g => ⟨fun g2 => ?_, fun g2 => none0 (by omega)⟩⟩
  have hd0 : 0 ≤ zdr (zsd x) (T.1 8 0) := Int.emod_nonneg _ (by omega)
  have hdn : zdr (zsd x) (T.1 8 0) < T.1 8 0 := Int.emod_lt_of_pos _ (by omega)
  have s2 : zSm (fun a k => a = 1 ∧ k = 16) M (zwr (zwr M 1 16 (zsd x)) 1 16 (zsd (zsd x))) := s1.wr ⟨rfl, rfl⟩
  have s3 : zSm (fun a k => a = 1 ∧ k = 16) M (zwr (zwr (zwr M 1 16 (zsd x)) 1 16 (zsd (zsd x))) 1 16 (zsd (zsd (zsd x)))) := s2.wr ⟨rfl, rfl⟩
  have hC3 := f _ s3
  have h90 : 0 ≤ zdr (zsd (zsd x)) 9 := Int.emod_nonneg _ (by decide)
  have h91 : zdr (zsd (zsd x)) 9 < 9 := Int.emod_lt_of_pos _ (by decide)
  refine c_draw hsl (zwr_s _ _ _ _) (zsd_in x) ⟨by omega, by omega⟩ (c_draw hsl (zwr_s _ _ _ _) (zsd_in _) (by decide) ⟨by unfold zI; omega, ?_⟩)
  refine E_Zt_isColumn hsl ⟨fun y => absurd y (by omega), fun _ => ⟨hC3.k8, fun y => absurd y (by rw [hC3.2.1, hC3.2.2.1.1.1]; omega), fun _ => ⟨fun y => absurd y (by decide), fun _ => ⟨hC3.k8, by omega, ?_⟩⟩⟩⟩
  have hkc := (zs_cols hC.kt hd0 (by omega)).2
  have ho := hC3.2.2.1.2.1 _ hd0 hdn
  rw [hC3.2.1]
  refine E_Column_moves hsl ⟨hkc, ?_⟩
  rw [ho.1.1]
  unfold zchs at q
  rw [if_pos ⟨by omega, by omega⟩] at q
  refine ⟨fun y => ⟨fun z => absurd rfl z, fun _ => ?_⟩, fun y => ⟨fun _ => ⟨hC3.k8, ?_⟩, fun z => absurd (by decide) z⟩⟩
  · rw [if_pos y] at q
    exact q _ (s3.mono (fun a k p => Or.inl p)) hC3 (zwr_s _ _ _ _)
  · rw [if_neg y] at q
    rw [hC3.2.1]
    have hv := (hX.2.2 _ hd0 hdn).in (hT.2.2.2.2.2.2.2 _ hd0 hdn)
    have e5 := (hC3.2.2.2.1.2.2 _ hd0 hdn).1
    have e5' : (zwr (zwr (zwr M 1 16 (zsd x)) 1 16 (zsd (zsd x))) 1 16 (zsd (zsd (zsd x)))) 5 (zdr (zsd x) (T.1 8 0)) = X (1 + zdr (zsd x) (T.1 8 0)) := e5
    rw [e5']
    refine c_slipped hsl hC.kt (hT.2.2.2.2.2.2.2 _ hd0 hdn) ho hd0 (by omega) hv (by omega) ?_
    have hl := hC3.2.2.2.1.val (v := zslp T (zdr (zsd x) (T.1 8 0)) (X (1 + zdr (zsd x) (T.1 8 0))) (zdr (zsd (zsd x)) 9 + 1)) (show zdr (zsd x) (T.1 8 0) < 8 by omega) hd0
    refine q _ ((s3.mono (fun a k p => Or.inl p)).wr (Or.inr rfl)) (hC3.fr hT (fun a k p _ n _ => zwr_o _ n) hl) ?_
    rw [zwr_o _ (by decide), zwr_s]
theorem c_chanceL {G : zG} {h sl : Nat} (hsl : 1 ≤ sl) {T : zTb} {L : Int → Int} {t ac j x : Int} {n : Nat} {K : zKp3} {R : Int → Int → Int} {M0 : zM} {Q : Int → zM → Prop} (hP : zPu T L) (h9 : L 0 + n ≤ 999) (hn : n ≤ 100) (hx : 0 ≤ x ∧ x < 2147483648) (hK : 0 ≤ K.1 ∧ K.1 ≤ L 0)
    (q : ∀ M', zSm (zPac t) M0 M' → zCk T (zch T L x K n).1 t M' → zHc T (zch T L x K n).2.2.1 R ac j M' → M' 1 16 = (zch T L x K n).2.1 → Q (zch T L x K n).2.2.2 M') :
    ∀ (d i : Nat) {M : zM} {u : Nat × Nat × Nat × Nat}, d + i = n → zSm (zPac t) M0 M → zCw T (zch T L x K i).1 t (L 0 + n) M → zHc T (zch T L x K i).2.2.1 R ac j M → M 1 16 = (zch T L x K i).2.1 → zX G (y_Zt_chance, h + 6 + 1, sl) u 48 [(0, (2, 1)), (1, (0, (n : Int))), (2, (0, (zch T L x K i).2.2.2)), (3, (0, (i : Int)))] [] M Q
  | 0, i, M, u, e, hM, hC, hH, hs => by
    have : i = n := by omega
    subst this
    have hb := zch_b (K := K) hP hx i (by omega)
    refine B_Zt_chance_48 hsl ⟨fun _ => c_settle hsl ⟨hP.1, hb.1, by rw [hb.2.1]; exact h9⟩ hC (fun M1 hM1 hC1 => ?_), fun g => absurd (by omega) g⟩
    exact q M1 (hM.trans (hM1.mono (fun a k p => by unfold zPse at p; unfold zPac; omega))) hC1 (hH.fr (fun a k p => hM1 a k (by have := hC.1; unfold zdHc at p; unfold zPse; omega))) (by rw [hM1 _ _ (by have := hC.1; unfold zPse; omega)]; exact hs)
  | d + 1, i, M, u, e, hM, hC, hH, hs => by
    have ht := hC.1
    have h0 := hP.2.1.1
    have hb := zch_b (K := K) hP hx i (by omega)
    have hn1 := znx_ok hP.1 hb.1 (by omega)
    have h01 := znx_0 (L := (zch T L x K i).1) hP.1
    refine B_Zt_chance_48 hsl ⟨fun g => absurd g (by omega), fun _ => ⟨hC.k8, ?_⟩⟩
    rw [hC.2.1]
    refine c_next (h := h + 2) hsl hC.kt (by omega) (by decide) hP.1 hb.1 (by omega) zChd_no hC.2.2.1 hC.2.2.2.1 (fun M1 hM1 hl1 => ?_)
    rw [znxd_own] at hl1
    have hC1 : zCw T (znx T (zch T L x K i).1) t (L 0 + n) M1 := hC.fr hP.1 (fun a k p x y z => hM1 a k (by unfold zdCk at p; unfold zPC zPLn; omega)) hl1
    have hH1 := hH.fr (M' := M1) (fun a k p => hM1 a k (by unfold zdHc at p; unfold zPC zPLn; omega))
    refine c_slipBy (h := h + 4) hsl hP.1 hn1 hC1 (by rw [hM1 _ _ (by unfold zPC zPLn; omega)]; exact hs) hb.2.2.1 (fun M2 hM2 hC2 hs2 => ?_)
    obtain ⟨a1, a2, a3, a4⟩ := zchs_ok (x := (zch T L x K i).2.1) hP.1 hn1
    have hH2 := hH1.fr (M' := M2) (fun a k p => hM2 a k (by unfold zdHc at p; unfold zPsl; omega))
    have fin : ∀ u' y, y = (zch T L x K (i + 1)).2.2.2 → zX G (y_Zt_chance, h + 6 + 1, sl) u' 76 [(0, (2, 1)), (1, (0, (n : Int))), (2, (0, y)), (3, (0, (i : Int)))] [] M2 Q := fun u' y ey => by
      refine B_Zt_chance_76 hsl (c_keepIf (h := h + 2) hsl hP.1 a1 hC2 (by rw [a2, h01, hb.2.1]; omega) h9 (by rw [a2, h01, hb.2.1]; omega) hH2 (fun M3 hM3 hC3 hH3 => ⟨by unfold zI; omega, ?_⟩))
      have hM3' : zSm (zPac t) M0 M3 := ((hM.trans (hM1.mono (fun a k p => by unfold zPC zPLn at p; unfold zPac; omega))).trans (hM2.mono (fun a k p => by unfold zPsl at p; unfold zPac; omega))).trans (hM3.mono (fun a k p => by unfold zPkm at p; unfold zPac; omega))
      have ih := c_chanceL (G := G) (h := h) (Q := Q) hsl hP h9 hn hx hK q d (i + 1) (M := M3) (u := u') (by omega) hM3' hC3 hH3 (by rw [hM3 _ _ (by unfold zPkm; omega)]; exact hs2)
      rw [zcs, ← ey] at ih
      exact ih
    have es : (zch T L x K (i + 1)).2.2.2 = (zch T L x K i).2.2.2 + (zchs T (znx T (zch T L x K i).1) (zch T L x K i).2.1).2.2 := rfl
    rcases a4 with y | y
    · rw [y]
      exact ⟨fun _ => fin u _ (by rw [es, y]; omega), fun z => absurd rfl z⟩
    · rw [y]
      exact ⟨fun z => absurd z (by decide), fun _ => ⟨by unfold zI; omega, fin u _ (by rw [es, y])⟩⟩
theorem c_chance {G : zG} {h sl : Nat} (hsl : 1 ≤ sl) {T : zTb} {L : Int → Int} {t ac j n x : Int} {K : zKp3} {R : Int → Int → Int} {Rf : Int → Int} {M : zM} {Q : Int → zM → Prop} (hP : zPu T L) (hC : zCk T L t M) (hp : zHp T L K R ac j) (hH : zHc T K R ac j M) (hx : 0 ≤ x ∧ x < 2147483648) (hs : M 1 16 = x) (hR : zAr M 78 6 Rf) (hbb : 0 ≤ Rf 3 ∧ Rf 3 ≤ 100000)
    (q1 : (1 ≤ n ∧ n ≤ 100 ∧ L 0 + n ≤ 999) → ∀ M', zSm (zPac t) M M' → zCk T (zch T L x K n.toNat).1 t M' → zHc T (zch T L x K n.toNat).2.2.1 (zR1 R j L K.1) (zac1 ac) (zj1 j) M' → M' 1 16 = (zch T L x K n.toNat).2.1 → Q (zch T L x K n.toNat).2.2.2 M')
    (q0 : ¬ (1 ≤ n ∧ n ≤ 100 ∧ L 0 + n ≤ 999) → ∀ M', zSm (zPrf 78) M M' → zAr M' 78 6 (zup Rf 3 (Rf 3 + 1)) → Q (-1) M') : zCt G (h + 7) sl 0 0 y_Zt_chance [(2, 1), (0, n)] M Q := by
  have ht := hC.1
  have h0 := hP.2.1.1
  refine E_Zt_chance hsl (c_isAheadC hsl hP hC (fun a b c => ⟨fun _ => c_remem (h := h + 4) hsl hP hC hp hH (fun M1 hM1 hC1 hH1 => ?_), fun y => absurd (by decide) y⟩) (fun g => ⟨fun y => absurd rfl y, fun _ => c_none hsl (by decide) (by decide) hR hbb (q0 g)⟩))
  rw [hC1.l0]
  refine ⟨by unfold zI; omega, ?_⟩
  obtain ⟨k, rfl⟩ : ∃ k : Nat, n = k := ⟨n.toNat, by omega⟩
  have : zCt G (h + 6) sl 0 0 y_Course_reach [(2, 8), (0, (((L 0).toNat + k : Nat) : Int))] M1 (fun r7 M8 => zX G (y_Zt_chance, h + 6 + 1, sl) (0, 0, 0, 0) 48 [(0, (2, 1)), (1, (0, (k : Int))), (2, (0, 0)), (3, (0, 0))] [] M8 Q) := by
    refine c_reachT (h := h + 1) hsl hP hC1 (by omega) (fun M2 m hM2 hC2 hm hc => ?_)
    refine c_chanceL (M0 := M2) (t := t) (K := K) hsl hP c (by omega) hx hp.1 (fun M3 hM3 hC3 hH3 hs3 => ?_) k 0 (by omega) (zSm.refl _ _) ⟨ht, hC2.2.1, hC2.2.2.1, hC2.2.2.2.1, m, by omega, hc⟩ (hH1.fr (fun a j p => hM2 a j (by unfold zdHc at p; unfold zPR zPC zPLn zPO; omega))) (by rw [hM2 _ _ (by unfold zPR zPC zPLn zPO; omega), hM1 _ _ (by omega)]; exact hs)
    rw [show ((k : Int)).toNat = k from by omega] at q1
    exact q1 ⟨a, b, c⟩ M3 (((hM1.mono (fun a j p => by unfold zPac; omega)).trans (hM2.mono (fun a j p => by unfold zPR zPC zPLn zPO at p; unfold zPac; omega))).trans hM3) hC3 hH3 hs3
  rw [show (((L 0).toNat + k : Nat) : Int) = L 0 + k from by omega] at this
  exact this
