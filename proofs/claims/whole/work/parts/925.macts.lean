/-! THE MODEL: acts. -/
def zPmx : Int → Int → Prop := fun a k => a = 195 ∨ a = 125 ∧ (k = 50 ∨ k = 54 ∨ k = 96 ∨ k = 66 ∨ k = 67) ∨ a = 164 ∨ a = 172
def zPma : Int → Int → Prop := fun a k => a = 195 ∨ a = 125 ∧ (k = 50 ∨ k = 54 ∨ k = 96 ∨ k = 66 ∨ k = 67 ∨ k = 68) ∨ a = 164 ∨ a = 172
theorem zMk.ln {T : zTb} {L X : Int → Int} {M M' : zM} (hT : zTok T) (e : ∀ a k, zdMk a k → a ≠ 164 → M' a k = M a k) (hl : zLm (T.1 8 0) X M') (h : zMk T L M) : zMk T X M' := by
  refine ⟨?_, hl, fun k hk c c0 cn => by rw [e _ _ (by unfold zdMk; omega) (by decide), e _ _ (by unfold zdMk; omega) (by decide)]; exact h.2.2 k hk c c0 cn⟩
  obtain ⟨a, b, d, f, g⟩ := h.1
  have fC : ∀ x, 0 ≤ x → zTmC T M x → zTmC T M' x := fun x x0 hx => by
    obtain ⟨p1, p2, p3, p4⟩ := hx
    unfold zTmC
    rw [e 161 _ (by unfold zdMk; omega) (by omega), e 162 _ (by unfold zdMk; omega) (by omega)]
    exact ⟨p1, p2, p3, zSg_fr (j := 1600) (fun j hj => e 163 j (by unfold zdMk; omega) (by omega)) (by omega) p4⟩
  unfold zTm
  rw [e 158 2 (by unfold zdMk; omega) (by decide), e 158 3 (by unfold zdMk; omega) (by decide), e 125 52 (by unfold zdMk; omega) (by decide)]
  refine ⟨a, b, d, fun x x0 xn => ?_, fun y => fC 8 (by decide) (g y)⟩
  obtain ⟨q0, q1, q2, q3, q4, q5, q6, q7⟩ := f x x0 xn
  unfold zTm1
  rw [e 160 _ (by unfold zdMk; omega) (by omega), e 160 (56 + 7 * x + 1) (by unfold zdMk; omega) (by omega), e 160 (56 + 7 * x + 2) (by unfold zdMk; omega) (by omega), e 160 (56 + 7 * x + 3) (by unfold zdMk; omega) (by omega), e 160 (56 + 7 * x + 4) (by unfold zdMk; omega) (by omega), e 160 (56 + 7 * x + 5) (by unfold zdMk; omega) (by omega), e 160 (56 + 7 * x + 6) (by unfold zdMk; omega) (by omega)]
  exact ⟨q0, q1, q2, q3, q4, q5, q6, fun y => fC x x0 (q7 y)⟩
theorem m_remem {G : zG} {h sl : Nat} (hsl : 2 ≤ sl) {T : zTb} {L : Int → Int} {ac j : Int} {K : zKp3} {R : Int → Int → Int} {M : zM} {Q : Int → zM → Prop} (hP : zPu T L) (hC : zMk T L M) (hp : zHp T L K R ac j) (hH : zHm T K R ac j M)
    (q : ∀ M', zSm (fun a k => a = 172 ∨ a = 125 ∧ (k = 66 ∨ k = 67)) M M' → zMk T L M' → zHm T K (zR1 R j L K.1) (zac1 ac) (zj1 j) M' → Q 0 M') : zCt G h sl 0 0 y_Md_keeps [(2, 125)] M Q := by
  obtain ⟨⟨x1, x2⟩, x4, x5, x6⟩ := hH
  obtain ⟨h1, h2, h3, h4, h5⟩ := hp
  have hn8 := hP.1.2.1
  have hj : 0 ≤ zj1 j ∧ zj1 j < 20 := by unfold zj1; omega
  have hz : 0 ≤ zkt4 K.1 ∧ zkt4 K.1 ≤ 40 := by unfold zkt4; split <;> omega
  refine c_keeps (j := zj1 j) hsl (by omega) (by rw [x4]; rfl) (by omega) (fun M' hM' e67 e66 e172 => ?_)
  have s : zSm (fun a k => a = 172 ∨ a = 125 ∧ (k = 66 ∨ k = 67)) M M' := hM'.mono (fun a k p => by unfold zPK at p; omega)
  refine q M' s (hC.fr hP.1 (fun a k p => s a k (by unfold zdMk at p; omega))) ⟨⟨by rw [s _ _ (by omega)]; exact x1, fun k a b => by rw [s _ _ (by omega), s _ _ (by omega)]; exact x2 k a b⟩, e67, by rw [e66, x5]; rfl, fun r hr => ?_⟩
  have hr2 := hr.1
  by_cases c : r = zj1 j
  · subst c
    have e1 : zR1 R j L K.1 (zj1 j) = zsv L K.1 := zob_s _ _ _
    rw [e1, zsv_s, zsv_o (by decide)]
    have e0 := e172 0 (by decide) (by decide)
    rw [Int.add_zero] at e0
    refine ⟨by rw [e0]; exact hC.2.1.1, fun c c0 cn => ?_, by rw [e172 17 (by decide) (by decide)]; exact x1, fun k k0 kn => ?_⟩
    · rw [e172 _ (by omega) (by omega), e172 _ (by omega) (by omega), zsv_o (by omega), zsv_o (by omega)]
      exact hC.2.1.2 c c0 cn
    · rw [e172 _ (by omega) (by omega), e172 _ (by omega) (by omega)]
      exact x2 k k0 kn
  · have e2 : zR1 R j L K.1 r = R r := zob_o _ _ c
    rw [e2]
    have v := (zvs_1 h2 h3 hr c).1
    obtain ⟨a, b, d, f⟩ := x6 r v
    have hR := h4 r v
    have hzr : 0 ≤ zkt4 (R r 17) ∧ zkt4 (R r 17) ≤ 40 := by unfold zkt4; split <;> omega
    have g : ∀ i, 0 ≤ i → i < 98 → M' 172 (98 * r + i) = M 172 (98 * r + i) := fun i i0 i1 => hM' _ _ (by unfold zPK; omega)
    have g0 := g 0 (by decide) (by decide)
    rw [Int.add_zero] at g0
    exact ⟨by rw [g0]; exact a, fun x x0 xn => by rw [g _ (by omega) (by omega), g _ (by omega) (by omega)]; exact b x x0 xn, by rw [g _ (by omega) (by omega)]; exact d, fun k k0 kn => by rw [g _ (by omega) (by omega), g _ (by omega) (by omega)]; exact f k k0 kn⟩
theorem zHm.kept {T : zTb} {X : Int → Int} {K : zKp3} {R : Int → Int → Int} {ac j : Int} {M M' : zM} (hb : ∀ s, zvs ac j s → 0 ≤ R s 17 ∧ R s 17 ≤ K.1) (h : zHm T K R ac j M) (hM : zSm zPk M M') (hk : zKm (zkp1 T X K).1 (zkp1 T X K).2.1 (zkp1 T X K).2.2 M') : zHm T (zkp1 T X K) R ac j M' := by
  obtain ⟨_, x4, x5, x6⟩ := h
  refine ⟨hk, by rw [hM _ _ (by unfold zPk; omega)]; exact x4, by rw [hM _ _ (by unfold zPk; omega)]; exact x5, fun s hs => ?_⟩
  obtain ⟨a, b, d, f⟩ := x6 s hs
  have hbs := hb s hs
  have hz : 0 ≤ zkt4 (R s 17) ∧ zkt4 (R s 17) ≤ R s 17 := by unfold zkt4; split <;> omega
  refine ⟨by rw [hM _ _ (by unfold zPk; omega)]; exact a, fun x x0 xn => by rw [hM _ _ (by unfold zPk; omega), hM _ _ (by unfold zPk; omega)]; exact b x x0 xn, by rw [hM _ _ (by unfold zPk; omega)]; exact d, fun k k0 kn => ?_⟩
  rw [hM _ _ (by unfold zPk; omega), hM _ _ (by unfold zPk; omega)]
  have e := zkp1_k (T := T) (X := X) (K := K) (i := R s 17 - zkt4 (R s 17) + k) (by omega)
  rw [e.1, e.2]
  exact f k k0 kn
theorem m_keptIf {G : zG} {h sl : Nat} (hsl : 2 ≤ sl) {T : zTb} {X : Int → Int} {ac j : Int} {K : zKp3} {R : Int → Int → Int} {M : zM} {Q : Int → zM → Prop} (hT : zTok T) (hC : zMk T X M) (hn : 0 ≤ X 0 ∧ X 0 ≤ 999) (hK : 0 ≤ K.1) (hb : ∀ s, zvs ac j s → 0 ≤ R s 17 ∧ R s 17 ≤ K.1) (hH : zHm T K R ac j M) (hm : zmk T X = 1) (q : ∀ M', zSm zPk M M' → zMk T X M' → zHm T (zkp1 T X K) R ac j M' → Q 0 M') : zCt G (h + 2) sl 0 0 y_Md_isKept [(2, 125)] M Q := by
  have hn8 := hT.2.1
  refine c_isKept hsl hK hT hC.1 hC.2.1 hC.2.2 hn hH.1 (fun M' hM' hk => ?_)
  have hk' : zKm (zkp1 T X K).1 (zkp1 T X K).2.1 (zkp1 T X K).2.2 M' := by
    unfold zkp1
    rw [if_pos hm]
    exact hk
  exact q M' hM' (hC.fr hT (fun a k p => hM' a k (by unfold zdMk at p; unfold zPk; omega))) (hH.kept hb hM' hk')
theorem m_writeL {G : zG} {h sl : Nat} (hsl : 2 ≤ sl) {T : zTb} {L : Int → Int} {ac j : Int} {n : Nat} {K : zKp3} {R : Int → Int → Int} {M0 : zM} {Q : Int → zM → Prop} (hP : zPu T L) (h9 : L 0 + n ≤ 999) (hn : n ≤ 100) (hK : 0 ≤ K.1) (hb : ∀ s, zvs ac j s → 0 ≤ R s 17 ∧ R s 17 ≤ K.1)
    (q : ∀ M', zSm zPmx M0 M' → zMk T (zln T L n) M' → zHm T (zKs T L K n) R ac j M' → Q (zKc T L n) M') :
    ∀ (d i : Nat) {M : zM} {u : Nat × Nat × Nat × Nat}, d + i = n → zSm zPmx M0 M → zMk T (zln T L i) M → zHm T (zKs T L K i) R ac j M → zX G (y_Md_write, h + 5 + 1, sl) u 26 [(0, (2, 125)), (1, (0, (n : Int))), (2, (0, zKc T L i)), (3, (0, (i : Int)))] [] M Q
  | 0, i, M, u, e, hM, hC, hH => by
    have : i = n := by omega
    subst this
    exact B_Md_write_26 hsl ⟨fun _ => q M hM hC hH, fun g => absurd (by omega) g⟩
  | d + 1, i, M, u, e, hM, hC, hH => by
    have h0 := hP.2.1.1
    have hln := zln_ok hP.1 hP.2.1 i (by omega)
    have hln1 := zln_ok hP.1 hP.2.1 (i + 1) (by omega)
    have hkb := zKs_b (T := T) (L := L) (K := K) i
    refine B_Md_write_26 hsl ⟨fun g => absurd g (by omega), fun _ => c_lineGoes hsl hP.1 hln.2 (by rw [hln.1]; omega) hC.1 hC.2.1 (fun M1 hM1 hl1 => ?_)⟩
    have hl1 : zLm (T.1 8 0) (zln T L (i + 1)) M1 := hl1
    have hC1 : zMk T (zln T L (i + 1)) M1 := hC.ln hP.1 (fun a k p n => hM1 a k (by unfold zdMk at p; unfold zPG; omega)) hl1
    have hH1 := hH.fr (M' := M1) (fun a k p => hM1 a k (by unfold zdHm at p; unfold zPG; omega))
    refine c_isMarkedM (h := h + 2) hsl hP.1 hln1.2 hC1.1 hC1.2.1 (fun M2 hM2 => ?_)
    have hC2 := hC1.frB hP.1 (zPS_PB hM2)
    have hH2 := hH1.fr (M' := M2) (fun a k p => hM2 a k (by unfold zdHm at p; unfold zPS; omega))
    have hM2' : zSm zPmx M0 M2 := (hM.trans (hM1.mono (fun a k p => by unfold zPG at p; unfold zPmx; omega))).trans (hM2.mono (fun a k p => by unfold zPS at p; unfold zPmx; omega))
    have es : zKc T L (i + 1) = zKc T L i + zmk T (zln T L (i + 1)) := rfl
    have ek : zKs T L K (i + 1) = zkp1 T (zln T L (i + 1)) (zKs T L K i) := rfl
    have next : ∀ (M3 : zM) y, zSm zPmx M0 M3 → zMk T (zln T L (i + 1)) M3 → zHm T (zKs T L K (i + 1)) R ac j M3 → y = zKc T L (i + 1) → zI ((i : Int) + 1) ∧ zX G (y_Md_write, h + 5 + 1, sl) u 26 [(0, (2, 125)), (1, (0, (n : Int))), (2, (0, y)), (3, (0, (i : Int) + 1))] [] M3 Q := fun M3 y a b c ey => ⟨by unfold zI; omega, by
      have := m_writeL (G := G) (h := h) (Q := Q) hsl hP h9 hn hK hb q d (i + 1) (M := M3) (u := u) (by omega) a b c
      rw [zcs, ← ey] at this
      exact this⟩
    rcases zmk_01 T (zln T L (i + 1)) with x | x
    · rw [x]
      exact ⟨fun y => absurd rfl y, fun _ => next M2 _ hM2' hC2 (by rw [ek]; unfold zkp1; rw [if_neg (by omega)]; exact hH2) (by rw [es, x]; omega)⟩
    · rw [x]
      refine ⟨fun _ => m_keptIf (h := h + 3) hsl hP.1 hC2 (by rw [hln1.1]; omega) (by omega) (fun s hs => by have := hb s hs; omega) hH2 x (fun M3 hM3 hC3 hH3 => ⟨by unfold zI; omega, next M3 _ (hM2'.trans (hM3.mono (fun a k p => by unfold zPk at p; unfold zPmx; omega))) hC3 (by rw [ek]; exact hH3) (by rw [es, x])⟩), fun y => absurd (by decide) y⟩
theorem m_write {G : zG} {h sl : Nat} (hsl : 2 ≤ sl) {T : zTb} {L : Int → Int} {ac j n : Int} {K : zKp3} {R : Int → Int → Int} {Rf : Int → Int} {M : zM} {Q : Int → zM → Prop} (hP : zPu T L) (hC : zMk T L M) (hp : zHp T L K R ac j) (hH : zHm T K R ac j M) (hR : zAr M 127 6 Rf) (hbb : 0 ≤ Rf 3 ∧ Rf 3 ≤ 100000)
    (q1 : (1 ≤ n ∧ n ≤ 100 ∧ L 0 + n ≤ 999) → ∀ M', zSm zPmx M M' → zMk T (zln T L n.toNat) M' → zHm T (zKs T L K n.toNat) (zR1 R j L K.1) (zac1 ac) (zj1 j) M' → Q (zKc T L n.toNat) M')
    (q0 : ¬ (1 ≤ n ∧ n ≤ 100 ∧ L 0 + n ≤ 999) → ∀ M', zSm (zPrf 127) M M' → zAr M' 127 6 (zup Rf 3 (Rf 3 + 1)) → Q (-1) M') : zCt G (h + 6) sl 0 0 y_Md_write [(2, 125), (0, n)] M Q := by
  have h0 := hP.2.1.1
  refine E_Md_write hsl (c_isAheadM (h := h + 4) hsl hC.2.1.1 h0 hP.2.2 (by omega) (fun a b c => ⟨fun _ => m_remem hsl hP hC hp hH (fun M1 hM1 hC1 hH1 => ?_), fun y => absurd (by decide) y⟩) (fun g => ⟨fun y => absurd rfl y, fun _ => m_refuses hsl (by decide) (by decide) hR hbb (q0 g)⟩))
  obtain ⟨k, rfl⟩ : ∃ k : Nat, n = k := ⟨n.toNat, by omega⟩
  rw [show ((k : Int)).toNat = k from by omega] at q1
  refine m_writeL (M0 := M1) (K := K) (h := h) hsl hP c (by omega) hp.1.1 (fun s hs => ?_) (fun M3 hM3 hC3 hH3 => q1 ⟨a, b, c⟩ M3 ((hM1.mono (fun a k p => by unfold zPmx; omega)).trans hM3) hC3 hH3) k 0 (by omega) (zSm.refl _ _) hC1 hH1
  have := (hp.act hP).2.2.2.1 s hs
  exact ⟨this.2.2.1, this.2.2.2.2⟩
theorem m_put {G : zG} {h sl : Nat} (hsl : 2 ≤ sl) {T : zTb} {L : Int → Int} {ac j c v : Int} {K : zKp3} {R : Int → Int → Int} {Rf : Int → Int} {M : zM} {Q : Int → zM → Prop} (hP : zPu T L) (hC : zMk T L M) (hp : zHp T L K R ac j) (hH : zHm T K R ac j M) (hR : zAr M 127 6 Rf) (hbb : 0 ≤ Rf 2 ∧ Rf 2 ≤ 100000)
    (q1 : zpok T L c v → ∀ M', zSm zPmx M M' → zMk T (zup L (1 + c) v) M' → zHm T K (zR1 R j L K.1) (zac1 ac) (zj1 j) M' → Q 1 M')
    (q0 : ¬ zpok T L c v → ∀ M', zSm (zPrf 127) M M' → zAr M' 127 6 (zup Rf 2 (Rf 2 + 1)) → Q 0 M') : zCt G (h + 4) sl 0 0 y_Md_put [(2, 125), (0, c), (0, v)] M Q := by
  have hn8 := hP.1.2.1
  have no : ¬ zpok T L c v → ∀ u, zX G (y_Md_put, h + 3 + 1, sl) u 18 [(0, (2, 125))] [] M Q := fun g u => B_Md_put_18 hsl (m_isRefused hsl (by decide) (by decide) hR hbb (q0 g))
  refine E_Md_put hsl (m_canTell hsl hP.1 hC.1 (fun a g3 g1 g2 => ⟨fun y => absurd y (by decide), fun _ => c_valueOf hsl a.1 (by omega) ?_⟩) (fun g => ⟨fun _ => no (fun x => g ⟨x.1, x.2.1, x.2.2.1, x.2.2.2.1⟩) _, fun y => absurd rfl y⟩))
  rw [(hC.2.1.2 c a.1 a.2).1]
  refine ⟨fun g => m_remem hsl hP hC hp hH (fun M1 hM1 hC1 hH1 => ⟨by unfold zI; omega, by omega, ?_⟩), fun g => no (fun x => x.2.2.2.2 (by omega)) _⟩
  exact q1 ⟨a, g3, g1, g2, g⟩ _ ((hM1.mono (fun a k p => by unfold zPmx; omega)).wr (by unfold zPmx; omega)) (hC1.ln hP.1 (fun x k _ n => zwr_o _ n) (hC1.2.1.val hn8 a.1)) (hH1.fr (fun x k p => by rw [zwr_i, if_neg (by unfold zdHm at p; omega)]))
theorem m_turn {G : zG} {h sl : Nat} (hsl : 2 ≤ sl) {T : zTb} {L : Int → Int} {ac j c : Int} {K : zKp3} {R : Int → Int → Int} {Rf : Int → Int} {M : zM} {Q : Int → zM → Prop} (hP : zPu T L) (hC : zMk T L M) (hp : zHp T L K R ac j) (hH : zHm T K R ac j M) (hR : zAr M 127 6 Rf) (hbb : 0 ≤ Rf 2 ∧ Rf 2 ≤ 100000)
    (q1 : ztok2 T c → ∀ M', zSm zPmx M M' → zMk T (zup L (9 + c) (1 - L (9 + c))) M' → zHm T K (zR1 R j L K.1) (zac1 ac) (zj1 j) M' → Q 1 M')
    (q0 : ¬ ztok2 T c → ∀ M', zSm (zPrf 127) M M' → zAr M' 127 6 (zup Rf 2 (Rf 2 + 1)) → Q 0 M') : zCt G (h + 3) sl 0 0 y_Md_turn [(2, 125), (0, c)] M Q := by
  have hn8 := hP.1.2.1
  have no : ¬ ztok2 T c → ∀ u, zX G (y_Md_turn, h + 2 + 1, sl) u 17 [(0, (2, 125))] [] M Q := fun g u => B_Md_turn_17 hsl (m_isRefused hsl (by decide) (by decide) hR hbb (q0 g))
  refine E_Md_turn hsl (c_isColM (h := h + 1) hsl hP.1 hC.1 (fun a b => ⟨fun y => absurd y (by decide), fun _ => c_sortOf hsl a (by omega) ?_⟩) (fun g => ⟨fun _ => no (fun x => g x.1) _, fun y => absurd rfl y⟩))
  rw [(hC.1.2.2.2.1 c a b).1]
  refine ⟨fun g => m_remem hsl hP hC hp hH (fun M1 hM1 hC1 hH1 => ?_), fun g => no (fun x => g x.2) _⟩
  have hup := (hP.2.1.2.2 c a b).up
  rw [(hC1.2.1.2 c a b).2]
  refine ⟨by unfold zI; omega, by omega, by unfold zI; omega, ?_⟩
  exact q1 ⟨⟨a, b⟩, g⟩ _ ((hM1.mono (fun a k p => by unfold zPmx; omega)).wr (by unfold zPmx; omega)) (hC1.ln hP.1 (fun x k _ n => zwr_o _ n) (hC1.2.1.way hn8 a)) (hH1.fr (fun x k p => by rw [zwr_i, if_neg (by unfold zdHm at p; omega)]))
theorem m_undo {G : zG} {h sl : Nat} (hsl : 2 ≤ sl) {T : zTb} {L : Int → Int} {ac j : Int} {K : zKp3} {R : Int → Int → Int} {Rf : Int → Int} {M : zM} {Q : Int → zM → Prop} (hP : zPu T L) (hC : zMk T L M) (hp : zHp T L K R ac j) (hH : zHm T K R ac j M) (hR : zAr M 127 6 Rf) (hbb : 0 ≤ Rf 4 ∧ Rf 4 ≤ 100000)
    (q1 : ac ≠ 0 → ∀ M', zSm zPmx M M' → zMk T (R j) M' → zHm T (zK0 K (R j 17)) R (ac - 1) ((j + 19) % 20) M' → Q 1 M')
    (q0 : ac = 0 → ∀ M', zSm (zPrf 127) M M' → zAr M' 127 6 (zup Rf 4 (Rf 4 + 1)) → Q 0 M') : zCt G h sl 0 0 y_Md_undo [(2, 125)] M Q := by
  have hn8 := hP.1.2.1
  obtain ⟨⟨x1, x2⟩, x4, x5, x6⟩ := hH
  obtain ⟨h1, h2, h3, h4, h5⟩ := hp
  refine E_Md_undo hsl ?_
  rw [x5]
  refine ⟨fun g => ?_, fun g => ⟨by rw [hR 4 (by decide) (by decide)]; unfold zI; omega, q0 (by omega) _ ((zSm.refl _ M).wr rfl) (hR.inc (by decide) (by decide))⟩⟩
  have vj : zvs ac j j := ⟨h3, by omega⟩
  have hj := h4 j vj
  obtain ⟨a, b, d, f⟩ := x6 j vj
  have hzj : 0 ≤ zkt4 (R j 17) ∧ zkt4 (R j 17) ≤ 40 := by unfold zkt4; split <;> omega
  refine c_undoL (M0 := M) hsl h3 x4 (by omega) (fun M' hM' e67 e66 e164 => ?_) 98 0 rfl (zSm.refl _ _) (fun i i0 i1 => absurd i1 (by omega))
  have e0 := e164 0 (by decide) (by decide)
  rw [Int.add_zero] at e0
  refine q1 g M' (hM'.mono (fun a k p => by unfold zPmx; omega)) (hC.ln hP.1 (fun x k p n => hM' x k (by unfold zdMk at p; omega)) ⟨by rw [e0]; exact a, fun c c0 cn => by rw [e164 _ (by omega) (by omega), e164 _ (by omega) (by omega)]; exact b c c0 cn⟩) ⟨⟨by rw [e164 17 (by decide) (by decide)]; exact d, fun k k0 kn => ?_⟩, e67, by rw [e66, x5], fun s hs => ?_⟩
  · have kn : k < zkt4 (R j 17) := kn
    rw [e164 _ (by omega) (by omega), e164 _ (by omega) (by omega)]
    exact f k k0 kn
  · have v := zvs_u h2 h3 hs
    obtain ⟨a, b, d, f⟩ := x6 s v.1
    exact ⟨by rw [hM' _ _ (by omega)]; exact a, fun x x0 xn => by rw [hM' _ _ (by omega), hM' _ _ (by omega)]; exact b x x0 xn, by rw [hM' _ _ (by omega)]; exact d, fun k k0 kn => by rw [hM' _ _ (by omega), hM' _ _ (by omega)]; exact f k k0 kn⟩
theorem m_drawOf {G : zG} {h sl : Nat} (hsl : 2 ≤ sl) {x m : Int} {M : zM} {Q : Int → zM → Prop} (h1 : M 125 68 = x) (hx : 0 ≤ x ∧ x < 2147483648) (hm : 0 < m ∧ m ≤ 1000) (q : Q (zdr x m) (zwr M 125 68 (zsd x))) : zCt G h sl 0 0 y_Md_drawOf [(2, 125), (0, m)] M Q := by
  have hs := zsd_in x
  refine E_Md_drawOf hsl ?_
  rw [h1, zwr_s, Int.tmod_eq_emod_of_nonneg (by omega : 0 ≤ 1103515245 * x + 12345)]
  have e1 : (1103515245 * x + 12345) % 2147483648 = zsd x := rfl
  rw [e1]
  have e2 : Int.tdiv (zsd x) 64 = zsd x / 64 := Int.tdiv_eq_ediv_of_nonneg hs.1
  have e3 : Int.tmod (zsd x / 64) m = zdr x m := Int.tmod_eq_emod_of_nonneg (by omega)
  have hd0 : 0 ≤ zdr x m := Int.emod_nonneg _ (by omega)
  have hd1 : zdr x m < m := Int.emod_lt_of_pos _ hm.1
  rw [e2, e3, zl2i_in (by unfold zI; omega)]
  exact ⟨by unfold zL; omega, by unfold zL; omega, by unfold zL; omega, by omega, q⟩
theorem m_chanceL {G : zG} {h sl : Nat} (hsl : 2 ≤ sl) {T : zTb} {L : Int → Int} {ac j x : Int} {n : Nat} {K : zKp3} {R : Int → Int → Int} {M0 : zM} {Q : Int → zM → Prop} (hP : zPu T L) (h9 : L 0 + n ≤ 999) (hn : n ≤ 100) (hx : 0 ≤ x ∧ x < 2147483648) (hK : 0 ≤ K.1) (hb : ∀ s, zvs ac j s → 0 ≤ R s 17 ∧ R s 17 ≤ K.1)
    (q : ∀ M', zSm zPma M0 M' → zMk T (zch T L x K n).1 M' → zHm T (zch T L x K n).2.2.1 R ac j M' → M' 125 68 = (zch T L x K n).2.1 → Q (zch T L x K n).2.2.2 M') :
    ∀ (d i : Nat) {M : zM} {u : Nat × Nat × Nat × Nat}, d + i = n → zSm zPma M0 M → zMk T (zch T L x K i).1 M → zHm T (zch T L x K i).2.2.1 R ac j M → M 125 68 = (zch T L x K i).2.1 → zX G (y_Md_chance, h + 5 + 1, sl) u 26 [(0, (2, 125)), (1, (0, (n : Int))), (2, (0, (zch T L x K i).2.2.2)), (3, (0, (i : Int)))] [] M Q
  | 0, i, M, u, e, hM, hC, hH, hs => by
    have : i = n := by omega
    subst this
    exact B_Md_chance_26 hsl ⟨fun _ => q M hM hC hH hs, fun g => absurd (by omega) g⟩
  | d + 1, i, M, u, e, hM, hC, hH, hs => by
    have h0 := hP.2.1.1
    have hn0 := hP.1.1
    have hn8 := hP.1.2.1
    have hbz := zch_b (K := K) hP hx i (by omega)
    have hn1 := znx_ok hP.1 hbz.1 (by omega)
    have h01 := znx_0 (L := (zch T L x K i).1) hP.1
    obtain ⟨a1, a2, a3, a4⟩ := zchs_ok (x := (zch T L x K i).2.1) hP.1 hn1
    refine B_Md_chance_26 hsl ⟨fun g => absurd g (by omega), fun _ => c_lineGoes hsl hP.1 hbz.1 (by omega) hC.1 hC.2.1 (fun M1 hM1 hl1 => ?_)⟩
    have hC1 : zMk T (znx T (zch T L x K i).1) M1 := hC.ln hP.1 (fun a k p n => hM1 a k (by unfold zdMk at p; unfold zPG; omega)) hl1
    have hH1 := hH.fr (M' := M1) (fun a k p => hM1 a k (by unfold zdHm at p; unfold zPG; omega))
    have hM1' : zSm zPma M0 M1 := hM.trans (hM1.mono (fun a k p => by unfold zPG at p; unfold zPma; omega))
    have es : (zch T L x K (i + 1)).2.2.2 = (zch T L x K i).2.2.2 + (zchs T (znx T (zch T L x K i).1) (zch T L x K i).2.1).2.2 := rfl
    have ek : (zch T L x K (i + 1)).2.2.1 = zkp1 T (zchs T (znx T (zch T L x K i).1) (zch T L x K i).2.1).1 (zch T L x K i).2.2.1 := rfl
    have fin : ∀ (M2 : zM) u' y, zSm zPma M0 M2 → zMk T (zchs T (znx T (zch T L x K i).1) (zch T L x K i).2.1).1 M2 → zHm T (zch T L x K i).2.2.1 R ac j M2 → M2 125 68 = (zchs T (znx T (zch T L x K i).1) (zch T L x K i).2.1).2.1 → y = (zch T L x K (i + 1)).2.2.2 → zX G (y_Md_chance, h + 5 + 1, sl) u' 87 [(0, (2, 125)), (1, (0, (n : Int))), (2, (0, y)), (3, (0, (i : Int)))] [] M2 Q := fun M2 u' y b1 b2 b3 b4 ey => by
      refine B_Md_chance_87 hsl (c_isMarkedM (h := h + 2) hsl hP.1 a1 b2.1 b2.2.1 (fun M3 hM3 => ?_))
      have hC3 := b2.frB hP.1 (zPS_PB hM3)
      have hH3 := b3.fr (M' := M3) (fun a k p => hM3 a k (by unfold zdHm at p; unfold zPS; omega))
      have hM3' : zSm zPma M0 M3 := b1.trans (hM3.mono (fun a k p => by unfold zPS at p; unfold zPma; omega))
      have h68 : M3 125 68 = (zch T L x K (i + 1)).2.1 := by rw [hM3 _ _ (by unfold zPS; omega)]; exact b4
      have next : ∀ (M4 : zM), zSm zPma M0 M4 → zMk T (zch T L x K (i + 1)).1 M4 → zHm T (zch T L x K (i + 1)).2.2.1 R ac j M4 → M4 125 68 = (zch T L x K (i + 1)).2.1 → zI ((i : Int) + 1) ∧ zX G (y_Md_chance, h + 5 + 1, sl) u' 26 [(0, (2, 125)), (1, (0, (n : Int))), (2, (0, y)), (3, (0, (i : Int) + 1))] [] M4 Q := fun M4 c1 c2 c3 c4 => ⟨by unfold zI; omega, by
        have := m_chanceL (G := G) (h := h) (Q := Q) hsl hP h9 hn hx hK hb q d (i + 1) (M := M4) (u := u') (by omega) c1 c2 c3 c4
        rw [zcs, ← ey] at this
        exact this⟩
      rcases zmk_01 T (zchs T (znx T (zch T L x K i).1) (zch T L x K i).2.1).1 with z | z
      · rw [z]
        exact ⟨fun _ => next M3 hM3' hC3 (by rw [ek]; unfold zkp1; rw [if_neg (by omega)]; exact hH3) h68, fun w => absurd rfl w⟩
      · rw [z]
        refine ⟨fun w => absurd w (by decide), fun _ => m_keptIf (h := h + 3) hsl hP.1 hC3 (by rw [a2, h01, hbz.2.1]; omega) (by omega) (fun s hs => by have := hb s hs; omega) hH3 z (fun M4 hM4 hC4 hH4 => next M4 (hM3'.trans (hM4.mono (fun a k p => by unfold zPk at p; unfold zPma; omega))) hC4 (by rw [ek]; exact hH4) (by rw [hM4 _ _ (by unfold zPk; omega)]; exact h68))⟩
    have fr68 : ∀ (Mx : zM) v, zMk T (znx T (zch T L x K i).1) Mx → zHm T (zch T L x K i).2.2.1 R ac j Mx → zMk T (znx T (zch T L x K i).1) (zwr Mx 125 68 v) ∧ zHm T (zch T L x K i).2.2.1 R ac j (zwr Mx 125 68 v) := fun Mx v c1 c2 =>
      ⟨c1.fr hP.1 (fun a k p => by rw [zwr_i, if_neg (by unfold zdMk at p; omega)]), c2.fr (fun a k p => by rw [zwr_i, if_neg (by unfold zdHm at p; omega)])⟩
    have hs1 : M1 125 68 = (zch T L x K i).2.1 := by rw [hM1 _ _ (by unfold zPG; omega)]; exact hs
    refine m_drawOf hsl hs1 hbz.2.2.1 (by decide) ?_
    obtain ⟨hC2, hH2⟩ := fr68 M1 (zsd (zch T L x K i).2.1) hC1 hH1
    rw [hC2.1.2.1]
    have none0 : ∀ u', ¬ (zdr (zch T L x K i).2.1 100 < T.1 8 1 ∧ 0 < T.1 8 0) → zX G (y_Md_chance, h + 5 + 1, sl) u' 87 [(0, (2, 125)), (1, (0, (n : Int))), (2, (0, (zch T L x K i).2.2.2)), (3, (0, (i : Int)))] [] (zwr M1 125 68 (zsd (zch T L x K i).2.1)) Q := fun u' g => by
      have ez : zchs T (znx T (zch T L x K i).1) (zch T L x K i).2.1 = (znx T (zch T L x K i).1, zsd (zch T L x K i).2.1, 0) := by
        unfold zchs
        rw [if_neg g]
      exact fin _ u' _ (hM1'.wr (by unfold zPma; omega)) (by rw [ez]; exact hC2) hH2 (by rw [ez]; exact zwr_s _ _ _ _) (by rw [es, ez]; simp)
    refine ⟨fun g => none0 u (by omega), fun g => E_Md_columnMany hsl ?_⟩
    rw [hC2.1.two]
    refine ⟨fun g2 => none0 u (by omega), fun g2 => E_Md_columnMany hsl ?_⟩
    rw [hC2.1.two]
    generalize hx0 : (zch T L x K i).2.1 = x0 at *
    generalize hX0 : znx T (zch T L x K i).1 = X at *
    have hd0 : 0 ≤ zdr (zsd x0) (T.1 8 0) := Int.emod_nonneg _ (by omega)
    have hdn : zdr (zsd x0) (T.1 8 0) < T.1 8 0 := Int.emod_lt_of_pos _ (by omega)
    have h90 : 0 ≤ zdr (zsd (zsd x0)) 9 := Int.emod_nonneg _ (by decide)
    have h91 : zdr (zsd (zsd x0)) 9 < 9 := Int.emod_lt_of_pos _ (by decide)
    refine m_drawOf hsl (zwr_s _ _ _ _) (zsd_in x0) ⟨by omega, by omega⟩ (m_drawOf hsl (zwr_s _ _ _ _) (zsd_in _) (by decide) ⟨by unfold zI; omega, ?_⟩)
    obtain ⟨hC3, hH3⟩ := fr68 _ (zsd (zsd x0)) hC2 hH2
    obtain ⟨hC4, hH4⟩ := fr68 _ (zsd (zsd (zsd x0))) hC3 hH3
    have hv := (hn1.2.2 _ hd0 hdn).in (hP.1.2.2.2.2.2.2.2 _ hd0 hdn)
    refine m_isSlipped (h := h + 2) hsl hP.1 hC4.1 hC4.2.1 hd0 hdn hv (by omega) (fun M5 hM5 hl5 => ?_)
    have hM5' : zSm zPma M0 M5 := (((hM1'.wr (by unfold zPma; omega)).wr (by unfold zPma; omega)).wr (by unfold zPma; omega)).trans (hM5.mono (fun a k p => by unfold zPG at p; unfold zPma; omega))
    have hH5 := hH4.fr (M' := M5) (fun a k p => hM5 a k (by unfold zdHm at p; unfold zPG; omega))
    have h68 : M5 125 68 = zsd (zsd (zsd x0)) := by rw [hM5 _ _ (by unfold zPG; omega)]; exact zwr_s _ _ _ _
    rw [show 1 + zdr (zsd (zsd x0)) 9 = zdr (zsd (zsd x0)) 9 + 1 from by omega] at hl5
    have hC5 : zMk T (zup X (1 + zdr (zsd x0) (T.1 8 0)) (zslp T (zdr (zsd x0) (T.1 8 0)) (X (1 + zdr (zsd x0) (T.1 8 0))) (zdr (zsd (zsd x0)) 9 + 1))) M5 := hC4.ln hP.1 (fun a k p n => hM5 a k (by unfold zdMk at p; unfold zPG; omega)) hl5
    by_cases g3 : T.1 (zdr (zsd x0) (T.1 8 0)) 0 = 3
    · have ez : zchs T X x0 = (X, zsd (zsd (zsd x0)), 0) := by
        unfold zchs
        rw [if_pos ⟨by omega, by omega⟩, if_pos g3]
      rw [if_pos g3]
      refine ⟨fun _ => fin M5 u _ hM5' (by rw [ez]; unfold zslp at hC5; rw [if_pos g3, zup_self] at hC5; exact hC5) hH5 (by rw [ez]; exact h68) (by rw [es, ez]; simp), fun y => absurd rfl y⟩
    · have ez : zchs T X x0 = (zup X (1 + zdr (zsd x0) (T.1 8 0)) (zslp T (zdr (zsd x0) (T.1 8 0)) (X (1 + zdr (zsd x0) (T.1 8 0))) (zdr (zsd (zsd x0)) 9 + 1)), zsd (zsd (zsd x0)), 1) := by
        unfold zchs
        rw [if_pos ⟨by omega, by omega⟩, if_neg g3]
      rw [if_neg g3]
      exact ⟨fun y => absurd y (by decide), fun _ => ⟨by unfold zI; omega, fin M5 u _ hM5' (by rw [ez]; exact hC5) hH5 (by rw [ez]; exact h68) (by rw [es, ez])⟩⟩
theorem m_chance {G : zG} {h sl : Nat} (hsl : 2 ≤ sl) {T : zTb} {L : Int → Int} {ac j n x : Int} {K : zKp3} {R : Int → Int → Int} {Rf : Int → Int} {M : zM} {Q : Int → zM → Prop} (hP : zPu T L) (hC : zMk T L M) (hp : zHp T L K R ac j) (hH : zHm T K R ac j M) (hx : 0 ≤ x ∧ x < 2147483648) (hs : M 125 68 = x) (hR : zAr M 127 6 Rf) (hbb : 0 ≤ Rf 3 ∧ Rf 3 ≤ 100000)
    (q1 : (1 ≤ n ∧ n ≤ 100 ∧ L 0 + n ≤ 999) → ∀ M', zSm zPma M M' → zMk T (zch T L x K n.toNat).1 M' → zHm T (zch T L x K n.toNat).2.2.1 (zR1 R j L K.1) (zac1 ac) (zj1 j) M' → M' 125 68 = (zch T L x K n.toNat).2.1 → Q (zch T L x K n.toNat).2.2.2 M')
    (q0 : ¬ (1 ≤ n ∧ n ≤ 100 ∧ L 0 + n ≤ 999) → ∀ M', zSm (zPrf 127) M M' → zAr M' 127 6 (zup Rf 3 (Rf 3 + 1)) → Q (-1) M') : zCt G (h + 6) sl 0 0 y_Md_chance [(2, 125), (0, n)] M Q := by
  have h0 := hP.2.1.1
  refine E_Md_chance hsl (c_isAheadM (h := h + 4) hsl hC.2.1.1 h0 hP.2.2 (by omega) (fun a b c => ⟨fun _ => m_remem hsl hP hC hp hH (fun M1 hM1 hC1 hH1 => ?_), fun y => absurd (by decide) y⟩) (fun g => ⟨fun y => absurd rfl y, fun _ => m_refuses hsl (by decide) (by decide) hR hbb (q0 g)⟩))
  obtain ⟨k, rfl⟩ : ∃ k : Nat, n = k := ⟨n.toNat, by omega⟩
  rw [show ((k : Int)).toNat = k from by omega] at q1
  refine m_chanceL (M0 := M1) (K := K) (h := h) hsl hP c (by omega) hx hp.1.1 (fun s hs => ?_) (fun M3 hM3 hC3 hH3 hs3 => q1 ⟨a, b, c⟩ M3 ((hM1.mono (fun a k p => by unfold zPma; omega)).trans hM3) hC3 hH3 hs3) k 0 (by omega) (zSm.refl _ _) hC1 hH1 (by rw [hM1 _ _ (by omega)]; exact hs)
  have := (hp.act hP).2.2.2.1 s hs
  exact ⟨this.2.2.1, this.2.2.2.2⟩
