/-! THE CLASS: heal(). -/
theorem c_astrayL {G : zG} {h sl : Nat} (hsl : 1 ≤ sl) {T : zTb} {L : Int → Int} {t : Int} {M : zM} {Q : Int → zM → Prop} (hP : zPu T L) (hC : zCk T L t M) (q : ∀ A : Nat, A < 256 → (∀ d : Nat, d < 8 → (A / 2 ^ d % 2 = 1 ↔ (d : Int) < T.1 8 0 ∧ zas T L d)) → Q A M) :
    ∀ (d k : Nat) (A : Nat) {u : Nat × Nat × Nat × Nat}, d + k = (T.1 8 0).toNat → A < 256 → (∀ d : Nat, d < 8 → (A / 2 ^ d % 2 = 1 ↔ d < k ∧ zas T L d)) → zX G (y_Zt_columnsAstray, h + 1, sl) u 4 [(0, (2, 1)), (1, (0, (A : Int))), (2, (0, (k : Int)))] [] M Q
  | 0, k, A, u, e, hA, hb => by
    have hn := hP.1.1
    refine B_Zt_columnsAstray_4 hsl ⟨hC.k8, fun _ => q A hA (fun d hd => ?_), fun g => absurd (by rw [hC.n]; omega) g⟩
    rw [hb d hd]
    constructor
    · intro x; exact ⟨by omega, x.2⟩
    · intro x; exact ⟨by omega, x.2⟩
  | d + 1, k, A, u, e, hA, hb => by
    have hn := hP.1.1
    have h8 := hP.1.2.1
    have h0 := hP.2.1.1
    have ho := hC.c1 (c := (k : Int)) (by omega) (by omega)
    have hkc := (zs_cols hC.kt (j := (k : Int)) (by omega) (by omega)).2
    obtain ⟨m, hm, hc⟩ := hC.2.2.2.2.1
    have hlc := hC.2.2.2.1.2.2 (k : Int) (by omega) (by omega)
    have e5 : M 5 (k : Int) = L (1 + k) := hlc.1
    have next : ∀ A' : Nat, A' < 256 → (∀ d : Nat, d < 8 → (A' / 2 ^ d % 2 = 1 ↔ d < k + 1 ∧ zas T L d)) → zI ((k : Int) + 1) ∧ zX G (y_Zt_columnsAstray, h + 1, sl) u 4 [(0, (2, 1)), (1, (0, (A' : Int))), (2, (0, (k : Int) + 1))] [] M Q := fun A' hA' hb' => ⟨by unfold zI; omega, by
      have := c_astrayL (G := G) (h := h) (Q := Q) hsl hP hC q d (k + 1) A' (u := u) (by omega) hA' hb'
      rw [zcs] at this
      exact this⟩
    have same : ¬ zas T L k → zI ((k : Int) + 1) ∧ zX G (y_Zt_columnsAstray, h + 1, sl) u 4 [(0, (2, 1)), (1, (0, (A : Int))), (2, (0, (k : Int) + 1))] [] M Q := fun hz => next A hA (fun d hd => by
      rw [hb d hd]
      constructor
      · intro x; exact ⟨by omega, x.2⟩
      · intro x
        refine ⟨?_, x.2⟩
        apply Classical.byContradiction
        intro y
        have : d = k := by omega
        subst this
        exact hz x.2)
    have fin : ∀ s0, (s0 = 0 ∧ ¬ (L (1 + k) = ztr T (L 0).toNat (1 + k) ∧ L (9 + k) = ztr T (L 0).toNat (9 + k)) ∨ s0 = 1 ∧ (L (1 + k) = ztr T (L 0).toNat (1 + k) ∧ L (9 + k) = ztr T (L 0).toNat (9 + k))) → zX G (y_Zt_columnsAstray, h + 1, sl) u 73 [(0, (2, 1)), (1, (0, (A : Int))), (2, (0, (k : Int)))] [(0, s0)] M Q := fun s0 hs => by
      refine B_Zt_columnsAstray_73 hsl ⟨hC.k8, by omega, ?_⟩
      rw [hC.2.1]
      refine E_Column_moves hsl ⟨hkc, ?_⟩
      rw [ho.1.1]
      refine ⟨fun g => ⟨fun _ => same (fun x => x.1 g), fun x => absurd rfl x⟩, fun g => ⟨fun x => absurd x (by decide), fun _ => ⟨fun g2 => same (fun x => ?_), fun g2 => ?_⟩⟩⟩
      · rcases hs with ⟨hs, hs2⟩ | ⟨hs, hs2⟩
        · exact absurd hs g2
        · exact x.2 hs2
      · have hset := zb_set (u := (A : Int)) (c := (k : Int)) (by omega) (by omega) (by omega) (by omega)
        have hzk : zas T L k := by
          rcases hs with ⟨hs, hs2⟩ | ⟨hs, hs2⟩
          · exact ⟨g, hs2⟩
          · omega
        have := next (zor (A : Int) (zshl 1 (k : Int))).toNat (by omega) (fun d hd => by
          have hd2 := hset.2 (d : Int) (by omega) (by omega)
          have e1 := zbt_n (s := (zor (A : Int) (zshl 1 (k : Int))).toNat) (by omega) (c := (d : Int)) (by omega) (by omega)
          have e2 := zbt_n (s := A) hA (c := (d : Int)) (by omega) (by omega)
          rw [Int.toNat_of_nonneg hset.1.1, hd2, show ((d : Int)).toNat = d from by omega] at e1
          rw [show ((d : Int)).toNat = d from by omega] at e2
          have hbd := hb d hd
          by_cases c : d = k
          · subst c
            rw [if_pos rfl] at e1
            constructor
            · intro _; exact ⟨by omega, hzk⟩
            · intro _; omega
          · rw [if_neg (by omega), e2] at e1
            have e3 : (zor (A : Int) (zshl 1 (k : Int))).toNat / 2 ^ d % 2 = A / 2 ^ d % 2 := by omega
            rw [e3, hbd]
            constructor
            · intro x; exact ⟨by omega, x.2⟩
            · intro x; exact ⟨by omega, x.2⟩)
        rw [Int.toNat_of_nonneg hset.1.1] at this
        exact this
    refine B_Zt_columnsAstray_4 hsl ⟨hC.k8, fun g => absurd g (by rw [hC.n]; omega), fun _ => ⟨by omega, ?_⟩⟩
    rw [hC.l0, e5]
    have hl0 : ((L 0).toNat : Int) = L 0 := by omega
    have t1 : ∀ Q' : Int → zM → Prop, Q' (ztr T (L 0).toNat (1 + k)) M → zCt G h sl 0 0 y_Course_told [(2, 8), (0, L 0), (0, (k : Int))] M Q' := fun Q' qq => by
      have : zCt G h sl 0 0 y_Course_told [(2, 8), (0, (((L 0).toNat : Nat) : Int)), (0, (k : Int))] M Q' := c_toldC hsl (Or.inl rfl) hP.1 hc (by omega) (by omega) (by omega) qq
      rw [hl0] at this
      exact this
    have t2 : ∀ Q' : Int → zM → Prop, Q' (ztr T (L 0).toNat (9 + k)) M → zCt G h sl 0 0 y_Course_goesUp [(2, 8), (0, L 0), (0, (k : Int))] M Q' := fun Q' qq => by
      have : zCt G h sl 0 0 y_Course_goesUp [(2, 8), (0, (((L 0).toNat : Nat) : Int)), (0, (k : Int))] M Q' := c_upC hsl (Or.inl rfl) hP.1 hc (by omega) (by omega) (by omega) qq
      rw [hl0] at this
      exact this
    refine t1 _ ⟨fun g => fin 0 (Or.inl ⟨rfl, fun x => g x.1⟩), fun g => c_goesUp hsl (by decide) hC.2.2.2.1.2.1 (by omega) (by omega) ?_⟩
    rw [hlc.2, hC.l0]
    exact t2 _ ⟨fun g2 => fin 0 (Or.inl ⟨rfl, fun x => g2 x.2⟩), fun g2 => fin 1 (Or.inr ⟨rfl, by omega, by omega⟩)⟩
/-- the class's trial line stands, and what is true is known so far -/
def zTy (T : zTb) (L X : Int → Int) (t : Int) (N : Int) (M : zM) : Prop := zCk T L t M ∧ zLc (T.1 8 0) X M 6 ∧ ∃ m : Nat, N < m ∧ zCo T (zbg T) m M 8 t
def zPy (t : Int) : Int → Int → Prop := fun a k => a = t ∧ (k = 8 ∨ k = 9) ∨ a = t + 4 ∨ a = 6 ∧ (k = 1 ∨ k = 2) ∨ a = 7
theorem zTy.fr {T : zTb} {L X X' : Int → Int} {t N : Int} {M M' : zM} (hT : zTok T) (h : zTy T L X t N M) (hM : zSm (zPy t) M M') (hl : zLc (T.1 8 0) X' M' 6) : zTy T L X' t N M' := by
  have ht := h.1.1
  obtain ⟨m, hm, hc⟩ := h.2.2
  exact ⟨h.1.fr hT (fun a j p => hM a j (by unfold zdCk at p; unfold zPy; omega)), hl, m, hm, hc.fr (fun a j p => hM a j (by unfold zdCo at p; unfold zPy; omega))⟩
theorem c_healsC {G : zG} {h sl : Nat} (hsl : 1 ≤ sl) {T : zTb} {L X : Int → Int} {t n i : Int} {M : zM} {Q : Int → zM → Prop} (hP : zPu T L) (hy : zTy T L X t (L 0 + n) M) (hX : X 0 = L 0 + i) (h0 : 0 ≤ i) (hi : i ≤ n) (h9 : L 0 + n ≤ 999)
    (q1 : ∀ u, zwm T X = 0 → zX G (y_Zt_heals, h + 1, sl) u 88 [(0, (2, 1)), (2, (0, n)), (3, (0, i + 1))] [] M Q) (q0 : zwm T X ≠ 0 → Q 0 M) :
    ∀ (d k : Nat) {u : Nat × Nat × Nat × Nat}, d + k = (T.1 8 0).toNat → (∀ c : Int, 0 ≤ c → c < (k : Int) → X (1 + c) = ztr T (X 0).toNat (1 + c)) → zX G (y_Zt_heals, h + 1, sl) u 109 [(0, (2, 1)), (2, (0, n)), (3, (0, i)), (4, (0, (k : Int)))] [] M Q
  | 0, k, u, e, hr => by
    have hn := hP.1.1
    have hl0 := hP.2.1.1
    refine B_Zt_heals_109 hsl ⟨hy.1.k8, fun _ => ⟨by unfold zI; omega, q1 u ?_⟩, fun g => absurd (by rw [hy.1.n]; omega) g⟩
    unfold zwm
    rw [show (T.1 8 0).toNat = k from by omega]
    exact zwg_eq hr
  | d + 1, k, u, e, hr => by
    have hn := hP.1.1
    have h8 := hP.1.2.1
    have hl0 := hP.2.1.1
    obtain ⟨m, hm, hc⟩ := hy.2.2
    refine B_Zt_heals_109 hsl ⟨hy.1.k8, fun g => absurd g (by rw [hy.1.n]; omega), fun _ => ⟨by omega, ?_⟩⟩
    have e7 : M 7 (k : Int) = X (1 + k) := (hy.2.1.2.2 (k : Int) (by omega) (by omega)).1
    rw [hy.1.l0, e7]
    refine ⟨by unfold zI; omega, ?_⟩
    have : zCt G h sl 0 0 y_Course_told [(2, 8), (0, (((X 0).toNat : Nat) : Int)), (0, (k : Int))] M (fun r5 M6 => (X (1 + k) = r5 → (zI ((k : Int) + 1)) ∧ (zX G (y_Zt_heals, h + 1, sl) u 109 [(0, (2, 1)), (2, (0, n)), (3, (0, i)), (4, (0, (k : Int) + 1))] [] M6 Q)) ∧ (¬ X (1 + k) = r5 → Q 0 M6)) := by
      refine c_toldC hsl (Or.inl rfl) hP.1 hc (by omega) (by omega) (by omega) ⟨fun g => ⟨by unfold zI; omega, ?_⟩, fun g => q0 ?_⟩
      · have := c_healsC (G := G) (h := h) (Q := Q) hsl hP hy hX h0 hi h9 q1 q0 d (k + 1) (u := u) (by omega) (fun c a b => by
          by_cases ck : c = k
          · subst ck; exact g
          · exact hr c a (by omega))
        rw [zcs] at this
        exact this
      · have := zwg_ne (k := (T.1 8 0).toNat) (L := X) (V := ztr T (X 0).toNat) (k : Int) (by omega) (by omega) g
        unfold zwm
        omega
    rw [show (((X 0).toNat : Nat) : Int) = L 0 + i from by omega] at this
    exact this
theorem c_healsB {G : zG} {h sl : Nat} (hsl : 1 ≤ sl) {T : zTb} {L : Int → Int} {t : Int} {n : Nat} {M0 : zM} {Q : Int → zM → Prop} (hP : zPu T L) (h9 : L 0 + n ≤ 999) :
    ∀ (d i : Nat) (X : Int → Int) {M : zM} {u : Nat × Nat × Nat × Nat}, d + i = n → zSm (zPy t) M0 M → zTy T L X t (L 0 + n) M → X 0 = L 0 + i → zLok T (T.1 8 0) X → (∀ M', zSm (zPy t) M0 M' → Q (if zhb T X d = true then 1 else 0) M') → zX G (y_Zt_heals, h + 4 + 1, sl) u 88 [(0, (2, 1)), (2, (0, (n : Int))), (3, (0, (i : Int) + 1))] [] M Q
  | 0, i, X, M, u, e, hM, hy, hX, hL, q => B_Zt_heals_88 hsl ⟨fun _ => q M hM, fun g => absurd (by omega) g⟩
  | d + 1, i, X, M, u, e, hM, hy, hX, hL, q => by
    have hl0 := hP.2.1.1
    have ht := hy.1.1
    refine B_Zt_heals_88 hsl ⟨fun g => absurd g (by omega), fun _ => ⟨hy.1.k8, ?_⟩⟩
    rw [hy.1.2.1]
    refine c_next hsl hy.1.kt (by omega) (by decide) hP.1 hL (by omega) zChd_no hy.1.2.2.1 hy.2.1 (fun M1 hM1 hl1 => ?_)
    rw [znxd_own] at hl1
    have hs1 : zSm (zPy t) M M1 := hM1.mono (fun a k p => by unfold zPC zPLn at p; unfold zPy; omega)
    have hy1 := hy.fr hP.1 hs1 hl1
    have hX1 : znx T X 0 = L 0 + ((i : Int) + 1) := by rw [znx_0 hP.1, hX]; omega
    unfold zhb at q
    refine c_healsC hsl hP hy1 hX1 (by omega) (by omega) h9 (fun u' g => ?_) (fun g => ?_) (T.1 8 0).toNat 0 (by omega) (fun c a b => absurd b (by omega))
    · rw [if_pos g] at q
      have := c_healsB (G := G) (h := h) (Q := Q) hsl hP h9 d (i + 1) (znx T X) (M := M1) (u := u') (by omega) (hM.trans hs1) hy1 (by rw [hX1, zcs]) (znx_ok hP.1 hL (by omega)) q
      rw [zcs] at this
      exact this
    · have := q M1 (hM.trans hs1)
      rw [if_neg g] at this
      exact this
theorem c_healsA {G : zG} {h sl : Nat} (hsl : 1 ≤ sl) {T : zTb} {L : Int → Int} {t : Int} {n s : Nat} {M0 : zM} {Q : Int → zM → Prop} (hP : zPu T L) (h9 : L 0 + n ≤ 999) (hs : s < 256) (q : ∀ M', zSm (zPy t) M0 M' → Q (if zhb T (zht T L s (T.1 8 0).toNat) n = true then 1 else 0) M') :
    ∀ (d k : Nat) {M : zM} {u : Nat × Nat × Nat × Nat}, d + k = (T.1 8 0).toNat → zSm (zPy t) M0 M → zTy T L (zht T L s k) t (L 0 + n) M → zX G (y_Zt_heals, h + 4 + 1, sl) u 13 [(0, (2, 1)), (1, (0, (s : Int))), (2, (0, (n : Int))), (3, (0, (k : Int)))] [] M Q
  | 0, k, M, u, e, hM, hy => by
    have hn := hP.1.1
    refine B_Zt_heals_13 hsl ⟨hy.1.k8, fun _ => ?_, fun g => absurd (by rw [hy.1.n]; omega) g⟩
    rw [show (T.1 8 0).toNat = k from by omega] at q
    exact c_healsB (M0 := M0) hsl hP h9 n 0 _ (by omega) hM hy (by rw [zht_z]; omega) (zht_ok hP s k) q
  | d + 1, k, M, u, e, hM, hy => by
    have hn := hP.1.1
    have h8 := hP.1.2.1
    have hl0 := hP.2.1.1
    have ht := hy.1.1
    obtain ⟨m, hm, hc⟩ := hy.2.2
    have hb := zbt_n hs (c := (k : Int)) (by omega) (by omega)
    rw [show ((k : Int)).toNat = k from by omega] at hb
    unfold zbt at hb
    have ih := fun (M1 : zM) (h1 : zSm (zPy t) M M1) (h2 : zTy T L (zht T L s (k + 1)) t (L 0 + n) M1) => c_healsA (G := G) (h := h) (Q := Q) hsl hP h9 hs q d (k + 1) (M := M1) (u := u) (by omega) (hM.trans h1) h2
    rw [zcs] at ih
    refine B_Zt_heals_13 hsl ⟨hy.1.k8, fun g => absurd g (by rw [hy.1.n]; omega), fun _ => ?_⟩
    rw [hb]
    refine ⟨fun g => ⟨by unfold zI; omega, ih M (zSm.refl _ _) ?_⟩, fun g => ?_⟩
    · rw [zht_no (by omega) (by omega)]
      exact hy
    · have hbit : s / 2 ^ k % 2 = 1 := by omega
      have t1 : ∀ Q' : Int → zM → Prop, Q' (ztr T (L 0).toNat (1 + k)) M → zCt G (h + 4) sl 0 0 y_Course_told [(2, 8), (0, L 0), (0, (k : Int))] M Q' := fun Q' qq => by
        have : zCt G (h + 4) sl 0 0 y_Course_told [(2, 8), (0, (((L 0).toNat : Nat) : Int)), (0, (k : Int))] M Q' := c_toldC hsl (Or.inl rfl) hP.1 hc (by omega) (by omega) (by omega) qq
        rw [show ((L 0).toNat : Int) = L 0 from by omega] at this
        exact this
      rw [hy.1.l0]
      refine t1 _ ⟨by omega, ?_⟩
      have hs1 : zSm (zPy t) M (zwr M 7 k (ztr T (L 0).toNat (1 + k))) := (zSm.refl _ M).wr (Or.inr (Or.inr (Or.inr rfl)))
      have hl1 : zLc (T.1 8 0) (zup (zht T L s k) (1 + k) (ztr T (L 0).toNat (1 + k))) (zwr M 7 k (ztr T (L 0).toNat (1 + k))) 6 := hy.2.1.val (by omega) (by omega)
      have hy1 := hy.fr hP.1 hs1 hl1
      obtain ⟨m1, hm1, hc1⟩ := hy1.2.2
      have t2 : ∀ Q' : Int → zM → Prop, Q' (ztr T (L 0).toNat (9 + k)) (zwr M 7 k (ztr T (L 0).toNat (1 + k))) → zCt G (h + 4) sl 0 0 y_Course_goesUp [(2, 8), (0, L 0), (0, (k : Int))] (zwr M 7 k (ztr T (L 0).toNat (1 + k))) Q' := fun Q' qq => by
        have : zCt G (h + 4) sl 0 0 y_Course_goesUp [(2, 8), (0, (((L 0).toNat : Nat) : Int)), (0, (k : Int))] (zwr M 7 k (ztr T (L 0).toNat (1 + k))) Q' := c_upC hsl (Or.inl rfl) hP.1 hc1 (by omega) (by omega) (by omega) qq
        rw [show ((L 0).toNat : Int) = L 0 from by omega] at this
        exact this
      rw [hy1.1.l0]
      refine t2 _ (c_go hsl (by decide) hl1 h8 (by omega) (by omega) (((ztr_ok hP.1 (k := (L 0).toNat) (by omega)).2.2.2 k (by omega) (by omega)).up) (fun w hw => ⟨by unfold zI; omega, ?_⟩))
      have hs2 : zSm (zPy t) M (zwr (zwr M 7 k (ztr T (L 0).toNat (1 + k))) 6 2 w) := hs1.wr (Or.inr (Or.inr (Or.inl ⟨rfl, Or.inr rfl⟩)))
      refine ih _ hs2 (hy.fr hP.1 hs2 ?_)
      rw [zht_yes (by omega) hbit]
      exact hw
theorem c_heals {G : zG} {h sl : Nat} (hsl : 1 ≤ sl) {T : zTb} {L : Int → Int} {t : Int} {n s m : Nat} {M : zM} {Q : Int → zM → Prop} (hP : zPu T L) (h9 : L 0 + n ≤ 999) (hs : s < 256) (hC : zCk T L t M) (hm : L 0 + n < m) (hc : zCo T (zbg T) m M 8 t) (q : ∀ M', zSm (zPy t) M M' → Q (if zhb T (zht T L s (T.1 8 0).toNat) n = true then 1 else 0) M') : zCt G (h + 5) sl 0 0 y_Zt_heals [(2, 1), (0, (s : Int)), (0, (n : Int))] M Q := by
  have ht := hC.1
  refine E_Zt_heals hsl (c_copy (h := h + 3) hsl (by decide) (by decide) (by decide) (by decide) (by decide) hP.1.2.1 hC.2.2.2.1 (fun M1 hM1 hl1 => ?_))
  have hs1 : zSm (zPy t) M M1 := hM1.mono (fun a k p => by unfold zPLn at p; unfold zPy; omega)
  refine c_healsA (M0 := M1) (t := t) hsl hP h9 hs (fun M' hM' => q M' (hs1.trans hM')) (T.1 8 0).toNat 0 (by omega) (zSm.refl _ _) ⟨hC.fr hP.1 (fun a j p => hs1 a j (by unfold zdCk at p; unfold zPy; omega)), ?_, m, hm, hc.fr (fun a j p => hs1 a j (by unfold zdCo at p; unfold zPy; omega))⟩
  rw [zht_0]
  exact hl1
theorem zsc_yes {p : Nat → Bool} {k : Nat} (h : p k = true) (h2 : (zbn k : Int) < (zsc p k).2) : zsc p (k + 1) = ((k : Int), (zbn k : Int)) := by
  show (if _ then _ else _) = _
  rw [if_pos ⟨h, h2⟩]
theorem zsc_no {p : Nat → Bool} {k : Nat} (h : ¬ (p k = true ∧ (zbn k : Int) < (zsc p k).2)) : zsc p (k + 1) = zsc p k := by
  show (if _ then _ else _) = _
  rw [if_neg h]
theorem c_healL {G : zG} {h sl : Nat} (hsl : 1 ≤ sl) {T : zTb} {L : Int → Int} {t : Int} {n m A : Nat} {M0 : zM} {Q : Int → zM → Prop} (hP : zPu T L) (h9 : L 0 + n ≤ 999) (hA : A < 256) (hm : L 0 + n < m) (q : ∀ M', zSm (zPy t) M0 M' → zCk T L t M' → Q (zsc (zpc T L A n) (2 ^ (T.1 8 0).toNat)).1 M') :
    ∀ (d s : Nat) (x : Int × Int) {M : zM} {u : Nat × Nat × Nat × Nat}, d + s = 2 ^ (T.1 8 0).toNat → x = zsc (zpc T L A n) s → zSm (zPy t) M0 M → zCk T L t M → zCo T (zbg T) m M 8 t → zX G (y_Zt_heal, h + 5 + 1, sl) u 43 [(0, (2, 1)), (1, (0, (n : Int))), (2, (0, (A : Int))), (3, (0, x.1)), (4, (0, x.2)), (5, (0, (s : Int)))] [] M Q
  | 0, s, x, M, u, e, ex, hM, hC, hc => by
    have hn := hP.1.1
    have h8 := hP.1.2.1
    refine B_Zt_heal_43 hsl ⟨hC.k8, ?_⟩
    rw [hC.n, zshl_n hn h8]
    refine ⟨fun _ => ?_, fun g => absurd (by omega) g⟩
    have := q M hM hC
    rw [show 2 ^ (T.1 8 0).toNat = s from by omega, ← ex] at this
    exact this
  | d + 1, s, x, M, u, e, ex, hM, hC, hc => by
    have hn := hP.1.1
    have h8 := hP.1.2.1
    have ht := hC.1
    have hp8 : 2 ^ (T.1 8 0).toNat ≤ 256 := Nat.pow_le_pow_right (n := 2) (by decide) (show (T.1 8 0).toNat ≤ 8 by omega)
    have hb := zbn_le s
    have hx := zsc_in (zpc T L A n) s
    rw [← ex] at hx
    have hx2 : 0 ≤ x.2 ∧ x.2 ≤ 9 := by
      rcases hx with hx | ⟨r, _, _, hx⟩
      · omega
      · have := zbn_le r; omega
    clear hx
    have next : ∀ (M1 : zM) (x' : Int × Int), x' = zsc (zpc T L A n) (s + 1) → zSm (zPy t) M M1 → zCk T L t M1 → zCo T (zbg T) m M1 8 t → zI ((s : Int) + 1) ∧ zX G (y_Zt_heal, h + 5 + 1, sl) u 43 [(0, (2, 1)), (1, (0, (n : Int))), (2, (0, (A : Int))), (3, (0, x'.1)), (4, (0, x'.2)), (5, (0, (s : Int) + 1))] [] M1 Q := fun M1 x' e' h1 h2 h3 => ⟨by unfold zI; omega, by
      have := c_healL (G := G) (h := h) (Q := Q) hsl hP h9 hA hm q d (s + 1) x' (M := M1) (u := u) (by omega) e' (hM.trans h1) h2 h3
      rw [zcs] at this
      exact this⟩
    have no : ¬ (zpc T L A n s = true ∧ (zbn s : Int) < x.2) → x = zsc (zpc T L A n) (s + 1) := fun g => by
      rw [zsc_no (by rw [← ex]; exact g)]; exact ex
    refine B_Zt_heal_43 hsl ⟨hC.k8, ?_⟩
    rw [hC.n, zshl_n hn h8]
    have hus := zand_not (u := s) (v := A) (by omega) hA
    refine ⟨fun g => absurd g (by omega), fun _ => ⟨fun g => B_Zt_heal_71 hsl ⟨fun _ => next M x (no (fun y => g (hus.mpr ?_))) (zSm.refl _ _) hC hc, fun y => absurd rfl y⟩, fun g => B_Zt_heal_71 hsl ⟨fun y => absurd y (by decide), fun _ => c_bits hsl (by omega) ⟨fun g2 => next M x (no (fun y => by omega)) (zSm.refl _ _) hC hc, fun g2 => ?_⟩⟩⟩⟩
    · have := y.1
      unfold zpc at this
      rw [Bool.and_eq_true] at this
      exact of_decide_eq_true this.1
    · have gu : zand (s : Int) (zxor (A : Int) (-1)) = 0 := by omega
      have gb := hus.mp gu
      refine c_heals hsl hP h9 (by omega) hC hm hc (fun M1 hM1 => ?_)
      have hC1 : zCk T L t M1 := hC.fr hP.1 (fun a j p => hM1 a j (by unfold zdCk at p; unfold zPy; omega))
      have hc1 : zCo T (zbg T) m M1 8 t := hc.fr (fun a j p => hM1 a j (by unfold zdCo at p; unfold zPy; omega))
      by_cases hh : zhb T (zht T L s (T.1 8 0).toNat) n = true
      · rw [if_pos hh]
        refine ⟨fun y => absurd y (by decide), fun _ => c_bits hsl (by omega) (next M1 ((s : Int), (zbn s : Int)) ?_ hM1 hC1 hc1)⟩
        have hpc : zpc T L A n s = true := by
          unfold zpc
          rw [Bool.and_eq_true]
          exact ⟨decide_eq_true gb, hh⟩
        rw [zsc_yes hpc (by rw [← ex]; omega)]
      · rw [if_neg hh]
        refine ⟨fun _ => next M1 x (no (fun y => hh ?_)) hM1 hC1 hc1, fun y => absurd rfl y⟩
        have := y.1
        unfold zpc at this
        rw [Bool.and_eq_true] at this
        exact this.2
theorem c_heal {G : zG} {h sl : Nat} (hsl : 1 ≤ sl) {T : zTb} {L : Int → Int} {t n : Int} {M : zM} {Q : Int → zM → Prop} (hP : zPu T L) (hC : zCk T L t M) (q : ∀ M', zSm (zPq t) M M' → zCk T L t M' → Q (zhea T L n) M') : zCt G (h + 6) sl 0 0 y_Zt_heal [(2, 1), (0, n)] M Q := by
  have q0 := q M (zSm.refl _ _) hC
  have hl0 := hP.2.1.1
  unfold zhea at q q0
  refine E_Zt_heal hsl (c_isAheadC hsl hP hC (fun a b c => ⟨fun _ => ?_, fun g => absurd (by decide) g⟩) (fun g => ⟨fun y => absurd rfl y, fun _ => ?_⟩))
  · obtain ⟨k, rfl⟩ : ∃ k : Nat, n = k := ⟨n.toNat, by omega⟩
    rw [hC.l0]
    refine ⟨by unfold zI; omega, ?_⟩
    have : zCt G (h + 5) sl 0 0 y_Course_reach [(2, 8), (0, ((((L 0).toNat + k) : Nat) : Int))] M (fun r5 M6 => zCt G (h + 5) sl 0 0 y_Zt_columnsAstray [(2, 1)] M6 (fun r7 M8 => zX G (y_Zt_heal, h + 5 + 1, sl) (0, 0, 0, 0) 43 [(0, (2, 1)), (1, (0, (k : Int))), (2, (0, r7)), (3, (0, (-1))), (4, (0, 9)), (5, (0, 0))] [] M8 Q)) := by
      refine c_reachT hsl hP hC (by omega) (fun M1 m hM1 hC1 hm hc => E_Zt_columnsAstray hsl (c_astrayL hsl hP hC1 (fun A hA hAb => ?_) (T.1 8 0).toNat 0 0 (by omega) (by decide) (fun d hd => by simp)))
      refine c_healL (M0 := M1) (t := t) (m := m) hsl hP c hA (by omega) (fun M2 hM2 hC2 => ?_) (2 ^ (T.1 8 0).toNat) 0 (-1, 9) (by omega) rfl (zSm.refl _ _) hC1 hc
      have := q M2 ((zPR_q8 hM1).trans (hM2.mono (fun a j p => by unfold zPy at p; unfold zPq; omega))) hC2
      rw [if_pos ⟨a, b, c⟩, show ((k : Int)).toNat = k from by omega] at this
      rw [zsc_same hP hAb]
      exact this
    rw [show ((((L 0).toNat + k) : Nat) : Int) = L 0 + k from by omega] at this
    exact this
  · rw [if_neg (by omega)] at q0; exact q0
