/-! ACTS, TAPES, IMAGES of both sides keep the state (made by wip/whole/gen/ops.py). -/
theorem o_image {G : zG} {h sl : Nat} (hsl : 2 ≤ sl) {N  : Int} {M : zM} (hN : N + 1 ≤ 90000) (hI : zIv N M) : zOp G (h + 50) sl N y_Zt_image y_Md_image [] M := fun Kc q => by
  obtain ⟨T, L, t, K, R, ac, j, rm, w, n, B, Rf, pl, P, x, f, p, hp, hc, hm⟩ := hI
  have ht := hc.1.1.1
  have hP := hp.1
  have hT := hP.1
  have h0 := hT.1
  have h8 := hT.2.1
  refine c_image (h := h + 49) (by omega) hP hc.1.1 (fun M1 h1 e1 p1 => q _ M1 (fun a k ha => h1 a k (by show ¬ (a = 77 ∨ a = 1 ∧ k = 13); omega)) (fun Q2 q2 => ?_))
  have f1 : ∀ a k, ¬ (a = 77 ∨ a = 1 ∧ k = 13) → M1 a k = M a k := fun a k y => h1 a k y
  have c1 : zJc T L t K R ac j rm w n B Rf (3 + 4 * T.1 8 0) (zimg T L) x f p M1 := ⟨⟨hc.1.1.fr hT (fun a k y => f1 a k (by unfold zdCk at y; omega)), by rw [f1 _ _ (by omega)]; exact hc.1.2⟩, hc.2.1.fr (fun a k y => f1 a k (by unfold zdHc at y; omega)), hc.2.2.1.fr (fun a k y => f1 a k (by unfold zdPc at y; omega)), hc.2.2.2.1.fr (fun a k y => f1 a k (by omega)), hc.2.2.2.2.1.fr (fun k => f1 _ _ (by omega)), ⟨e1, p1⟩, by rw [f1 _ _ (by omega)]; exact hc.2.2.2.2.2.2.1, by rw [f1 _ _ (by omega)]; exact hc.2.2.2.2.2.2.2.1, by rw [f1 _ _ (by omega)]; exact hc.2.2.2.2.2.2.2.2⟩
  have m1 := hm.fr hT (fun a k ha => f1 a k (by omega))
  refine m_image (h := h + 48) hsl hP m1.1.1 (fun M2 h2 e2 p2 => ?_)
  have f2 : ∀ a k, ¬ (a = 196 ∨ a = 125 ∧ k = 100) → M2 a k = M1 a k := fun a k y => h2 a k y
  have m2 : zJm T L K R ac j rm w n B Rf (3 + 4 * T.1 8 0) (zimg T L) x f p M2 := ⟨⟨m1.1.1.fr hT (fun a k y => f2 a k (by unfold zdMk at y; omega)), m1.1.2.fr (fun k y => f2 _ _ (by omega))⟩, m1.2.1.fr (fun a k y => f2 a k (by unfold zdHm at y; omega)), m1.2.2.1.fr (f2 _ _ (by omega)) (fun k => f2 _ _ (by omega)), m1.2.2.2.1.fr (fun a k y => f2 a k (by omega)), m1.2.2.2.2.1.fr (fun k => f2 _ _ (by omega)), ⟨e2, p2⟩, by rw [f2 _ _ (by omega)]; exact m1.2.2.2.2.2.2.1, by rw [f2 _ _ (by omega)]; exact m1.2.2.2.2.2.2.2.1, by rw [f2 _ _ (by omega)]; exact m1.2.2.2.2.2.2.2.2⟩
  have hq := hp.up hN
  exact q2 M2 (fun a k ha => f2 a k (by omega)) ⟨T, L, t, K, R, ac, j, rm, w, n, B, Rf, _, _, x, f, p, ⟨hq.1, hq.2.1, hq.2.2.1, hq.2.2.2.1, hq.2.2.2.2.1, by omega, hq.2.2.2.2.2.2⟩, c1.fr hT (fun a k a1 a2 => f2 a k (by omega)), m2⟩
theorem o_feed {G : zG} {h sl : Nat} (hsl : 2 ≤ sl) {N a1 a2 a3 a4 a5 : Int} {M : zM} (hN : N + 1 ≤ 90000) (hI : zIv N M) : zOp G (h + 50) sl N y_Zt_feed y_Md_feed [(0, a1), (0, a2), (0, a3), (0, a4), (0, a5)] M := fun Kc q => by
  obtain ⟨T, L, t, K, R, ac, j, rm, w, n, B, Rf, pl, P, x, f, p, hp, hc, hm⟩ := hI
  have ht := hc.1.1.1
  have hP := hp.1
  have hT := hP.1
  have hb := hp.rf (i := 0) (by decide) (by decide)
  have hB := hp.2.2.2.1
  by_cases cn : n + 20 ≤ 1600
  · refine c_feed (h := h + 49) (by omega) hB hc.2.2.2.1 hc.2.2.2.2.1 hb (fun _ M1 h1 t1 => q _ M1 (fun a k ha => h1 a k (by unfold zPtp; omega)) (fun Q2 q2 => ?_)) (fun y => absurd cn y)
    have f1 : ∀ a k, ¬ (a = 3 ∨ a = 2 ∧ k = 1) → M1 a k = M a k := fun a k y => h1 a k y
    have c1 : zJc T L t K R ac j rm w (n + 20) (zfed n B a1 a2 a3 a4 a5) Rf pl P x f p M1 := ⟨⟨hc.1.1.fr hT (fun a k y => f1 a k (by unfold zdCk at y; omega)), by rw [f1 _ _ (by omega)]; exact hc.1.2⟩, hc.2.1.fr (fun a k y => f1 a k (by unfold zdHc at y; omega)), hc.2.2.1.fr (fun a k y => f1 a k (by unfold zdPc at y; omega)), t1, hc.2.2.2.2.1.fr (fun k => f1 _ _ (by omega)), ⟨by rw [f1 _ _ (by omega)]; exact hc.2.2.2.2.2.1.1, hc.2.2.2.2.2.1.2.fr (fun k => f1 _ _ (by omega))⟩, by rw [f1 _ _ (by omega)]; exact hc.2.2.2.2.2.2.1, by rw [f1 _ _ (by omega)]; exact hc.2.2.2.2.2.2.2.1, by rw [f1 _ _ (by omega)]; exact hc.2.2.2.2.2.2.2.2⟩
    have m1 := hm.fr hT (fun a k ha => f1 a k (by omega))
    refine m_feed (h := h + 50) hsl hB m1.2.2.2.1 m1.2.2.2.2.1 hb (fun _ M2 h2 t2 => ?_) (fun y => absurd cn y)
    have f2 : ∀ a k, ¬ (a = 126 ∨ a = 125 ∧ k = 1) → M2 a k = M1 a k := fun a k y => h2 a k y
    have m2 : zJm T L K R ac j rm w (n + 20) (zfed n B a1 a2 a3 a4 a5) Rf pl P x f p M2 := ⟨⟨m1.1.1.fr hT (fun a k y => f2 a k (by unfold zdMk at y; omega)), m1.1.2.fr (fun k y => f2 _ _ (by omega))⟩, m1.2.1.fr (fun a k y => f2 a k (by unfold zdHm at y; omega)), m1.2.2.1.fr (f2 _ _ (by omega)) (fun k => f2 _ _ (by omega)), t2, m1.2.2.2.2.1.fr (fun k => f2 _ _ (by omega)), ⟨by rw [f2 _ _ (by omega)]; exact m1.2.2.2.2.2.1.1, m1.2.2.2.2.2.1.2.fr (fun k => f2 _ _ (by omega))⟩, by rw [f2 _ _ (by omega)]; exact m1.2.2.2.2.2.2.1, by rw [f2 _ _ (by omega)]; exact m1.2.2.2.2.2.2.2.1, by rw [f2 _ _ (by omega)]; exact m1.2.2.2.2.2.2.2.2⟩
    have hq := hp.up hN
    exact q2 M2 (fun a k ha => f2 a k (by omega)) ⟨T, L, t, K, R, ac, j, rm, w, _, _, Rf, pl, P, x, f, p, ⟨hq.1, hq.2.1, hq.2.2.1, hB.fed cn, hq.2.2.2.2⟩, c1.fr hT (fun a k a1 a2 => f2 a k (by omega)), m2⟩
  · refine c_feed (h := h + 49) (by omega) hB hc.2.2.2.1 hc.2.2.2.2.1 hb (fun y => absurd y cn) (fun _ M1 h1 r1 => q _ M1 (fun a k ha => h1 a k (by show ¬ a = 78; omega)) (fun Q2 q2 => ?_))
    have c1 := hc.ref hT h1 r1
    have m1 := hm.fr hT (fun a k ha => h1 a k (by show ¬ a = 78; omega))
    refine m_feed (h := h + 50) hsl hB m1.2.2.2.1 m1.2.2.2.2.1 hb (fun y => absurd y cn) (fun _ M2 h2 r2 => ?_)
    exact q2 M2 (fun a k ha => h2 a k (by show ¬ a = 127; omega)) ⟨T, L, t, K, R, ac, j, rm, w, n, B, _, pl, P, x, f, p, hp.inc hN (i := 0) (by decide) (by decide), c1.fr hT (fun a k a1 a2 => h2 a k (by show ¬ a = 127; omega)), m1.ref hT h2 r2⟩
theorem o_end {G : zG} {h sl : Nat} (hsl : 2 ≤ sl) {N a1 : Int} {M : zM} (hN : N + 1 ≤ 90000) (hI : zIv N M) : zOp G (h + 50) sl N y_Zt_end y_Md_end [(0, a1)] M := fun Kc q => by
  obtain ⟨T, L, t, K, R, ac, j, rm, w, n, B, Rf, pl, P, x, f, p, hp, hc, hm⟩ := hI
  have ht := hc.1.1.1
  have hP := hp.1
  have hT := hP.1
  have hb := hp.rf (i := 0) (by decide) (by decide)
  have hB := hp.2.2.2.1
  by_cases cn : 0 ≤ a1 ∧ a1 ≤ n
  · refine c_end (h := h + 49) (by omega) hc.2.2.2.1 hc.2.2.2.2.1 hb (fun _ _ M1 h1 t1 => q _ M1 (fun a k ha => h1 a k (by unfold zPtp; omega)) (fun Q2 q2 => ?_)) (fun y => absurd cn y)
    have f1 : ∀ a k, ¬ (a = 3 ∨ a = 2 ∧ k = 1) → M1 a k = M a k := fun a k y => h1 a k y
    have c1 : zJc T L t K R ac j rm w a1 B Rf pl P x f p M1 := ⟨⟨hc.1.1.fr hT (fun a k y => f1 a k (by unfold zdCk at y; omega)), by rw [f1 _ _ (by omega)]; exact hc.1.2⟩, hc.2.1.fr (fun a k y => f1 a k (by unfold zdHc at y; omega)), hc.2.2.1.fr (fun a k y => f1 a k (by unfold zdPc at y; omega)), t1, hc.2.2.2.2.1.fr (fun k => f1 _ _ (by omega)), ⟨by rw [f1 _ _ (by omega)]; exact hc.2.2.2.2.2.1.1, hc.2.2.2.2.2.1.2.fr (fun k => f1 _ _ (by omega))⟩, by rw [f1 _ _ (by omega)]; exact hc.2.2.2.2.2.2.1, by rw [f1 _ _ (by omega)]; exact hc.2.2.2.2.2.2.2.1, by rw [f1 _ _ (by omega)]; exact hc.2.2.2.2.2.2.2.2⟩
    have m1 := hm.fr hT (fun a k ha => f1 a k (by omega))
    refine m_end (h := h + 50) hsl m1.2.2.2.1 m1.2.2.2.2.1 hb (fun _ _ M2 h2 t2 => ?_) (fun y => absurd cn y)
    have f2 : ∀ a k, ¬ (a = 126 ∨ a = 125 ∧ k = 1) → M2 a k = M1 a k := fun a k y => h2 a k y
    have m2 : zJm T L K R ac j rm w a1 B Rf pl P x f p M2 := ⟨⟨m1.1.1.fr hT (fun a k y => f2 a k (by unfold zdMk at y; omega)), m1.1.2.fr (fun k y => f2 _ _ (by omega))⟩, m1.2.1.fr (fun a k y => f2 a k (by unfold zdHm at y; omega)), m1.2.2.1.fr (f2 _ _ (by omega)) (fun k => f2 _ _ (by omega)), t2, m1.2.2.2.2.1.fr (fun k => f2 _ _ (by omega)), ⟨by rw [f2 _ _ (by omega)]; exact m1.2.2.2.2.2.1.1, m1.2.2.2.2.2.1.2.fr (fun k => f2 _ _ (by omega))⟩, by rw [f2 _ _ (by omega)]; exact m1.2.2.2.2.2.2.1, by rw [f2 _ _ (by omega)]; exact m1.2.2.2.2.2.2.2.1, by rw [f2 _ _ (by omega)]; exact m1.2.2.2.2.2.2.2.2⟩
    have hq := hp.up hN
    exact q2 M2 (fun a k ha => f2 a k (by omega)) ⟨T, L, t, K, R, ac, j, rm, w, _, B, Rf, pl, P, x, f, p, ⟨hq.1, hq.2.1, hq.2.2.1, hB.end cn.1 cn.2, hq.2.2.2.2⟩, c1.fr hT (fun a k a1 a2 => f2 a k (by omega)), m2⟩
  · refine c_end (h := h + 49) (by omega) hc.2.2.2.1 hc.2.2.2.2.1 hb (fun y y2 => absurd ⟨y, y2⟩ cn) (fun _ M1 h1 r1 => q _ M1 (fun a k ha => h1 a k (by show ¬ a = 78; omega)) (fun Q2 q2 => ?_))
    have c1 := hc.ref hT h1 r1
    have m1 := hm.fr hT (fun a k ha => h1 a k (by show ¬ a = 78; omega))
    refine m_end (h := h + 50) hsl m1.2.2.2.1 m1.2.2.2.2.1 hb (fun y y2 => absurd ⟨y, y2⟩ cn) (fun _ M2 h2 r2 => ?_)
    exact q2 M2 (fun a k ha => h2 a k (by show ¬ a = 127; omega)) ⟨T, L, t, K, R, ac, j, rm, w, n, B, _, pl, P, x, f, p, hp.inc hN (i := 0) (by decide) (by decide), c1.fr hT (fun a k a1 a2 => h2 a k (by show ¬ a = 127; omega)), m1.ref hT h2 r2⟩
theorem o_write {G : zG} {h sl : Nat} (hsl : 2 ≤ sl) {N a1 : Int} {M : zM} (hN : N + 1 ≤ 90000) (hI : zIv N M) : zOp G (h + 50) sl N y_Zt_write y_Md_write [(0, a1)] M := fun Kc q => by
  obtain ⟨T, L, t, K, R, ac, j, rm, w, n, B, Rf, pl, P, x, f, p, hp, hc, hm⟩ := hI
  have ht := hc.1.1.1
  have hP := hp.1
  have hT := hP.1
  have hb := hp.rf (i := 3) (by decide) (by decide)
  have hx := hp.2.2.2.2.2.2.1
  by_cases cn : 1 ≤ a1 ∧ a1 ≤ 100 ∧ L 0 + a1 ≤ 999
  · have hl := zln_ok hT hP.2.1 a1.toNat (by omega)
    have hk := zKs_b (T := T) (L := L) (K := K) a1.toNat
    refine c_write (h := h + 43) (by omega) hP hc.1.1 hp.2.1 hc.2.1 hc.2.2.2.2.1 hb (fun _ M1 h1 k1 g1 => q _ M1 (fun a k ha => h1 a k (by unfold zPaw; omega)) (fun Q2 q2 => ?_)) (fun y => absurd cn y)
    have f1 : ∀ a k, ¬ (a = 4 ∨ a = 5 ∨ 8 ≤ a ∧ a ≤ 20 ∨ 22 ≤ a ∧ a ≤ 62 ∨ 79 ≤ a ∧ a ≤ 124) → M1 a k = M a k := fun a k y => h1 a k (by unfold zPaw; omega)
    have c1 : zJc T (zln T L a1.toNat) t (zKs T L K a1.toNat) (zR1 R j L K.1) (zac1 ac) (zj1 j) rm w n B Rf pl P x f p M1 := hc.act (h1.mono (fun a k y => by unfold zPaw at y; unfold zPac; omega)) k1 g1 (by rw [f1 _ _ (by omega)]; exact hc.2.2.2.2.2.2.1)
    have m1 := hm.fr hT (fun a k ha => f1 a k (by omega))
    refine m_write (h := h + 44) hsl hP m1.1.1 hp.2.1 m1.2.1 m1.2.2.2.2.1 hb (fun _ M2 h2 k2 g2 => ?_) (fun y => absurd cn y)
    have f2 : ∀ a k, ¬ (a = 195 ∨ a = 125 ∧ (k = 50 ∨ k = 54 ∨ k = 96 ∨ k = 66 ∨ k = 67) ∨ a = 164 ∨ a = 172) → M2 a k = M1 a k := fun a k y => h2 a k (by unfold zPmx; omega)
    have m2 : zJm T (zln T L a1.toNat) (zKs T L K a1.toNat) (zR1 R j L K.1) (zac1 ac) (zj1 j) rm w n B Rf pl P x f p M2 := m1.act (h2.mono (fun a k y => by unfold zPmx at y; unfold zPma; omega)) k2 g2 (by rw [f2 _ _ (by omega)]; exact m1.2.2.2.2.2.2.1)
    have hq := hp.up hN
    have hu : zPu T (zln T L a1.toNat) := ⟨hT, hl.2, by rw [hl.1]; omega⟩
    exact q2 M2 (fun a k ha => f2 a k (by omega)) ⟨T, _, t, _, _, _, _, rm, w, n, B, Rf, pl, P, _, f, p, ⟨hu, (hp.2.1.act hP).go hk.1 (by rw [hl.1]; have := hp.2.1.1; omega), hq.2.2.1, hq.2.2.2.1, hq.2.2.2.2.1, hq.2.2.2.2.2.1, hx, hN⟩, c1.fr hT (fun a k a1 a2 => f2 a k (by omega)), m2⟩
  · refine c_write (h := h + 43) (by omega) hP hc.1.1 hp.2.1 hc.2.1 hc.2.2.2.2.1 hb (fun y => absurd y cn) (fun _ M1 h1 r1 => q _ M1 (fun a k ha => h1 a k (by show ¬ a = 78; omega)) (fun Q2 q2 => ?_))
    have c1 := hc.ref hT h1 r1
    have m1 := hm.fr hT (fun a k ha => h1 a k (by show ¬ a = 78; omega))
    refine m_write (h := h + 44) hsl hP m1.1.1 hp.2.1 m1.2.1 m1.2.2.2.2.1 hb (fun y => absurd y cn) (fun _ M2 h2 r2 => ?_)
    exact q2 M2 (fun a k ha => h2 a k (by show ¬ a = 127; omega)) ⟨T, L, t, K, R, ac, j, rm, w, n, B, _, pl, P, x, f, p, hp.inc hN (i := 3) (by decide) (by decide), c1.fr hT (fun a k a1 a2 => h2 a k (by show ¬ a = 127; omega)), m1.ref hT h2 r2⟩
theorem o_put {G : zG} {h sl : Nat} (hsl : 2 ≤ sl) {N a1 a2 : Int} {M : zM} (hN : N + 1 ≤ 90000) (hI : zIv N M) : zOp G (h + 50) sl N y_Zt_put y_Md_put [(0, a1), (0, a2)] M := fun Kc q => by
  obtain ⟨T, L, t, K, R, ac, j, rm, w, n, B, Rf, pl, P, x, f, p, hp, hc, hm⟩ := hI
  have ht := hc.1.1.1
  have hP := hp.1
  have hT := hP.1
  have hb := hp.rf (i := 2) (by decide) (by decide)
  have hx := hp.2.2.2.2.2.2.1
  by_cases cn : zpok T L a1 a2
  · refine c_put (h := h + 43) (by omega) hP hc.1.1 hp.2.1 hc.2.1 hc.2.2.2.2.1 hb (fun _ M1 h1 k1 g1 => q _ M1 (fun a k ha => h1 a k (by unfold zPaw; omega)) (fun Q2 q2 => ?_)) (fun y => absurd cn y)
    have f1 : ∀ a k, ¬ (a = 4 ∨ a = 5 ∨ 8 ≤ a ∧ a ≤ 20 ∨ 22 ≤ a ∧ a ≤ 62 ∨ 79 ≤ a ∧ a ≤ 124) → M1 a k = M a k := fun a k y => h1 a k (by unfold zPaw; omega)
    have c1 : zJc T (zup L (1 + a1) a2) t K (zR1 R j L K.1) (zac1 ac) (zj1 j) rm w n B Rf pl P x f p M1 := hc.act (h1.mono (fun a k y => by unfold zPaw at y; unfold zPac; omega)) k1 g1 (by rw [f1 _ _ (by omega)]; exact hc.2.2.2.2.2.2.1)
    have m1 := hm.fr hT (fun a k ha => f1 a k (by omega))
    refine m_put (h := h + 46) hsl hP m1.1.1 hp.2.1 m1.2.1 m1.2.2.2.2.1 hb (fun _ M2 h2 k2 g2 => ?_) (fun y => absurd cn y)
    have f2 : ∀ a k, ¬ (a = 195 ∨ a = 125 ∧ (k = 50 ∨ k = 54 ∨ k = 96 ∨ k = 66 ∨ k = 67) ∨ a = 164 ∨ a = 172) → M2 a k = M1 a k := fun a k y => h2 a k (by unfold zPmx; omega)
    have m2 : zJm T (zup L (1 + a1) a2) K (zR1 R j L K.1) (zac1 ac) (zj1 j) rm w n B Rf pl P x f p M2 := m1.act (h2.mono (fun a k y => by unfold zPmx at y; unfold zPma; omega)) k2 g2 (by rw [f2 _ _ (by omega)]; exact m1.2.2.2.2.2.2.1)
    have hq := hp.up hN
    have hu : zPu T (zup L (1 + a1) a2) := hP.set cn.1.1 cn.1.2 cn.2.1 cn.2.2.1 cn.2.2.2.1
    exact q2 M2 (fun a k ha => f2 a k (by omega)) ⟨T, _, t, _, _, _, _, rm, w, n, B, Rf, pl, P, _, f, p, ⟨hu, (hp.2.1.act hP).go (Int.le_refl _) (by rw [zup_o _ _ (by have := cn.1.1; omega)]; exact hp.2.1.1.2), hq.2.2.1, hq.2.2.2.1, hq.2.2.2.2.1, hq.2.2.2.2.2.1, hx, hN⟩, c1.fr hT (fun a k a1 a2 => f2 a k (by omega)), m2⟩
  · refine c_put (h := h + 43) (by omega) hP hc.1.1 hp.2.1 hc.2.1 hc.2.2.2.2.1 hb (fun y => absurd y cn) (fun _ M1 h1 r1 => q _ M1 (fun a k ha => h1 a k (by show ¬ a = 78; omega)) (fun Q2 q2 => ?_))
    have c1 := hc.ref hT h1 r1
    have m1 := hm.fr hT (fun a k ha => h1 a k (by show ¬ a = 78; omega))
    refine m_put (h := h + 46) hsl hP m1.1.1 hp.2.1 m1.2.1 m1.2.2.2.2.1 hb (fun y => absurd y cn) (fun _ M2 h2 r2 => ?_)
    exact q2 M2 (fun a k ha => h2 a k (by show ¬ a = 127; omega)) ⟨T, L, t, K, R, ac, j, rm, w, n, B, _, pl, P, x, f, p, hp.inc hN (i := 2) (by decide) (by decide), c1.fr hT (fun a k a1 a2 => h2 a k (by show ¬ a = 127; omega)), m1.ref hT h2 r2⟩
theorem o_turn {G : zG} {h sl : Nat} (hsl : 2 ≤ sl) {N a1 : Int} {M : zM} (hN : N + 1 ≤ 90000) (hI : zIv N M) : zOp G (h + 50) sl N y_Zt_turn y_Md_turn [(0, a1)] M := fun Kc q => by
  obtain ⟨T, L, t, K, R, ac, j, rm, w, n, B, Rf, pl, P, x, f, p, hp, hc, hm⟩ := hI
  have ht := hc.1.1.1
  have hP := hp.1
  have hT := hP.1
  have hb := hp.rf (i := 2) (by decide) (by decide)
  have hx := hp.2.2.2.2.2.2.1
  by_cases cn : ztok2 T a1
  · have hw : 1 - L (9 + a1) = 0 ∨ 1 - L (9 + a1) = 1 := by have := (hP.2.1.2.2 a1 cn.1.1 cn.1.2).up; omega
    refine c_turn (h := h + 43) (by omega) hP hc.1.1 hp.2.1 hc.2.1 hc.2.2.2.2.1 hb (fun _ M1 h1 k1 g1 => q _ M1 (fun a k ha => h1 a k (by unfold zPaw; omega)) (fun Q2 q2 => ?_)) (fun y => absurd cn y)
    have f1 : ∀ a k, ¬ (a = 4 ∨ a = 5 ∨ 8 ≤ a ∧ a ≤ 20 ∨ 22 ≤ a ∧ a ≤ 62 ∨ 79 ≤ a ∧ a ≤ 124) → M1 a k = M a k := fun a k y => h1 a k (by unfold zPaw; omega)
    have c1 : zJc T (zup L (9 + a1) (1 - L (9 + a1))) t K (zR1 R j L K.1) (zac1 ac) (zj1 j) rm w n B Rf pl P x f p M1 := hc.act (h1.mono (fun a k y => by unfold zPaw at y; unfold zPac; omega)) k1 g1 (by rw [f1 _ _ (by omega)]; exact hc.2.2.2.2.2.2.1)
    have m1 := hm.fr hT (fun a k ha => f1 a k (by omega))
    refine m_turn (h := h + 47) hsl hP m1.1.1 hp.2.1 m1.2.1 m1.2.2.2.2.1 hb (fun _ M2 h2 k2 g2 => ?_) (fun y => absurd cn y)
    have f2 : ∀ a k, ¬ (a = 195 ∨ a = 125 ∧ (k = 50 ∨ k = 54 ∨ k = 96 ∨ k = 66 ∨ k = 67) ∨ a = 164 ∨ a = 172) → M2 a k = M1 a k := fun a k y => h2 a k (by unfold zPmx; omega)
    have m2 : zJm T (zup L (9 + a1) (1 - L (9 + a1))) K (zR1 R j L K.1) (zac1 ac) (zj1 j) rm w n B Rf pl P x f p M2 := m1.act (h2.mono (fun a k y => by unfold zPmx at y; unfold zPma; omega)) k2 g2 (by rw [f2 _ _ (by omega)]; exact m1.2.2.2.2.2.2.1)
    have hq := hp.up hN
    have hu : zPu T (zup L (9 + a1) (1 - L (9 + a1))) := hP.way cn.1.1 cn.1.2 cn.2 hw
    exact q2 M2 (fun a k ha => f2 a k (by omega)) ⟨T, _, t, _, _, _, _, rm, w, n, B, Rf, pl, P, _, f, p, ⟨hu, (hp.2.1.act hP).go (Int.le_refl _) (by rw [zup_o _ _ (by have := cn.1.1; omega)]; exact hp.2.1.1.2), hq.2.2.1, hq.2.2.2.1, hq.2.2.2.2.1, hq.2.2.2.2.2.1, hx, hN⟩, c1.fr hT (fun a k a1 a2 => f2 a k (by omega)), m2⟩
  · refine c_turn (h := h + 43) (by omega) hP hc.1.1 hp.2.1 hc.2.1 hc.2.2.2.2.1 hb (fun y => absurd y cn) (fun _ M1 h1 r1 => q _ M1 (fun a k ha => h1 a k (by show ¬ a = 78; omega)) (fun Q2 q2 => ?_))
    have c1 := hc.ref hT h1 r1
    have m1 := hm.fr hT (fun a k ha => h1 a k (by show ¬ a = 78; omega))
    refine m_turn (h := h + 47) hsl hP m1.1.1 hp.2.1 m1.2.1 m1.2.2.2.2.1 hb (fun y => absurd y cn) (fun _ M2 h2 r2 => ?_)
    exact q2 M2 (fun a k ha => h2 a k (by show ¬ a = 127; omega)) ⟨T, L, t, K, R, ac, j, rm, w, n, B, _, pl, P, x, f, p, hp.inc hN (i := 2) (by decide) (by decide), c1.fr hT (fun a k a1 a2 => h2 a k (by show ¬ a = 127; omega)), m1.ref hT h2 r2⟩
theorem o_chance {G : zG} {h sl : Nat} (hsl : 2 ≤ sl) {N a1 : Int} {M : zM} (hN : N + 1 ≤ 90000) (hI : zIv N M) : zOp G (h + 50) sl N y_Zt_chance y_Md_chance [(0, a1)] M := fun Kc q => by
  obtain ⟨T, L, t, K, R, ac, j, rm, w, n, B, Rf, pl, P, x, f, p, hp, hc, hm⟩ := hI
  have ht := hc.1.1.1
  have hP := hp.1
  have hT := hP.1
  have hb := hp.rf (i := 3) (by decide) (by decide)
  have hx := hp.2.2.2.2.2.2.1
  by_cases cn : 1 ≤ a1 ∧ a1 ≤ 100 ∧ L 0 + a1 ≤ 999
  · have hz := zch_b (K := K) hP hx a1.toNat (by have := hP.2.2; omega)
    refine c_chance (h := h + 43) (by omega) hP hc.1.1 hp.2.1 hc.2.1 hx hc.2.2.2.2.2.2.1 hc.2.2.2.2.1 hb (fun _ M1 h1 k1 g1 s1 => q _ M1 (fun a k ha => h1 a k (by unfold zPac; omega)) (fun Q2 q2 => ?_)) (fun y => absurd cn y)
    have f1 : ∀ a k, ¬ (a = 4 ∨ a = 5 ∨ 8 ≤ a ∧ a ≤ 20 ∨ 22 ≤ a ∧ a ≤ 62 ∨ 79 ≤ a ∧ a ≤ 124 ∨ a = 1 ∧ k = 16) → M1 a k = M a k := fun a k y => h1 a k (by unfold zPac; omega)
    have c1 : zJc T (zch T L x K a1.toNat).1 t (zch T L x K a1.toNat).2.2.1 (zR1 R j L K.1) (zac1 ac) (zj1 j) rm w n B Rf pl P (zch T L x K a1.toNat).2.1 f p M1 := hc.act h1 k1 g1 s1
    have m1 := hm.fr hT (fun a k ha => f1 a k (by omega))
    refine m_chance (h := h + 44) hsl hP m1.1.1 hp.2.1 m1.2.1 hx m1.2.2.2.2.2.2.1 m1.2.2.2.2.1 hb (fun _ M2 h2 k2 g2 s2 => ?_) (fun y => absurd cn y)
    have f2 : ∀ a k, ¬ (a = 195 ∨ a = 125 ∧ (k = 50 ∨ k = 54 ∨ k = 96 ∨ k = 66 ∨ k = 67 ∨ k = 68) ∨ a = 164 ∨ a = 172) → M2 a k = M1 a k := fun a k y => h2 a k (by unfold zPma; omega)
    have m2 : zJm T (zch T L x K a1.toNat).1 (zch T L x K a1.toNat).2.2.1 (zR1 R j L K.1) (zac1 ac) (zj1 j) rm w n B Rf pl P (zch T L x K a1.toNat).2.1 f p M2 := m1.act h2 k2 g2 s2
    have hq := hp.up hN
    have hu : zPu T (zch T L x K a1.toNat).1 := ⟨hT, hz.1, by rw [hz.2.1]; omega⟩
    exact q2 M2 (fun a k ha => f2 a k (by omega)) ⟨T, _, t, _, _, _, _, rm, w, n, B, Rf, pl, P, _, f, p, ⟨hu, (hp.2.1.act hP).go hz.2.2.2.1.1 (by rw [hz.2.1]; have := hp.2.1.1; have := hz.2.2.2.1; omega), hq.2.2.1, hq.2.2.2.1, hq.2.2.2.2.1, hq.2.2.2.2.2.1, hz.2.2.1, hN⟩, c1.fr hT (fun a k a1 a2 => f2 a k (by omega)), m2⟩
  · refine c_chance (h := h + 43) (by omega) hP hc.1.1 hp.2.1 hc.2.1 hx hc.2.2.2.2.2.2.1 hc.2.2.2.2.1 hb (fun y => absurd y cn) (fun _ M1 h1 r1 => q _ M1 (fun a k ha => h1 a k (by show ¬ a = 78; omega)) (fun Q2 q2 => ?_))
    have c1 := hc.ref hT h1 r1
    have m1 := hm.fr hT (fun a k ha => h1 a k (by show ¬ a = 78; omega))
    refine m_chance (h := h + 44) hsl hP m1.1.1 hp.2.1 m1.2.1 hx m1.2.2.2.2.2.2.1 m1.2.2.2.2.1 hb (fun y => absurd y cn) (fun _ M2 h2 r2 => ?_)
    exact q2 M2 (fun a k ha => h2 a k (by show ¬ a = 127; omega)) ⟨T, L, t, K, R, ac, j, rm, w, n, B, _, pl, P, x, f, p, hp.inc hN (i := 3) (by decide) (by decide), c1.fr hT (fun a k a1 a2 => h2 a k (by show ¬ a = 127; omega)), m1.ref hT h2 r2⟩
theorem o_undo {G : zG} {h sl : Nat} (hsl : 2 ≤ sl) {N  : Int} {M : zM} (hN : N + 1 ≤ 90000) (hI : zIv N M) : zOp G (h + 50) sl N y_Zt_undo y_Md_undo [] M := fun Kc q => by
  obtain ⟨T, L, t, K, R, ac, j, rm, w, n, B, Rf, pl, P, x, f, p, hp, hc, hm⟩ := hI
  have ht := hc.1.1.1
  have hP := hp.1
  have hT := hP.1
  have hb := hp.rf (i := 4) (by decide) (by decide)
  have hx := hp.2.2.2.2.2.2.1
  by_cases cn : ac ≠ 0
  · have hj := hp.2.1.2.2.2.1 j ⟨hp.2.1.2.2.1, by have := hp.2.1.2.1; rw [show j - j = 0 from by omega]; show (0 : Int) < ac; omega⟩
    refine c_undo (h := h + 43) (by omega) hP hc.1.1 hp.2.1 hc.2.1 hc.2.2.2.2.1 hb (fun _ M1 h1 k1 g1 => q _ M1 (fun a k ha => h1 a k (by unfold zPaw; omega)) (fun Q2 q2 => ?_)) (fun y => absurd y cn)
    have f1 : ∀ a k, ¬ (a = 4 ∨ a = 5 ∨ 8 ≤ a ∧ a ≤ 20 ∨ 22 ≤ a ∧ a ≤ 62 ∨ 79 ≤ a ∧ a ≤ 124) → M1 a k = M a k := fun a k y => h1 a k (by unfold zPaw; omega)
    have c1 : zJc T (R j) t (zK0 K (R j 17)) R (ac - 1) ((j + 19) % 20) rm w n B Rf pl P x f p M1 := hc.act (h1.mono (fun a k y => by unfold zPaw at y; unfold zPac; omega)) k1 g1 (by rw [f1 _ _ (by omega)]; exact hc.2.2.2.2.2.2.1)
    have m1 := hm.fr hT (fun a k ha => f1 a k (by omega))
    refine m_undo (h := h + 50) hsl hP m1.1.1 hp.2.1 m1.2.1 m1.2.2.2.2.1 hb (fun _ M2 h2 k2 g2 => ?_) (fun y => absurd y cn)
    have f2 : ∀ a k, ¬ (a = 195 ∨ a = 125 ∧ (k = 50 ∨ k = 54 ∨ k = 96 ∨ k = 66 ∨ k = 67) ∨ a = 164 ∨ a = 172) → M2 a k = M1 a k := fun a k y => h2 a k (by unfold zPmx; omega)
    have m2 : zJm T (R j) (zK0 K (R j 17)) R (ac - 1) ((j + 19) % 20) rm w n B Rf pl P x f p M2 := m1.act (h2.mono (fun a k y => by unfold zPmx at y; unfold zPma; omega)) k2 g2 (by rw [f2 _ _ (by omega)]; exact m1.2.2.2.2.2.2.1)
    have hq := hp.up hN
    have hu : zPu T (R j) := ⟨hT, hj.1, hj.2.1⟩
    exact q2 M2 (fun a k ha => f2 a k (by omega)) ⟨T, _, t, _, _, _, _, rm, w, n, B, Rf, pl, P, _, f, p, ⟨hu, hp.2.1.undo cn, hq.2.2.1, hq.2.2.2.1, hq.2.2.2.2.1, hq.2.2.2.2.2.1, hx, hN⟩, c1.fr hT (fun a k a1 a2 => f2 a k (by omega)), m2⟩
  · refine c_undo (h := h + 43) (by omega) hP hc.1.1 hp.2.1 hc.2.1 hc.2.2.2.2.1 hb (fun y => absurd y cn) (fun _ M1 h1 r1 => q _ M1 (fun a k ha => h1 a k (by show ¬ a = 78; omega)) (fun Q2 q2 => ?_))
    have c1 := hc.ref hT h1 r1
    have m1 := hm.fr hT (fun a k ha => h1 a k (by show ¬ a = 78; omega))
    refine m_undo (h := h + 50) hsl hP m1.1.1 hp.2.1 m1.2.1 m1.2.2.2.2.1 hb (fun y => absurd y cn) (fun _ M2 h2 r2 => ?_)
    exact q2 M2 (fun a k ha => h2 a k (by show ¬ a = 127; omega)) ⟨T, L, t, K, R, ac, j, rm, w, n, B, _, pl, P, x, f, p, hp.inc hN (i := 4) (by decide) (by decide), c1.fr hT (fun a k a1 a2 => h2 a k (by show ¬ a = 127; omega)), m1.ref hT h2 r2⟩
theorem o_seed {G : zG} {h sl : Nat} (hsl : 2 ≤ sl) {N a1 : Int} {M : zM} (hN : N + 1 ≤ 90000) (hI : zIv N M) (hv : zI a1) : zOp G (h + 50) sl N y_Zt_seed y_Md_seed [(0, a1)] M := fun Kc q => by
  obtain ⟨T, L, t, K, R, ac, j, rm, w, n, B, Rf, pl, P, x, f, p, hp, hc, hm⟩ := hI
  have ht := hc.1.1.1
  have hP := hp.1
  have hT := hP.1
  have hb := hp.rf (i := 5) (by decide) (by decide)
  unfold zI at hv
  by_cases cn : 0 ≤ a1
  · refine c_seed (h := h + 49) (by omega) hc.2.2.2.2.1 hb (fun _ => q _ _ (fun a k ha => zwr_o _ (by omega)) (fun Q2 q2 => ?_)) (fun y => absurd cn y)
    have f1 : ∀ a k, ¬ (a = 1 ∧ k = 16) → (zwr M 1 16 a1) a k = M a k := fun a k y => by rw [zwr_i, if_neg y]
    have s1 : (zwr M 1 16 a1) 1 16 = a1 := zwr_s _ _ _ _
    generalize zwr M 1 16 a1 = M1 at f1 s1 q2 ⊢
    have c1 : zJc T L t K R ac j rm w n B Rf pl P a1 f p M1 := ⟨⟨hc.1.1.fr hT (fun a k y => f1 a k (by unfold zdCk at y; omega)), by rw [f1 _ _ (by omega)]; exact hc.1.2⟩, hc.2.1.fr (fun a k y => f1 a k (by unfold zdHc at y; omega)), hc.2.2.1.fr (fun a k y => f1 a k (by unfold zdPc at y; omega)), hc.2.2.2.1.fr (fun a k y => f1 a k (by omega)), hc.2.2.2.2.1.fr (fun k => f1 _ _ (by omega)), ⟨by rw [f1 _ _ (by omega)]; exact hc.2.2.2.2.2.1.1, hc.2.2.2.2.2.1.2.fr (fun k => f1 _ _ (by omega))⟩, s1, by rw [f1 _ _ (by omega)]; exact hc.2.2.2.2.2.2.2.1, by rw [f1 _ _ (by omega)]; exact hc.2.2.2.2.2.2.2.2⟩
    have m1 := hm.fr hT (fun a k ha => f1 a k (by omega))
    refine m_seed (h := h + 49) hsl m1.2.2.2.2.1 hb (fun _ => ?_) (fun y => absurd cn y)
    have f2 : ∀ a k, ¬ (a = 125 ∧ k = 68) → (zwr M1 125 68 a1) a k = M1 a k := fun a k y => by rw [zwr_i, if_neg y]
    have s2 : (zwr M1 125 68 a1) 125 68 = a1 := zwr_s _ _ _ _
    generalize zwr M1 125 68 a1 = M2 at f2 s2 ⊢
    have m2 : zJm T L K R ac j rm w n B Rf pl P a1 f p M2 := ⟨⟨m1.1.1.fr hT (fun a k y => f2 a k (by unfold zdMk at y; omega)), m1.1.2.fr (fun k y => f2 _ _ (by omega))⟩, m1.2.1.fr (fun a k y => f2 a k (by unfold zdHm at y; omega)), m1.2.2.1.fr (f2 _ _ (by omega)) (fun k => f2 _ _ (by omega)), m1.2.2.2.1.fr (fun a k y => f2 a k (by omega)), m1.2.2.2.2.1.fr (fun k => f2 _ _ (by omega)), ⟨by rw [f2 _ _ (by omega)]; exact m1.2.2.2.2.2.1.1, m1.2.2.2.2.2.1.2.fr (fun k => f2 _ _ (by omega))⟩, s2, by rw [f2 _ _ (by omega)]; exact m1.2.2.2.2.2.2.2.1, by rw [f2 _ _ (by omega)]; exact m1.2.2.2.2.2.2.2.2⟩
    have hq := hp.up hN
    exact q2 M2 (fun a k ha => f2 a k (by omega)) ⟨T, L, t, K, R, ac, j, rm, w, n, B, Rf, pl, P, _, f, p, ⟨hq.1, hq.2.1, hq.2.2.1, hq.2.2.2.1, hq.2.2.2.2.1, hq.2.2.2.2.2.1, by omega, hN⟩, c1.fr hT (fun a k a1 a2 => f2 a k (by omega)), m2⟩
  · refine c_seed (h := h + 49) (by omega) hc.2.2.2.2.1 hb (fun y => absurd y cn) (fun _ M1 h1 r1 => q _ M1 (fun a k ha => h1 a k (by show ¬ a = 78; omega)) (fun Q2 q2 => ?_))
    have c1 := hc.ref hT h1 r1
    have m1 := hm.fr hT (fun a k ha => h1 a k (by show ¬ a = 78; omega))
    refine m_seed (h := h + 49) hsl m1.2.2.2.2.1 hb (fun y => absurd y cn) (fun _ M2 h2 r2 => ?_)
    exact q2 M2 (fun a k ha => h2 a k (by show ¬ a = 127; omega)) ⟨T, L, t, K, R, ac, j, rm, w, n, B, _, pl, P, x, f, p, hp.inc hN (i := 5) (by decide) (by decide), c1.fr hT (fun a k a1 a2 => h2 a k (by show ¬ a = 127; omega)), m1.ref hT h2 r2⟩
theorem o_find {G : zG} {h sl : Nat} (hsl : 2 ≤ sl) {N  : Int} {M : zM} (hN : N + 1 ≤ 90000) (hI : zIv N M) : zOp G (h + 50) sl N y_Zt_find y_Md_find [] M := fun Kc q => by
  obtain ⟨T, L, t, K, R, ac, j, rm, w, n, B, Rf, pl, P, x, f, p, hp, hc, hm⟩ := hI
  have ht := hc.1.1.1
  have hP := hp.1
  have hT := hP.1
  have hb := hp.rf (i := 1) (by decide) (by decide)
  have hB := hp.2.2.2.1
  by_cases cn : zfok T n B
  · refine c_find (h := h + 47) (by omega) hP hc.1.1 hc.2.2.1 hB hc.2.2.2.1 hc.2.2.2.2.1 hb (fun _ M1 h1 t1 p1 r1 => q _ M1 (fun a k ha => h1 a k (by unfold zPfd zPrd; omega)) (fun Q2 q2 => ?_)) (fun y => absurd cn y)
    have f1 : ∀ a k, ¬ (66 ≤ a ∧ a ≤ 68 ∨ a = 63 ∨ a = 2 ∧ k = 1 ∨ a = 78) → M1 a k = M a k := fun a k y => h1 a k (by unfold zPfd zPrd; omega)
    have c1 : zJc T L t K R ac j (n / 4) (zfrw B) 0 B Rf pl P x f p M1 := ⟨⟨hc.1.1.fr hT (fun a k y => f1 a k (by unfold zdCk at y; omega)), by rw [f1 _ _ (by omega)]; exact hc.1.2⟩, hc.2.1.fr (fun a k y => f1 a k (by unfold zdHc at y; omega)), p1, t1, r1, ⟨by rw [f1 _ _ (by omega)]; exact hc.2.2.2.2.2.1.1, hc.2.2.2.2.2.1.2.fr (fun k => f1 _ _ (by omega))⟩, by rw [f1 _ _ (by omega)]; exact hc.2.2.2.2.2.2.1, by rw [f1 _ _ (by omega)]; exact hc.2.2.2.2.2.2.2.1, by rw [f1 _ _ (by omega)]; exact hc.2.2.2.2.2.2.2.2⟩
    have m1 := hm.fr hT (fun a k ha => f1 a k (by omega))
    refine m_find (h := h + 46) hsl hP m1.1.1 m1.2.2.1 hB m1.2.2.2.1 m1.2.2.2.2.1 hb (fun _ M2 h2 t2 p2 r2 => ?_) (fun y => absurd cn y)
    have f2 : ∀ a k, ¬ (a = 170 ∨ a = 125 ∧ (k = 1 ∨ k = 62) ∨ a = 127) → M2 a k = M1 a k := fun a k y => h2 a k (by unfold zPmf; omega)
    have m2 : zJm T L K R ac j (n / 4) (zfrw B) 0 B Rf pl P x f p M2 := ⟨⟨m1.1.1.fr hT (fun a k y => f2 a k (by unfold zdMk at y; omega)), m1.1.2.fr (fun k y => f2 _ _ (by omega))⟩, m1.2.1.fr (fun a k y => f2 a k (by unfold zdHm at y; omega)), p2, t2, r2, ⟨by rw [f2 _ _ (by omega)]; exact m1.2.2.2.2.2.1.1, m1.2.2.2.2.2.1.2.fr (fun k => f2 _ _ (by omega))⟩, by rw [f2 _ _ (by omega)]; exact m1.2.2.2.2.2.2.1, by rw [f2 _ _ (by omega)]; exact m1.2.2.2.2.2.2.2.1, by rw [f2 _ _ (by omega)]; exact m1.2.2.2.2.2.2.2.2⟩
    have hq := hp.up hN
    exact q2 M2 (fun a k ha => f2 a k (by omega)) ⟨T, L, t, K, R, ac, j, _, _, _, B, _, pl, P, x, f, p, ⟨hq.1, hq.2.1, zRw_of hB cn, hB.end (Int.le_refl _) hB.1.1, hq.2.2.2.2⟩, c1.fr hT (fun a k a1 a2 => f2 a k (by omega)), m2⟩
  · refine c_find (h := h + 47) (by omega) hP hc.1.1 hc.2.2.1 hB hc.2.2.2.1 hc.2.2.2.2.1 hb (fun y => absurd y cn) (fun _ M1 h1 t1 p1 r1 => q _ M1 (fun a k ha => h1 a k (by unfold zPfd zPrd; omega)) (fun Q2 q2 => ?_))
    have f1 : ∀ a k, ¬ (66 ≤ a ∧ a ≤ 68 ∨ a = 63 ∨ a = 2 ∧ k = 1 ∨ a = 78) → M1 a k = M a k := fun a k y => h1 a k (by unfold zPfd zPrd; omega)
    have c1 : zJc T L t K R ac j rm w 0 B (zup Rf 1 (Rf 1 + 1)) pl P x f p M1 := ⟨⟨hc.1.1.fr hT (fun a k y => f1 a k (by unfold zdCk at y; omega)), by rw [f1 _ _ (by omega)]; exact hc.1.2⟩, hc.2.1.fr (fun a k y => f1 a k (by unfold zdHc at y; omega)), p1, t1, r1, ⟨by rw [f1 _ _ (by omega)]; exact hc.2.2.2.2.2.1.1, hc.2.2.2.2.2.1.2.fr (fun k => f1 _ _ (by omega))⟩, by rw [f1 _ _ (by omega)]; exact hc.2.2.2.2.2.2.1, by rw [f1 _ _ (by omega)]; exact hc.2.2.2.2.2.2.2.1, by rw [f1 _ _ (by omega)]; exact hc.2.2.2.2.2.2.2.2⟩
    have m1 := hm.fr hT (fun a k ha => f1 a k (by omega))
    refine m_find (h := h + 46) hsl hP m1.1.1 m1.2.2.1 hB m1.2.2.2.1 m1.2.2.2.2.1 hb (fun y => absurd y cn) (fun _ M2 h2 t2 p2 r2 => ?_)
    have f2 : ∀ a k, ¬ (a = 170 ∨ a = 125 ∧ (k = 1 ∨ k = 62) ∨ a = 127) → M2 a k = M1 a k := fun a k y => h2 a k (by unfold zPmf; omega)
    have m2 : zJm T L K R ac j rm w 0 B (zup Rf 1 (Rf 1 + 1)) pl P x f p M2 := ⟨⟨m1.1.1.fr hT (fun a k y => f2 a k (by unfold zdMk at y; omega)), m1.1.2.fr (fun k y => f2 _ _ (by omega))⟩, m1.2.1.fr (fun a k y => f2 a k (by unfold zdHm at y; omega)), p2, t2, r2, ⟨by rw [f2 _ _ (by omega)]; exact m1.2.2.2.2.2.1.1, m1.2.2.2.2.2.1.2.fr (fun k => f2 _ _ (by omega))⟩, by rw [f2 _ _ (by omega)]; exact m1.2.2.2.2.2.2.1, by rw [f2 _ _ (by omega)]; exact m1.2.2.2.2.2.2.2.1, by rw [f2 _ _ (by omega)]; exact m1.2.2.2.2.2.2.2.2⟩
    have hq := hp.inc hN (i := 1) (by decide) (by decide)
    exact q2 M2 (fun a k ha => f2 a k (by omega)) ⟨T, L, t, K, R, ac, j, _, _, _, B, _, pl, P, x, f, p, ⟨hq.1, hq.2.1, hq.2.2.1, hB.end (Int.le_refl _) hB.1.1, hq.2.2.2.2⟩, c1.fr hT (fun a k a1 a2 => f2 a k (by omega)), m2⟩
theorem o_on {G : zG} {h sl : Nat} (hsl : 2 ≤ sl) {N  : Int} {M : zM} (hN : N + 1 ≤ 90000) (hI : zIv N M) : zOp G (h + 50) sl N y_Zt_on y_Md_on [] M := fun Kc q => by
  obtain ⟨T, L, t, K, R, ac, j, rm, w, n, B, Rf, pl, P, x, f, p, hp, hc, hm⟩ := hI
  have ht := hc.1.1.1
  have hP := hp.1
  have hT := hP.1
  have hb := hp.rf (i := 5) (by decide) (by decide)
  have hB := hp.2.2.2.1
  have hq := hp.up hN
  have hz := hp.inc hN (i := 5) (by decide) (by decide)
  by_cases cn : zonk T n B
  · refine c_on (h := h + 43) (by omega) hP hc.1.1 hc.2.1 hB hc.2.2.2.1 hc.2.2.2.2.1 hb (fun _ M1 h1 t1 k1 g1 r1 x1 => q _ M1 (fun a k ha => h1 a k (by unfold zPon zPac; omega)) (fun Q2 q2 => ?_)) (fun y => absurd cn y)
    have f1 : ∀ a k, ¬ (a = 1 ∧ k = 16 ∨ a = 4 ∨ a = 5 ∨ 6 ≤ a ∧ a ≤ 20 ∨ 22 ≤ a ∧ a ≤ 62 ∨ 79 ≤ a ∧ a ≤ 124 ∨ a = 2 ∧ k = 1 ∨ a = 78) → M1 a k = M a k := fun a k y => h1 a k (by unfold zPon zPac; omega)
    have c1 : zJc T (zonl B) t (0, K.2.1, K.2.2) R 0 j rm w 0 B Rf pl P x f p M1 := ⟨⟨k1, by rw [f1 _ _ (by omega)]; exact hc.1.2⟩, g1, hc.2.2.1.fr (fun a k y => f1 a k (by unfold zdPc at y; omega)), t1, r1, ⟨by rw [f1 _ _ (by omega)]; exact hc.2.2.2.2.2.1.1, hc.2.2.2.2.2.1.2.fr (fun k => f1 _ _ (by omega))⟩, x1.trans hc.2.2.2.2.2.2.1, by rw [f1 _ _ (by omega)]; exact hc.2.2.2.2.2.2.2.1, by rw [f1 _ _ (by omega)]; exact hc.2.2.2.2.2.2.2.2⟩
    have m1 := hm.fr hT (fun a k ha => f1 a k (by omega))
    refine m_on (h := h + 45) hsl hP m1.1.1 m1.2.1 hB m1.2.2.2.1 m1.2.2.2.2.1 hb (fun _ M2 h2 t2 k2 g2 r2 => ?_) (fun y => absurd cn y)
    have f2 : ∀ a k, ¬ (a = 164 ∨ a = 125 ∧ (k = 1 ∨ k = 66) ∨ a = 127) → M2 a k = M1 a k := fun a k y => h2 a k y
    have m2 : zJm T (zonl B) (0, K.2.1, K.2.2) R 0 j rm w 0 B Rf pl P x f p M2 := ⟨⟨k2, m1.1.2.fr (fun k y => f2 _ _ (by omega))⟩, g2, m1.2.2.1.fr (f2 _ _ (by omega)) (fun k => f2 _ _ (by omega)), t2, r2, ⟨by rw [f2 _ _ (by omega)]; exact m1.2.2.2.2.2.1.1, m1.2.2.2.2.2.1.2.fr (fun k => f2 _ _ (by omega))⟩, by rw [f2 _ _ (by omega)]; exact m1.2.2.2.2.2.2.1, by rw [f2 _ _ (by omega)]; exact m1.2.2.2.2.2.2.2.1, by rw [f2 _ _ (by omega)]; exact m1.2.2.2.2.2.2.2.2⟩
    have hu := zon_pu hT hB cn
    have hj := hp.2.1.2.2.1
    have hv : ∀ s, ¬ zvs 0 j s := fun s y => by have := y.2; omega
    exact q2 M2 (fun a k ha => f2 a k (by omega)) ⟨T, _, t, _, R, _, j, rm, w, _, B, Rf, pl, P, x, f, p, ⟨hu, ⟨⟨Int.le_refl _, hu.2.1.1⟩, by decide, hj, fun s y => absurd y (hv s), fun s r y => absurd y (hv s)⟩, hq.2.2.1, hB.end (Int.le_refl _) hB.1.1, hq.2.2.2.2⟩, c1.fr hT (fun a k a1 a2 => f2 a k (by omega)), m2⟩
  · refine c_on (h := h + 43) (by omega) hP hc.1.1 hc.2.1 hB hc.2.2.2.1 hc.2.2.2.2.1 hb (fun y => absurd y cn) (fun _ M1 h1 t1 k1 r1 => q _ M1 (fun a k ha => h1 a k (by show ¬ (a = 2 ∧ k = 1 ∨ a = 6 ∧ (k = 1 ∨ k = 2) ∨ a = 7 ∨ a = 78); omega)) (fun Q2 q2 => ?_))
    have f1 : ∀ a k, ¬ (a = 2 ∧ k = 1 ∨ a = 6 ∨ a = 7 ∨ a = 78) → M1 a k = M a k := fun a k y => h1 a k (by show ¬ (a = 2 ∧ k = 1 ∨ a = 6 ∧ (k = 1 ∨ k = 2) ∨ a = 7 ∨ a = 78); omega)
    have c1 : zJc T L t K R ac j rm w 0 B (zup Rf 5 (Rf 5 + 1)) pl P x f p M1 := ⟨⟨k1, by rw [f1 _ _ (by omega)]; exact hc.1.2⟩, hc.2.1.fr (fun a k y => f1 a k (by unfold zdHc at y; omega)), hc.2.2.1.fr (fun a k y => f1 a k (by unfold zdPc at y; omega)), t1, r1, ⟨by rw [f1 _ _ (by omega)]; exact hc.2.2.2.2.2.1.1, hc.2.2.2.2.2.1.2.fr (fun k => f1 _ _ (by omega))⟩, by rw [f1 _ _ (by omega)]; exact hc.2.2.2.2.2.2.1, by rw [f1 _ _ (by omega)]; exact hc.2.2.2.2.2.2.2.1, by rw [f1 _ _ (by omega)]; exact hc.2.2.2.2.2.2.2.2⟩
    have m1 := hm.fr hT (fun a k ha => f1 a k (by omega))
    refine m_on (h := h + 45) hsl hP m1.1.1 m1.2.1 hB m1.2.2.2.1 m1.2.2.2.2.1 hb (fun y => absurd y cn) (fun _ M2 h2 t2 r2 => ?_)
    have f2 : ∀ a k, ¬ (a = 125 ∧ k = 1 ∨ a = 127) → M2 a k = M1 a k := fun a k y => h2 a k y
    have m2 : zJm T L K R ac j rm w 0 B (zup Rf 5 (Rf 5 + 1)) pl P x f p M2 := ⟨⟨m1.1.1.fr hT (fun a k y => f2 a k (by unfold zdMk at y; omega)), m1.1.2.fr (fun k y => f2 _ _ (by omega))⟩, m1.2.1.fr (fun a k y => f2 a k (by unfold zdHm at y; omega)), m1.2.2.1.fr (f2 _ _ (by omega)) (fun k => f2 _ _ (by omega)), t2, r2, ⟨by rw [f2 _ _ (by omega)]; exact m1.2.2.2.2.2.1.1, m1.2.2.2.2.2.1.2.fr (fun k => f2 _ _ (by omega))⟩, by rw [f2 _ _ (by omega)]; exact m1.2.2.2.2.2.2.1, by rw [f2 _ _ (by omega)]; exact m1.2.2.2.2.2.2.2.1, by rw [f2 _ _ (by omega)]; exact m1.2.2.2.2.2.2.2.2⟩
    exact q2 M2 (fun a k ha => f2 a k (by omega)) ⟨T, L, t, K, R, ac, j, rm, w, _, B, _, pl, P, x, f, p, ⟨hz.1, hz.2.1, hz.2.2.1, hB.end (Int.le_refl _) hB.1.1, hz.2.2.2.2⟩, c1.fr hT (fun a k a1 a2 => f2 a k (by omega)), m2⟩
theorem o_ask {G : zG} {h sl : Nat} (hsl : 2 ≤ sl) {N  : Int} {M : zM} (hN : N + 1 ≤ 90000) (hI : zIv N M) : zOp G (h + 50) sl N y_Zt_ask y_Md_ask [] M := fun Kc q => by
  obtain ⟨T, L, t, K, R, ac, j, rm, w, n, B, Rf, pl, P, x, f, p, hp, hc, hm⟩ := hI
  have ht := hc.1.1.1
  have hP := hp.1
  have hT := hP.1
  have hB := hp.2.2.2.1
  have hq := hp.up hN
  obtain ⟨m, em⟩ : ∃ m : Nat, n = (m : Int) := ⟨n.toNat, by have := hB.1; omega⟩
  subst em
  have h16 := hB.1.2
  refine c_ask (h := h + 9) (n := m) (by omega) hP hc.1.1 (by omega) hc.2.2.2.1.1 hc.2.2.2.1.2 (fun M1 h1 k1 e1 e2 e3 => q _ M1 (fun a k ha => h1 a k (by unfold zPak zPq zPan; omega)) (fun Q2 q2 => ?_))
  have f1 : ∀ a k, ¬ (72 ≤ a ∧ a ≤ 76 ∨ a = 1 ∧ (k = 14 ∨ k = 15) ∨ a = 2 ∧ k = 1 ∨ 6 ≤ a ∧ a ≤ 17 ∨ 79 ≤ a ∧ a ≤ 124) → M1 a k = M a k := fun a k y => h1 a k (by unfold zPak zPq zPan; omega)
  have t1 : zTp 0 B M1 := ⟨e3, fun k k0 k1 => absurd k1 (by omega)⟩
  have c1 : zJc T L t K R ac j rm w 0 B Rf pl P x (zakf B m).1 (zakf B m).2 M1 := ⟨⟨k1, by rw [f1 _ _ (by omega)]; exact hc.1.2⟩, hc.2.1.fr (fun a k y => f1 a k (by unfold zdHc at y; omega)), hc.2.2.1.fr (fun a k y => f1 a k (by unfold zdPc at y; omega)), t1, hc.2.2.2.2.1.fr (fun k => f1 _ _ (by omega)), ⟨by rw [f1 _ _ (by omega)]; exact hc.2.2.2.2.2.1.1, hc.2.2.2.2.2.1.2.fr (fun k => f1 _ _ (by omega))⟩, by rw [f1 _ _ (by omega)]; exact hc.2.2.2.2.2.2.1, e1, e2⟩
  have m1 := hm.fr hT (fun a k ha => f1 a k (by omega))
  refine m_ask (h := h + 41) (n := m) hsl hP m1.1.1 (by omega) (fun k k0 kn => (hB.2 k k0 kn).1) m1.2.2.2.1.1 m1.2.2.2.1.2 (fun M2 h2 k2 e4 e5 e6 => ?_)
  have f2 : ∀ a k, ¬ (a = 125 ∧ (k ≤ 10 ∨ k = 41 ∨ k = 50 ∨ k = 53 ∨ k = 54 ∨ k = 57 ∨ k = 61 ∨ 90 ≤ k ∧ k ≤ 98) ∨ 193 ≤ a ∧ a ≤ 195 ∨ 167 ≤ a ∧ a ≤ 169) → M2 a k = M1 a k := fun a k y => h2 a k (by unfold zPmk; omega)
  have t2 : zTq 0 B M2 := ⟨e6, fun k k0 k1 => absurd k1 (by omega)⟩
  have m2 : zJm T L K R ac j rm w 0 B Rf pl P x (zakf B m).1 (zakf B m).2 M2 := ⟨⟨k2, m1.1.2.fr (fun k y => f2 _ _ (by omega))⟩, m1.2.1.fr (fun a k y => f2 a k (by unfold zdHm at y; omega)), m1.2.2.1.fr (f2 _ _ (by omega)) (fun k => f2 _ _ (by omega)), t2, m1.2.2.2.2.1.fr (fun k => f2 _ _ (by omega)), ⟨by rw [f2 _ _ (by omega)]; exact m1.2.2.2.2.2.1.1, m1.2.2.2.2.2.1.2.fr (fun k => f2 _ _ (by omega))⟩, by rw [f2 _ _ (by omega)]; exact m1.2.2.2.2.2.2.1, e4, e5⟩
  exact q2 M2 (fun a k ha => f2 a k (by omega)) ⟨T, L, t, K, R, ac, j, rm, w, _, B, Rf, pl, P, x, _, _, ⟨hq.1, hq.2.1, hq.2.2.1, hB.end (Int.le_refl _) hB.1.1, hq.2.2.2.2⟩, c1.fr hT (fun a k a1 a2 => f2 a k (by omega)), m2⟩
theorem o_tablet {G : zG} {h sl : Nat} (hsl : 2 ≤ sl) {N  : Int} {M : zM} (hN : N + 1 ≤ 90000) (hI : zIv N M) : zOp G (h + 50) sl N y_Zt_tablet y_Md_tablet [] M := fun Kc q => by
  obtain ⟨T, L, t, K, R, ac, j, rm, w, n, B, Rf, pl, P, x, f, p, hp, hc, hm⟩ := hI
  have ht := hc.1.1.1
  have hP := hp.1
  have hT := hP.1
  have hB := hp.2.2.2.1
  have hb := hp.rf (i := 1) (by decide) (by decide)
  have hq := hp.up hN
  have hz := hp.inc hN (i := 1) (by decide) (by decide)
  obtain ⟨m, em⟩ : ∃ m : Nat, n = (m : Int) := ⟨n.toNat, by have := hB.1; omega⟩
  subst em
  have h16 := hB.1.2
  have hj := hp.2.1.2.2.1
  have hv : ∀ s, ¬ zvs 0 j s := fun s y => by have := y.2; omega
  cases ez : ztab B m with
  | inr T' =>
    refine c_tablet (h := h + 11) (n := m) (by omega) hP hc.1.1 hc.1.2 (by omega) hc.2.2.2.1.1 hc.2.2.2.1.2 hc.2.2.2.2.1 hb (fun T'' hz' M1 h1 k1 e1 e2 e3 e4 e5 e6 e7 e8 e9 e10 e11 => ?_) (fun f' p' hz' => by rw [ez] at hz'; nomatch hz')
    rw [ez] at hz'
    injection hz' with hz'
    subst hz'
    have f1 : ∀ a k, ¬ (a = 72 ∨ 79 ≤ a ∧ a ≤ 124 ∨ a = 1 ∧ (k = 11 ∨ k = 12 ∨ k = 14 ∨ k = 15) ∨ a = 2 ∧ k = 1 ∨ a = 4 ∨ a = 5 ∨ 8 ≤ a ∧ a ≤ 17 ∨ a = 18 ∧ (k = 4 ∨ k = 6) ∨ a = 63 ∨ a = 78) → M1 a k = M a k := fun a k y => h1 a k (by unfold zPtg zPtf zPrt; omega)
    refine q _ M1 (fun a k ha => f1 a k (by omega)) (fun Q2 q2 => ?_)
    have t1 : zTp 0 B M1 := ⟨e4, fun k k0 k1 => absurd k1 (by omega)⟩
    have hH : zHc T' (0, K.2.1, K.2.2) R 0 j M1 := ⟨⟨e5, fun k k0 k1 => absurd k1 (show ¬ k < 0 by omega), fun k k0 k1 => absurd k1 (show ¬ k < 0 by omega)⟩, by rw [f1 _ _ (by omega)]; exact hc.2.1.2.1, e6, fun s y => absurd y (hv s)⟩
    have hPc : zPc T' 0 w M1 := ⟨⟨e7, fun k k0 k1 => absurd k1 (by omega)⟩, fun y => absurd e8 y, fun y => absurd e9 y, fun c c0 _ _ y => by rw [e10] at y; omega, fun v v0 v1 => by rw [f1 _ _ (by omega)]; exact hc.2.2.1.2.2.2.2 v v0 v1⟩
    have c1 : zJc T' (zbg T') (181 - t) (0, K.2.1, K.2.2) R 0 j 0 w 0 B Rf pl P x 0 (-1) M1 := ⟨⟨k1, by rw [e1]; omega⟩, hH, hPc, t1, hc.2.2.2.2.1.fr e11, ⟨by rw [f1 _ _ (by omega)]; exact hc.2.2.2.2.2.1.1, hc.2.2.2.2.2.1.2.fr (fun k => f1 _ _ (by omega))⟩, by rw [f1 _ _ (by omega)]; exact hc.2.2.2.2.2.2.1, e2, e3⟩
    have m1 := hm.fr hT (fun a k ha => f1 a k (by omega))
    have hT' := ztab_ok ez
    have hb' := zbg_ok hT'
    refine m_tablet (h := h + 37) (n := m) hsl (by omega) (fun k k0 kn => (hB.2 k k0 kn).1) m1.2.2.2.1.1 m1.2.2.2.1.2 m1.2.2.2.2.1 hb (fun T'' hz' M2 h2 k2 n2 d1 d2 d3 d4 d5 d6 d7 => ?_) (fun f' p' hz' => by rw [ez] at hz'; nomatch hz')
    rw [ez] at hz'
    injection hz' with hz'
    subst hz'
    have f2 : ∀ a k, ¬ (a = 125 ∧ (k ≤ 10 ∨ 41 ≤ k ∧ k ≤ 66 ∨ 90 ≤ k ∧ k ≤ 96) ∨ 158 ≤ a ∧ a ≤ 166 ∨ 193 ≤ a ∧ a ≤ 195 ∨ a = 127) → M2 a k = M1 a k := fun a k y => h2 a k (by unfold zPtk zPtn zPts zPtm zPsd zPL zPG; omega)
    have t2 : zTq 0 B M2 := ⟨d6, fun k k0 k1 => absurd k1 (by omega)⟩
    have hH2 : zHm T' (0, K.2.1, K.2.2) R 0 j M2 := ⟨⟨d1, fun k k0 k1 => absurd k1 (show ¬ k < 0 by omega)⟩, by rw [f2 _ _ (by omega)]; exact m1.2.1.2.1, d2, fun s y => absurd y (hv s)⟩
    have hPm : zPm 0 w M2 := ⟨d3, fun k k0 k1 => absurd k1 (by omega)⟩
    have hR2 : zAr M2 127 6 Rf := m1.2.2.2.2.1.fr d7
    have m2 : zJm T' (zbg T') (0, K.2.1, K.2.2) R 0 j 0 w 0 B Rf pl P x 0 (-1) M2 := ⟨⟨k2, n2⟩, hH2, hPm, t2, hR2, ⟨by rw [f2 _ _ (by omega)]; exact m1.2.2.2.2.2.1.1, m1.2.2.2.2.2.1.2.fr (fun k => f2 _ _ (by omega))⟩, by rw [f2 _ _ (by omega)]; exact m1.2.2.2.2.2.2.1, d4, d5⟩
    have hu : zPu T' (zbg T') := ⟨hT', hb'.2, by rw [hb'.1]; decide⟩
    exact q2 M2 (fun a k ha => f2 a k (by omega)) ⟨_, _, _, _, R, _, j, _, w, _, B, Rf, pl, P, x, _, _, ⟨hu, ⟨⟨Int.le_refl _, hu.2.1.1⟩, by decide, hj, fun s y => absurd y (hv s), fun s r y => absurd y (hv s)⟩, ⟨by decide, fun k k0 k1 => absurd k1 (by omega)⟩, hB.end (Int.le_refl _) hB.1.1, hq.2.2.2.2⟩, c1.fr hT' (fun a k a1 a2 => f2 a k (by omega)), m2⟩
  | inl y =>
    refine c_tablet (h := h + 11) (n := m) (by omega) hP hc.1.1 hc.1.2 (by omega) hc.2.2.2.1.1 hc.2.2.2.1.2 hc.2.2.2.2.1 hb (fun T'' hz' => by rw [ez] at hz'; nomatch hz') (fun f' p' hz' M1 h1 k1 e1 e2 e3 r1 => ?_)
    rw [ez] at hz'
    injection hz' with hz'
    subst hz'
    have f1 : ∀ a k, ¬ (a = 72 ∨ 79 ≤ a ∧ a ≤ 124 ∨ a = 1 ∧ (k = 14 ∨ k = 15) ∨ a = 2 ∧ k = 1 ∨ a = 78) → M1 a k = M a k := fun a k y => h1 a k (by unfold zPtf zPrt; omega)
    refine q _ M1 (fun a k ha => f1 a k (by omega)) (fun Q2 q2 => ?_)
    have t1 : zTp 0 B M1 := ⟨e3, fun k k0 k1 => absurd k1 (by omega)⟩
    have c1 : zJc T L t K R ac j rm w 0 B (zup Rf 1 (Rf 1 + 1)) pl P x f' p' M1 := ⟨⟨k1, by rw [f1 _ _ (by omega)]; exact hc.1.2⟩, hc.2.1.fr (fun a k y => f1 a k (by unfold zdHc at y; omega)), hc.2.2.1.fr (fun a k y => f1 a k (by unfold zdPc at y; omega)), t1, r1, ⟨by rw [f1 _ _ (by omega)]; exact hc.2.2.2.2.2.1.1, hc.2.2.2.2.2.1.2.fr (fun k => f1 _ _ (by omega))⟩, by rw [f1 _ _ (by omega)]; exact hc.2.2.2.2.2.2.1, e1, e2⟩
    have m1 := hm.fr hT (fun a k ha => f1 a k (by omega))
    refine m_tablet (h := h + 37) (n := m) hsl (by omega) (fun k k0 kn => (hB.2 k k0 kn).1) m1.2.2.2.1.1 m1.2.2.2.1.2 m1.2.2.2.2.1 hb (fun T'' hz' => by rw [ez] at hz'; nomatch hz') (fun f'' p'' hz' M2 h2 d4 d5 d6 r2 => ?_)
    rw [ez] at hz'
    injection hz' with hz'
    injection hz' with hz1 hz2
    subst hz1
    subst hz2
    have f2 : ∀ a k, ¬ (a = 125 ∧ (k ≤ 10 ∨ k = 41 ∨ 48 ≤ k ∧ k ≤ 50 ∨ 90 ≤ k ∧ k ≤ 94) ∨ a = 158 ∧ k < 2 ∨ a = 159 ∧ k < 8 ∨ a = 160 ∧ k < 56 ∨ (a = 161 ∨ a = 162) ∧ k < 9 ∨ a = 163 ∧ k < 1600 ∨ 193 ≤ a ∧ a ≤ 194 ∨ a = 127) → M2 a k = M1 a k := fun a k y => h2 a k (by unfold zPtn zPts zPtm; omega)
    have t2 : zTq 0 B M2 := ⟨d6, fun k k0 k1 => absurd k1 (by omega)⟩
    have m2 : zJm T L K R ac j rm w 0 B (zup Rf 1 (Rf 1 + 1)) pl P x f' p' M2 := ⟨⟨m1.1.1.fr hT (fun a k y => f2 a k (by unfold zdMk at y; omega)), m1.1.2.fr (fun k y => f2 _ _ (by omega))⟩, m1.2.1.fr (fun a k y => f2 a k (by unfold zdHm at y; omega)), m1.2.2.1.fr (f2 _ _ (by omega)) (fun k => f2 _ _ (by omega)), t2, r2, ⟨by rw [f2 _ _ (by omega)]; exact m1.2.2.2.2.2.1.1, m1.2.2.2.2.2.1.2.fr (fun k => f2 _ _ (by omega))⟩, by rw [f2 _ _ (by omega)]; exact m1.2.2.2.2.2.2.1, d4, d5⟩
    exact q2 M2 (fun a k ha => f2 a k (by omega)) ⟨T, L, t, K, R, ac, j, rm, w, _, B, _, pl, P, x, _, _, ⟨hz.1, hz.2.1, hz.2.2.1, hB.end (Int.le_refl _) hB.1.1, hz.2.2.2.2⟩, c1.fr hT (fun a k a1 a2 => f2 a k (by omega)), m2⟩
