/-! QUESTIONS of both sides keep the state (made by wip/whole/gen/ops.py). -/
theorem o_has {G : zG} {h sl : Nat} (hsl : 2 ≤ sl) {N v : Int} {M : zM} (hN : N + 1 ≤ 90000) (hI : zIv N M) : zOp G (h + 50) sl N y_Zt_has y_Md_has [(0, v)] M := fun Kc q => by
  obtain ⟨T, L, t, K, R, ac, j, rm, w, n, B, Rf, pl, P, x, f, p, hp, hc, hm⟩ := hI
  have ht := hc.1.1.1
  have hP := hp.1
  have hT := hP.1
  refine c_has (h := h + 46) (by omega) hP hc.1.1 hc.2.1.1.1 hc.2.2.1.1.1 hc.2.1.2.2.1 (fun M1 h1 k1 => q _ M1 (fun a k ha => h1 a k (by unfold zPq; omega)) (fun Q2 q2 => ?_))
  have f1 : ∀ a k, ¬ (6 ≤ a ∧ a ≤ 17 ∨ 79 ≤ a ∧ a ≤ 124) → M1 a k = M a k := fun a k y => h1 a k (by unfold zPq; omega)
  have c1 := hc.q k1 (fun a k y => f1 a k (by unfold zdJ at y; omega))
  have m1 := hm.fr hT (fun a k ha => f1 a k (by omega))
  refine m_has (h := h + 46) hsl hP m1.1.1 m1.2.1.1.1 m1.2.2.1.1 m1.2.1.2.2.1 (fun M2 h2 k2 => ?_)
  have f2 : ∀ a k, ¬ (167 ≤ a ∧ a ≤ 169 ∨ a = 195 ∨ a = 125 ∧ (50 ≤ k ∧ k ≤ 61 ∧ k ≠ 52 ∨ k = 96)) → M2 a k = M1 a k := fun a k y => h2 a k (by unfold zPB; omega)
  exact q2 M2 (fun a k ha => f2 a k (by omega)) ⟨T, L, t, K, R, ac, j, rm, w, n, B, Rf, pl, P, x, f, p, hp.up hN, c1.fr hT (fun a k a1 a2 => f2 a k (by omega)), m1.q k2 (fun a k y => f2 a k (by unfold zdN at y; omega))⟩
theorem o_later {G : zG} {h sl : Nat} (hsl : 2 ≤ sl) {N a1 a2 : Int} {M : zM} (hN : N + 1 ≤ 90000) (hI : zIv N M) : zOp G (h + 50) sl N y_Zt_later y_Md_later [(0, a1), (0, a2)] M := fun Kc q => by
  obtain ⟨T, L, t, K, R, ac, j, rm, w, n, B, Rf, pl, P, x, f, p, hp, hc, hm⟩ := hI
  have ht := hc.1.1.1
  have hP := hp.1
  have hT := hP.1
  refine c_later (h := h + 44) (by omega) hP hc.1.1 (fun M1 h1 k1 => q _ M1 (fun a k ha => h1 a k (by unfold zPq; omega)) (fun Q2 q2 => ?_))
  have f1 : ∀ a k, ¬ (6 ≤ a ∧ a ≤ 17 ∨ 79 ≤ a ∧ a ≤ 124) → M1 a k = M a k := fun a k y => h1 a k (by unfold zPq; omega)
  have c1 := hc.q k1 (fun a k y => f1 a k (by unfold zdJ at y; omega))
  have m1 := hm.fr hT (fun a k ha => f1 a k (by omega))
  refine m_later (h := h + 43) hsl hP m1.1.1 (fun M2 h2 k2 => ?_)
  have f2 : ∀ a k, ¬ (167 ≤ a ∧ a ≤ 169 ∨ a = 195 ∨ a = 125 ∧ (50 ≤ k ∧ k ≤ 61 ∧ k ≠ 52 ∨ k = 96)) → M2 a k = M1 a k := fun a k y => h2 a k (by unfold zPB; omega)
  exact q2 M2 (fun a k ha => f2 a k (by omega)) ⟨T, L, t, K, R, ac, j, rm, w, n, B, Rf, pl, P, x, f, p, hp.up hN, c1.fr hT (fun a k a1 a2 => f2 a k (by omega)), m1.q k2 (fun a k y => f2 a k (by unfold zdN at y; omega))⟩
theorem o_bounds {G : zG} {h sl : Nat} (hsl : 2 ≤ sl) {N a1 a2 a3 : Int} {M : zM} (hN : N + 1 ≤ 90000) (hI : zIv N M) : zOp G (h + 50) sl N y_Zt_bounds y_Md_bounds [(0, a1), (0, a2), (0, a3)] M := fun Kc q => by
  obtain ⟨T, L, t, K, R, ac, j, rm, w, n, B, Rf, pl, P, x, f, p, hp, hc, hm⟩ := hI
  have ht := hc.1.1.1
  have hP := hp.1
  have hT := hP.1
  refine c_bounds (h := h + 44) (by omega) hP hc.1.1 (fun M1 h1 k1 => q _ M1 (fun a k ha => h1 a k (by unfold zPq; omega)) (fun Q2 q2 => ?_))
  have f1 : ∀ a k, ¬ (6 ≤ a ∧ a ≤ 17 ∨ 79 ≤ a ∧ a ≤ 124) → M1 a k = M a k := fun a k y => h1 a k (by unfold zPq; omega)
  have c1 := hc.q k1 (fun a k y => f1 a k (by unfold zdJ at y; omega))
  have m1 := hm.fr hT (fun a k ha => f1 a k (by omega))
  refine m_bounds (h := h + 43) hsl hP m1.1.1 (fun M2 h2 k2 => ?_)
  have f2 : ∀ a k, ¬ (167 ≤ a ∧ a ≤ 169 ∨ a = 195 ∨ a = 125 ∧ (50 ≤ k ∧ k ≤ 61 ∧ k ≠ 52 ∨ k = 96)) → M2 a k = M1 a k := fun a k y => h2 a k (by unfold zPB; omega)
  exact q2 M2 (fun a k ha => f2 a k (by omega)) ⟨T, L, t, K, R, ac, j, rm, w, n, B, Rf, pl, P, x, f, p, hp.up hN, c1.fr hT (fun a k a1 a2 => f2 a k (by omega)), m1.q k2 (fun a k y => f2 a k (by unfold zdN at y; omega))⟩
theorem o_when {G : zG} {h sl : Nat} (hsl : 2 ≤ sl) {N a1 a2 : Int} {M : zM} (hN : N + 1 ≤ 90000) (hI : zIv N M) : zOp G (h + 50) sl N y_Zt_when y_Md_when [(0, a1), (0, a2)] M := fun Kc q => by
  obtain ⟨T, L, t, K, R, ac, j, rm, w, n, B, Rf, pl, P, x, f, p, hp, hc, hm⟩ := hI
  have ht := hc.1.1.1
  have hP := hp.1
  have hT := hP.1
  refine c_when (h := h + 44) (by omega) hP hc.1.1 (fun M1 h1 k1 => q _ M1 (fun a k ha => h1 a k (by unfold zPq; omega)) (fun Q2 q2 => ?_))
  have f1 : ∀ a k, ¬ (6 ≤ a ∧ a ≤ 17 ∨ 79 ≤ a ∧ a ≤ 124) → M1 a k = M a k := fun a k y => h1 a k (by unfold zPq; omega)
  have c1 := hc.q k1 (fun a k y => f1 a k (by unfold zdJ at y; omega))
  have m1 := hm.fr hT (fun a k ha => f1 a k (by omega))
  refine m_when (h := h + 43) hsl hP m1.1.1 (fun M2 h2 k2 => ?_)
  have f2 : ∀ a k, ¬ (167 ≤ a ∧ a ≤ 169 ∨ a = 195 ∨ a = 125 ∧ (50 ≤ k ∧ k ≤ 61 ∧ k ≠ 52 ∨ k = 96)) → M2 a k = M1 a k := fun a k y => h2 a k (by unfold zPB; omega)
  exact q2 M2 (fun a k ha => f2 a k (by omega)) ⟨T, L, t, K, R, ac, j, rm, w, n, B, Rf, pl, P, x, f, p, hp.up hN, c1.fr hT (fun a k a1 a2 => f2 a k (by omega)), m1.q k2 (fun a k y => f2 a k (by unfold zdN at y; omega))⟩
theorem o_meet {G : zG} {h sl : Nat} (hsl : 2 ≤ sl) {N a1 a2 : Int} {M : zM} (hN : N + 1 ≤ 90000) (hI : zIv N M) : zOp G (h + 50) sl N y_Zt_meet y_Md_meet [(0, a1), (0, a2)] M := fun Kc q => by
  obtain ⟨T, L, t, K, R, ac, j, rm, w, n, B, Rf, pl, P, x, f, p, hp, hc, hm⟩ := hI
  have ht := hc.1.1.1
  have hP := hp.1
  have hT := hP.1
  refine c_meet (h := h + 44) (by omega) hP hc.1.1 (fun M1 h1 k1 => q _ M1 (fun a k ha => h1 a k (by unfold zPq; omega)) (fun Q2 q2 => ?_))
  have f1 : ∀ a k, ¬ (6 ≤ a ∧ a ≤ 17 ∨ 79 ≤ a ∧ a ≤ 124) → M1 a k = M a k := fun a k y => h1 a k (by unfold zPq; omega)
  have c1 := hc.q k1 (fun a k y => f1 a k (by unfold zdJ at y; omega))
  have m1 := hm.fr hT (fun a k ha => f1 a k (by omega))
  refine m_meet (h := h + 43) hsl hP m1.1.1 (fun M2 h2 k2 => ?_)
  have f2 : ∀ a k, ¬ (167 ≤ a ∧ a ≤ 169 ∨ a = 195 ∨ a = 125 ∧ (50 ≤ k ∧ k ≤ 61 ∧ k ≠ 52 ∨ k = 96)) → M2 a k = M1 a k := fun a k y => h2 a k (by unfold zPB; omega)
  exact q2 M2 (fun a k ha => f2 a k (by omega)) ⟨T, L, t, K, R, ac, j, rm, w, n, B, Rf, pl, P, x, f, p, hp.up hN, c1.fr hT (fun a k a1 a2 => f2 a k (by omega)), m1.q k2 (fun a k y => f2 a k (by unfold zdN at y; omega))⟩
theorem o_marks {G : zG} {h sl : Nat} (hsl : 2 ≤ sl) {N a1 a2 : Int} {M : zM} (hN : N + 1 ≤ 90000) (hI : zIv N M) : zOp G (h + 50) sl N y_Zt_marks y_Md_marks [(0, a1), (0, a2)] M := fun Kc q => by
  obtain ⟨T, L, t, K, R, ac, j, rm, w, n, B, Rf, pl, P, x, f, p, hp, hc, hm⟩ := hI
  have ht := hc.1.1.1
  have hP := hp.1
  have hT := hP.1
  refine c_marks (h := h + 44) (by omega) hP hc.1.1 (fun M1 h1 k1 => q _ M1 (fun a k ha => h1 a k (by unfold zPq; omega)) (fun Q2 q2 => ?_))
  have f1 : ∀ a k, ¬ (6 ≤ a ∧ a ≤ 17 ∨ 79 ≤ a ∧ a ≤ 124) → M1 a k = M a k := fun a k y => h1 a k (by unfold zPq; omega)
  have c1 := hc.q k1 (fun a k y => f1 a k (by unfold zdJ at y; omega))
  have m1 := hm.fr hT (fun a k ha => f1 a k (by omega))
  refine m_marks (h := h + 43) hsl hP m1.1.1 (fun M2 h2 k2 => ?_)
  have f2 : ∀ a k, ¬ (167 ≤ a ∧ a ≤ 169 ∨ a = 195 ∨ a = 125 ∧ (50 ≤ k ∧ k ≤ 61 ∧ k ≠ 52 ∨ k = 96)) → M2 a k = M1 a k := fun a k y => h2 a k (by unfold zPB; omega)
  exact q2 M2 (fun a k ha => f2 a k (by omega)) ⟨T, L, t, K, R, ac, j, rm, w, n, B, Rf, pl, P, x, f, p, hp.up hN, c1.fr hT (fun a k a1 a2 => f2 a k (by omega)), m1.q k2 (fun a k y => f2 a k (by unfold zdN at y; omega))⟩
theorem o_period {G : zG} {h sl : Nat} (hsl : 2 ≤ sl) {N a1 : Int} {M : zM} (hN : N + 1 ≤ 90000) (hI : zIv N M) : zOp G (h + 50) sl N y_Zt_period y_Md_period [(0, a1)] M := fun Kc q => by
  obtain ⟨T, L, t, K, R, ac, j, rm, w, n, B, Rf, pl, P, x, f, p, hp, hc, hm⟩ := hI
  have ht := hc.1.1.1
  have hP := hp.1
  have hT := hP.1
  refine c_period (h := h + 44) (by omega) hP hc.1.1 (fun M1 h1 k1 => q _ M1 (fun a k ha => h1 a k (by unfold zPq; omega)) (fun Q2 q2 => ?_))
  have f1 : ∀ a k, ¬ (6 ≤ a ∧ a ≤ 17 ∨ 79 ≤ a ∧ a ≤ 124) → M1 a k = M a k := fun a k y => h1 a k (by unfold zPq; omega)
  have c1 := hc.q k1 (fun a k y => f1 a k (by unfold zdJ at y; omega))
  have m1 := hm.fr hT (fun a k ha => f1 a k (by omega))
  refine m_period (h := h + 43) hsl hP m1.1.1 (fun M2 h2 k2 => ?_)
  have f2 : ∀ a k, ¬ (167 ≤ a ∧ a ≤ 169 ∨ a = 195 ∨ a = 125 ∧ (50 ≤ k ∧ k ≤ 61 ∧ k ≠ 52 ∨ k = 96)) → M2 a k = M1 a k := fun a k y => h2 a k (by unfold zPB; omega)
  exact q2 M2 (fun a k ha => f2 a k (by omega)) ⟨T, L, t, K, R, ac, j, rm, w, n, B, Rf, pl, P, x, f, p, hp.up hN, c1.fr hT (fun a k a1 a2 => f2 a k (by omega)), m1.q k2 (fun a k y => f2 a k (by unfold zdN at y; omega))⟩
theorem o_heal {G : zG} {h sl : Nat} (hsl : 2 ≤ sl) {N a1 : Int} {M : zM} (hN : N + 1 ≤ 90000) (hI : zIv N M) : zOp G (h + 50) sl N y_Zt_heal y_Md_heal [(0, a1)] M := fun Kc q => by
  obtain ⟨T, L, t, K, R, ac, j, rm, w, n, B, Rf, pl, P, x, f, p, hp, hc, hm⟩ := hI
  have ht := hc.1.1.1
  have hP := hp.1
  have hT := hP.1
  refine c_heal (h := h + 44) (by omega) hP hc.1.1 (fun M1 h1 k1 => q _ M1 (fun a k ha => h1 a k (by unfold zPq; omega)) (fun Q2 q2 => ?_))
  have f1 : ∀ a k, ¬ (6 ≤ a ∧ a ≤ 17 ∨ 79 ≤ a ∧ a ≤ 124) → M1 a k = M a k := fun a k y => h1 a k (by unfold zPq; omega)
  have c1 := hc.q k1 (fun a k y => f1 a k (by unfold zdJ at y; omega))
  have m1 := hm.fr hT (fun a k ha => f1 a k (by omega))
  refine m_heal (h := h + 43) hsl hP m1.1.1 (fun M2 h2 k2 => ?_)
  have f2 : ∀ a k, ¬ (167 ≤ a ∧ a ≤ 169 ∨ a = 195 ∨ a = 125 ∧ (50 ≤ k ∧ k ≤ 61 ∧ k ≠ 52 ∨ k = 96)) → M2 a k = M1 a k := fun a k y => h2 a k (by unfold zPB; omega)
  exact q2 M2 (fun a k ha => f2 a k (by omega)) ⟨T, L, t, K, R, ac, j, rm, w, n, B, Rf, pl, P, x, f, p, hp.up hN, c1.fr hT (fun a k a1 a2 => f2 a k (by omega)), m1.q k2 (fun a k y => f2 a k (by unfold zdN at y; omega))⟩
theorem o_odds {G : zG} {h sl : Nat} (hsl : 2 ≤ sl) {N a1 : Int} {M : zM} (hN : N + 1 ≤ 90000) (hI : zIv N M) : zOp G (h + 50) sl N y_Zt_odds y_Md_odds [(0, a1)] M := fun Kc q => by
  obtain ⟨T, L, t, K, R, ac, j, rm, w, n, B, Rf, pl, P, x, f, p, hp, hc, hm⟩ := hI
  have ht := hc.1.1.1
  have hP := hp.1
  have hT := hP.1
  refine c_odds (h := h + 44) (by omega) hP hc.1.1 (fun M1 h1 k1 => q _ M1 (fun a k ha => h1 a k (by unfold zPq; omega)) (fun Q2 q2 => ?_))
  have f1 : ∀ a k, ¬ (6 ≤ a ∧ a ≤ 17 ∨ 79 ≤ a ∧ a ≤ 124) → M1 a k = M a k := fun a k y => h1 a k (by unfold zPq; omega)
  have c1 := hc.q k1 (fun a k y => f1 a k (by unfold zdJ at y; omega))
  have m1 := hm.fr hT (fun a k ha => f1 a k (by omega))
  refine m_odds (h := h + 43) hsl hP m1.1.1 (fun M2 h2 k2 => ?_)
  have f2 : ∀ a k, ¬ (167 ≤ a ∧ a ≤ 169 ∨ a = 195 ∨ a = 125 ∧ (50 ≤ k ∧ k ≤ 61 ∧ k ≠ 52 ∨ k = 96)) → M2 a k = M1 a k := fun a k y => h2 a k (by unfold zPB; omega)
  exact q2 M2 (fun a k ha => f2 a k (by omega)) ⟨T, L, t, K, R, ac, j, rm, w, n, B, Rf, pl, P, x, f, p, hp.up hN, c1.fr hT (fun a k a1 a2 => f2 a k (by omega)), m1.q k2 (fun a k y => f2 a k (by unfold zdN at y; omega))⟩
theorem o_letter {G : zG} {h sl : Nat} (hsl : 2 ≤ sl) {N a1 a2 : Int} {M : zM} (hN : N + 1 ≤ 90000) (hI : zIv N M) : zOp G (h + 50) sl N y_Zt_letter y_Md_letter [(0, a1), (0, a2)] M := fun Kc q => by
  obtain ⟨T, L, t, K, R, ac, j, rm, w, n, B, Rf, pl, P, x, f, p, hp, hc, hm⟩ := hI
  have ht := hc.1.1.1
  have hP := hp.1
  have hT := hP.1
  exact c_letter (h := h + 49) (by omega) hT hc.1.1 (q _ M (fun _ _ _ => rfl) (fun Q2 q2 => m_letter (h := h + 48) hsl hT hm.1.1.1 hm.1.2 (q2 M (fun _ _ _ => rfl) ⟨T, L, t, K, R, ac, j, rm, w, n, B, Rf, pl, P, x, f, p, hp.up hN, hc, hm⟩)))
theorem o_column {G : zG} {h sl : Nat} (hsl : 2 ≤ sl) {N a1 a2 : Int} {M : zM} (hN : N + 1 ≤ 90000) (hI : zIv N M) : zOp G (h + 50) sl N y_Zt_column y_Md_column [(0, a1), (0, a2)] M := fun Kc q => by
  obtain ⟨T, L, t, K, R, ac, j, rm, w, n, B, Rf, pl, P, x, f, p, hp, hc, hm⟩ := hI
  have ht := hc.1.1.1
  have hP := hp.1
  have hT := hP.1
  exact c_column (h := h + 49) (by omega) hP hc.1.1 (q _ M (fun _ _ _ => rfl) (fun Q2 q2 => m_column (h := h + 47) hsl hP hm.1.1 (q2 M (fun _ _ _ => rfl) ⟨T, L, t, K, R, ac, j, rm, w, n, B, Rf, pl, P, x, f, p, hp.up hN, hc, hm⟩)))
theorem o_value {G : zG} {h sl : Nat} (hsl : 2 ≤ sl) {N a1 a2 : Int} {M : zM} (hN : N + 1 ≤ 90000) (hI : zIv N M) : zOp G (h + 50) sl N y_Zt_value y_Md_value [(0, a1), (0, a2)] M := fun Kc q => by
  obtain ⟨T, L, t, K, R, ac, j, rm, w, n, B, Rf, pl, P, x, f, p, hp, hc, hm⟩ := hI
  have ht := hc.1.1.1
  have hP := hp.1
  have hT := hP.1
  exact c_value (h := h + 49) (by omega) hP hc.1.1 (q _ M (fun _ _ _ => rfl) (fun Q2 q2 => m_value (h := h + 48) hsl hP hm.1.1 (q2 M (fun _ _ _ => rfl) ⟨T, L, t, K, R, ac, j, rm, w, n, B, Rf, pl, P, x, f, p, hp.up hN, hc, hm⟩)))
theorem o_kept {G : zG} {h sl : Nat} (hsl : 2 ≤ sl) {N a1 a2 : Int} {M : zM} (hN : N + 1 ≤ 90000) (hI : zIv N M) : zOp G (h + 50) sl N y_Zt_kept y_Md_kept [(0, a1), (0, a2)] M := fun Kc q => by
  obtain ⟨T, L, t, K, R, ac, j, rm, w, n, B, Rf, pl, P, x, f, p, hp, hc, hm⟩ := hI
  have ht := hc.1.1.1
  have hP := hp.1
  have hT := hP.1
  have hK := hp.2.1.1
  have h9 := hP.2.2
  exact c_kept (h := h + 47) (by omega) hc.2.1.1.1 hK.1 (by omega) hc.2.1.1.2.1 hc.2.1.1.2.2 (q _ M (fun _ _ _ => rfl) (fun Q2 q2 => m_kept (h := h + 49) hsl hK.1 hm.2.1.1 (q2 M (fun _ _ _ => rfl) ⟨T, L, t, K, R, ac, j, rm, w, n, B, Rf, pl, P, x, f, p, hp.up hN, hc, hm⟩)))
theorem o_octet {G : zG} {h sl : Nat} (hsl : 2 ≤ sl) {N a1 : Int} {M : zM} (hN : N + 1 ≤ 90000) (hI : zIv N M) : zOp G (h + 50) sl N y_Zt_octet y_Md_octet [(0, a1)] M := fun Kc q => by
  obtain ⟨T, L, t, K, R, ac, j, rm, w, n, B, Rf, pl, P, x, f, p, hp, hc, hm⟩ := hI
  have ht := hc.1.1.1
  have hP := hp.1
  have hT := hP.1
  exact c_octet (by omega) hc.2.2.2.2.2.1.1 hp.2.2.2.2.2.1 hc.2.2.2.2.2.1.2 (q _ M (fun _ _ _ => rfl) (fun Q2 q2 => m_octet hsl hm.2.2.2.2.2.1.1 hp.2.2.2.2.2.1 hm.2.2.2.2.2.1.2 (q2 M (fun _ _ _ => rfl) ⟨T, L, t, K, R, ac, j, rm, w, n, B, Rf, pl, P, x, f, p, hp.up hN, hc, hm⟩)))
theorem o_status {G : zG} {h sl : Nat} (hsl : 2 ≤ sl) {N a1 : Int} {M : zM} (hN : N + 1 ≤ 90000) (hI : zIv N M) : zOp G (h + 50) sl N y_Zt_status y_Md_status [(0, a1)] M := fun Kc q => by
  obtain ⟨T, L, t, K, R, ac, j, rm, w, n, B, Rf, pl, P, x, f, p, hp, hc, hm⟩ := hI
  have ht := hc.1.1.1
  have hP := hp.1
  have hT := hP.1
  exact c_status (by omega) hc.2.2.2.2.1 (q _ M (fun _ _ _ => rfl) (fun Q2 q2 => m_status (h := h + 49) hsl hm.2.2.2.2.1 (q2 M (fun _ _ _ => rfl) ⟨T, L, t, K, R, ac, j, rm, w, n, B, Rf, pl, P, x, f, p, hp.up hN, hc, hm⟩)))
theorem o_fault {G : zG} {h sl : Nat} (hsl : 2 ≤ sl) {N a1 : Int} {M : zM} (hN : N + 1 ≤ 90000) (hI : zIv N M) : zOp G (h + 50) sl N y_Zt_fault y_Md_fault [(0, a1)] M := fun Kc q => by
  obtain ⟨T, L, t, K, R, ac, j, rm, w, n, B, Rf, pl, P, x, f, p, hp, hc, hm⟩ := hI
  have ht := hc.1.1.1
  have hP := hp.1
  have hT := hP.1
  have e1 := hc.2.2.2.2.2.2.2
  have e2 := hm.2.2.2.2.2.2.2
  refine c_fault (by omega) ?_
  rw [e1.1, e1.2]
  refine q _ M (fun _ _ _ => rfl) (fun Q2 q2 => m_fault hsl ?_)
  rw [e2.1, e2.2]
  exact q2 M (fun _ _ _ => rfl) ⟨T, L, t, K, R, ac, j, rm, w, n, B, Rf, pl, P, x, f, p, hp.up hN, hc, hm⟩
theorem o_fits {G : zG} {h sl : Nat} (hsl : 2 ≤ sl) {N a1 : Int} {M : zM} (hN : N + 1 ≤ 90000) (hI : zIv N M) : zOp G (h + 50) sl N y_Zt_fits y_Md_fits [(0, a1)] M := fun Kc q => by
  obtain ⟨T, L, t, K, R, ac, j, rm, w, n, B, Rf, pl, P, x, f, p, hp, hc, hm⟩ := hI
  have ht := hc.1.1.1
  have hP := hp.1
  have hT := hP.1
  refine c_fits (h := h + 44) (by omega) hP hc.1.1 hp.2.2.1 hc.2.2.1 (fun M1 h1 k1 r1 => q _ M1 (fun a k ha => h1 a k (by unfold zPp zPq; omega)) (fun Q2 q2 => ?_))
  have f1 : ∀ a k, ¬ (6 ≤ a ∧ a ≤ 17 ∨ 79 ≤ a ∧ a ≤ 124 ∨ a = 63 ∨ a = 64 ∨ a = 65 ∨ 69 ≤ a ∧ a ≤ 71) → M1 a k = M a k := fun a k y => h1 a k (by unfold zPp zPq; omega)
  have c1 : zJc T L t K R ac j rm w n B Rf pl P x f p M1 := ⟨⟨k1, by rw [f1 _ _ (by omega)]; exact hc.1.2⟩, hc.2.1.fr (fun a k y => f1 a k (by unfold zdHc at y; omega)), r1, hc.2.2.2.1.fr (fun a k y => f1 a k (by omega)), hc.2.2.2.2.1.fr (fun k => f1 _ _ (by omega)), ⟨by rw [f1 _ _ (by omega)]; exact hc.2.2.2.2.2.1.1, hc.2.2.2.2.2.1.2.fr (fun k => f1 _ _ (by omega))⟩, by rw [f1 _ _ (by omega)]; exact hc.2.2.2.2.2.2.1, by rw [f1 _ _ (by omega)]; exact hc.2.2.2.2.2.2.2.1, by rw [f1 _ _ (by omega)]; exact hc.2.2.2.2.2.2.2.2⟩
  have m1 := hm.fr hT (fun a k ha => f1 a k (by omega))
  exact m_fits (h := h + 48) hsl hT hp.2.2.1 m1.2.2.1 m1.1.1.2.2 (q2 M1 (fun _ _ _ => rfl) ⟨T, L, t, K, R, ac, j, rm, w, n, B, Rf, pl, P, x, f, p, hp.up hN, c1, m1⟩)
theorem o_differences {G : zG} {h sl : Nat} (hsl : 2 ≤ sl) {N a1 a2 : Int} {M : zM} (hN : N + 1 ≤ 90000) (hI : zIv N M) : zOp G (h + 50) sl N y_Zt_differences y_Md_differences [(0, a1), (0, a2)] M := fun Kc q => by
  obtain ⟨T, L, t, K, R, ac, j, rm, w, n, B, Rf, pl, P, x, f, p, hp, hc, hm⟩ := hI
  have ht := hc.1.1.1
  have hP := hp.1
  have hT := hP.1
  refine c_differences (h := h + 43) (by omega) hP hc.1.1 hp.2.2.1 hc.2.2.1 (fun M1 h1 k1 r1 => q _ M1 (fun a k ha => h1 a k (by unfold zPp zPq; omega)) (fun Q2 q2 => ?_))
  have f1 : ∀ a k, ¬ (6 ≤ a ∧ a ≤ 17 ∨ 79 ≤ a ∧ a ≤ 124 ∨ a = 63 ∨ a = 64 ∨ a = 65 ∨ 69 ≤ a ∧ a ≤ 71) → M1 a k = M a k := fun a k y => h1 a k (by unfold zPp zPq; omega)
  have c1 : zJc T L t K R ac j rm w n B Rf pl P x f p M1 := ⟨⟨k1, by rw [f1 _ _ (by omega)]; exact hc.1.2⟩, hc.2.1.fr (fun a k y => f1 a k (by unfold zdHc at y; omega)), r1, hc.2.2.2.1.fr (fun a k y => f1 a k (by omega)), hc.2.2.2.2.1.fr (fun k => f1 _ _ (by omega)), ⟨by rw [f1 _ _ (by omega)]; exact hc.2.2.2.2.2.1.1, hc.2.2.2.2.2.1.2.fr (fun k => f1 _ _ (by omega))⟩, by rw [f1 _ _ (by omega)]; exact hc.2.2.2.2.2.2.1, by rw [f1 _ _ (by omega)]; exact hc.2.2.2.2.2.2.2.1, by rw [f1 _ _ (by omega)]; exact hc.2.2.2.2.2.2.2.2⟩
  have m1 := hm.fr hT (fun a k ha => f1 a k (by omega))
  refine m_differences (h := h + 43) hsl hP m1.1.1 hp.2.2.1 m1.2.2.1 (fun M2 h2 k2 => ?_)
  have f2 : ∀ a k, ¬ (167 ≤ a ∧ a ≤ 169 ∨ a = 195 ∨ a = 125 ∧ (50 ≤ k ∧ k ≤ 61 ∧ k ≠ 52 ∨ k = 96)) → M2 a k = M1 a k := fun a k y => h2 a k (by unfold zPB; omega)
  exact q2 M2 (fun a k ha => f2 a k (by omega)) ⟨T, L, t, K, R, ac, j, rm, w, n, B, Rf, pl, P, x, f, p, hp.up hN, c1.fr hT (fun a k a1 a2 => f2 a k (by omega)), m1.q k2 (fun a k y => f2 a k (by unfold zdN at y; omega))⟩
theorem o_tells {G : zG} {h sl : Nat} (hsl : 2 ≤ sl) {N a1 : Int} {M : zM} (hN : N + 1 ≤ 90000) (hI : zIv N M) : zOp G (h + 50) sl N y_Zt_tells y_Md_tells [(0, a1)] M := fun Kc q => by
  obtain ⟨T, L, t, K, R, ac, j, rm, w, n, B, Rf, pl, P, x, f, p, hp, hc, hm⟩ := hI
  have ht := hc.1.1.1
  have hP := hp.1
  have hT := hP.1
  refine c_tells (h := h + 44) (by omega) hP hc.1.1 hp.2.2.1 hc.2.2.1 (fun M1 h1 k1 r1 => q _ M1 (fun a k ha => h1 a k (by unfold zPp zPq; omega)) (fun Q2 q2 => ?_))
  have f1 : ∀ a k, ¬ (6 ≤ a ∧ a ≤ 17 ∨ 79 ≤ a ∧ a ≤ 124 ∨ a = 63 ∨ a = 64 ∨ a = 65 ∨ 69 ≤ a ∧ a ≤ 71) → M1 a k = M a k := fun a k y => h1 a k (by unfold zPp zPq; omega)
  have c1 : zJc T L t K R ac j rm w n B Rf pl P x f p M1 := ⟨⟨k1, by rw [f1 _ _ (by omega)]; exact hc.1.2⟩, hc.2.1.fr (fun a k y => f1 a k (by unfold zdHc at y; omega)), r1, hc.2.2.2.1.fr (fun a k y => f1 a k (by omega)), hc.2.2.2.2.1.fr (fun k => f1 _ _ (by omega)), ⟨by rw [f1 _ _ (by omega)]; exact hc.2.2.2.2.2.1.1, hc.2.2.2.2.2.1.2.fr (fun k => f1 _ _ (by omega))⟩, by rw [f1 _ _ (by omega)]; exact hc.2.2.2.2.2.2.1, by rw [f1 _ _ (by omega)]; exact hc.2.2.2.2.2.2.2.1, by rw [f1 _ _ (by omega)]; exact hc.2.2.2.2.2.2.2.2⟩
  have m1 := hm.fr hT (fun a k ha => f1 a k (by omega))
  refine m_tells (h := h + 47) hsl hP m1.1.1 hp.2.2.1 m1.2.2.1 (fun M2 h2 k2 => ?_)
  have f2 : ∀ a k, ¬ (a = 171) → M2 a k = M1 a k := fun a k y => h2 a k y
  exact q2 M2 (fun a k ha => f2 a k (by omega)) ⟨T, L, t, K, R, ac, j, rm, w, n, B, Rf, pl, P, x, f, p, hp.up hN, c1.fr hT (fun a k a1 a2 => f2 a k (by omega)), m1.q k2 (fun a k y => f2 a k (by unfold zdN at y; omega))⟩
