/-- as c_reach, and no less is held than before -/
theorem c_reachGL {G : zG} {h sl : Nat} (hsl : 1 ≤ sl) {T : zTb} {A : Int → Int} {o t : Int} {n m0 : Nat} {M0 : zM} {Q : Int → zM → Prop} (ho : o = 8 ∨ o = 13) (ht : zK t = (8, 0)) (ht7 : 70 ≤ t) (hT : zTok T) (hA : zLok T (T.1 8 0) A) (h9 : A 0 + n < 8000) (hn : (n : Int) < (zK (o + 4)).2) (q : ∀ M' m, n < m → m0 ≤ m → zSm (zPR o t) M0 M' → zCo T A m M' o t → Q 0 M') :
    ∀ (d m : Nat) {M : zM} {u : Nat × Nat × Nat × Nat}, n + 1 ≤ d + m → m0 ≤ m → zSm (zPR o t) M0 M → zTc T M t → zCo T A m M o t → zX G (y_Course_reach, h + 4 + 1, sl) u 13 [(0, (2, o)), (1, (0, (n : Int))), (2, (0, (m : Int)))] [] M Q
  | 0, m, M, u, e, e0, hM, hm, hc => B_Course_reach_13 hsl ⟨fun _ => q M m (by omega) e0 hM hc, fun g => absurd (by omega) g⟩
  | d + 1, m, M, u, e, e0, hM, hm, hc => by
    obtain ⟨h1, h2, h3, h4⟩ := zCo_len ho
    have hcc := hc
    obtain ⟨c3, c4, c1, cN, cl, cr⟩ := hcc
    have h41 := (zs_2 h1).2.2.2
    refine B_Course_reach_13 hsl ⟨fun g => q M m (by omega) e0 hM hc, fun g => ⟨h1, by omega, fun g2 => absurd g2 (by omega), fun _ => ⟨by rw [c3]; exact ht, ?_⟩⟩⟩
    rw [c3]
    have hA0 := hA.1
    have hln := zln_ok hT hA (m - 1) (by omega)
    refine c_next (h := h) hsl ht (by omega) h41 hT hln.2 (by rw [hln.1]; omega) zChd_no hm cl (fun M1 hM1 hl1 => ?_)
    have e1 : znxd T (-1) 0 (zln T A (m - 1)) = zln T A m := by
      rw [znxd_own]
      show zln T A (m - 1 + 1) = _
      rw [show m - 1 + 1 = m from by omega]
    rw [e1] at hl1
    refine c_store hsl ho hT (T := T) (A := A) (m := m) (by rw [hM1 _ _ (by unfold zPC zPLn; omega)]; exact c4) (by omega) hl1 (cr.fr ho ht7 hM1) (fun M2 hM2 e4 hr2 => ⟨by unfold zI; omega, ?_⟩)
    have g2 : zSm (zPR o t) M M2 := (hM1.mono (fun _ _ p => Or.inl p)).trans (hM2.mono (fun _ _ p => Or.inr p))
    have := c_reachGL (G := G) (h := h) (Q := Q) hsl ho ht ht7 hT hA h9 hn q d (m + 1) (M := M2) (u := u) (by omega) (by omega) (hM.trans g2) (hm.frG hT (zPR_kp ho ht7 g2)) ⟨by rw [hM2 _ _ (by unfold zPO; omega), hM1 _ _ (by unfold zPC zPLn; omega)]; exact c3, by rw [e4, zcs], by omega, by omega, hl1.fr (hM2 _ _ (by unfold zPO; omega)) (hM2 _ _ (by unfold zPO; omega)) (fun j => hM2 _ _ (by unfold zPO; omega)), hr2⟩
    rw [zcs] at this
    exact this
theorem c_reachG {G : zG} {h sl : Nat} (hsl : 1 ≤ sl) {T : zTb} {A : Int → Int} {o t : Int} {n m : Nat} {M : zM} {Q : Int → zM → Prop} (ho : o = 8 ∨ o = 13) (ht : zK t = (8, 0)) (ht7 : 70 ≤ t) (hT : zTok T) (hA : zLok T (T.1 8 0) A) (h9 : A 0 + n < 8000) (hn : (n : Int) < (zK (o + 4)).2) (hm : zTc T M t) (hc : zCo T A m M o t) (q : ∀ M' m', n < m' → m ≤ m' → zSm (zPR o t) M M' → zCo T A m' M' o t → Q 0 M') : zCt G (h + 5) sl 0 0 y_Course_reach [(2, o), (0, (n : Int))] M Q := by
  have hh := hc
  obtain ⟨c3, c4, _⟩ := hh
  refine E_Course_reach hsl ⟨(zCo_len ho).1, fun _ => ?_, fun g => absurd (by omega) g⟩
  rw [c4]
  exact c_reachGL (M0 := M) (m0 := m) (h := h) hsl ho ht ht7 hT hA h9 hn q (n + 1) m (by omega) (by omega) (zSm.refl _ _) hm hc
