def zPR (o t : Int) : Int → Int → Prop := fun a k => zPC t (o + 1) a k ∨ zPO o a k
theorem zPR_kp {o t : Int} {M M' : zM} (ho : o = 8 ∨ o = 13) (ht : 70 ≤ t) (h : zSm (zPR o t) M M') : zKp t M M' := fun a k h1 h2 h3 h4 => h a k (by unfold zPR zPC zPLn zPO; omega)
theorem zCoR.fr {T : zTb} {A : Int → Int} {m : Nat} {M M' : zM} {o t : Int} (ho : o = 8 ∨ o = 13) (ht : 70 ≤ t) (hm : zSm (zPC t (o + 1)) M M') (h : zCoR T A m M o) : zCoR T A m M' o := fun k hk => by
  rw [hm _ _ (by unfold zPC zPLn; omega)]
  exact ⟨(h k hk).1, fun c c0 cn => by rw [hm _ _ (by unfold zPC zPLn; omega)]; exact (h k hk).2 c c0 cn⟩
theorem zChd_no {T : zTb} {d : Int} : zChd T (-1) d := fun c c0 _ e => absurd e (by omega)
theorem c_reachL {G : zG} {h sl : Nat} (hsl : 1 ≤ sl) {T : zTb} {A : Int → Int} {o t : Int} {n : Nat} {M0 : zM} {Q : Int → zM → Prop} (ho : o = 8 ∨ o = 13) (ht : zK t = (8, 0)) (ht7 : 70 ≤ t) (hT : zTok T) (hA : zLok T (T.1 8 0) A) (h9 : A 0 + n < 8000) (hn : (n : Int) < (zK (o + 4)).2) (q : ∀ M' m, n < m → zSm (zPR o t) M0 M' → zCo T A m M' o t → Q 0 M') :
    ∀ (d m : Nat) {M : zM} {u : Nat × Nat × Nat × Nat}, n + 1 ≤ d + m → zSm (zPR o t) M0 M → zTc T M t → zCo T A m M o t → zX G (y_Course_reach, h + 4 + 1, sl) u 13 [(0, (2, o)), (1, (0, (n : Int))), (2, (0, (m : Int)))] [] M Q
  | 0, m, M, u, e, hM, hm, hc => B_Course_reach_13 hsl ⟨fun _ => q M m (by omega) hM hc, fun g => absurd (by omega) g⟩
  | d + 1, m, M, u, e, hM, hm, hc => by
    obtain ⟨h1, h2, h3, h4⟩ := zCo_len ho
    have hcc := hc
    obtain ⟨c3, c4, c1, cN, cl, cr⟩ := hcc
    have h41 := (zs_2 h1).2.2.2
    refine B_Course_reach_13 hsl ⟨fun g => q M m (by omega) hM hc, fun g => ⟨h1, by omega, fun g2 => absurd g2 (by omega), fun _ => ⟨by rw [c3]; exact ht, ?_⟩⟩⟩
    rw [c3]
    have hA0 := hA.1
    have hln := zln_ok hT hA (m - 1) (by omega)
    refine c_next (h := h) hsl ht (by omega) h41 hT hln.2 (by rw [hln.1]; omega) zChd_no hm cl (fun M1 hM1 hl1 => ?_)
    have e1 : znxd T (-1) 0 (zln T A (m - 1)) = zln T A m := by
      rw [znxd_own]
      show zln T A (m - 1 + 1) = _
      rw [show m - 1 + 1 = m from by omega]
    rw [e1] at hl1
    refine c_store hsl ho hT (T := T) (A := A) (m := m) (by rw [hM1 _ _ (by unfold zPC zPLn; omega)]; exact c4) (by omega) hl1 (cr.fr ho ht7 hM1) (fun M2 hM2 e4 hr2 => ⟨by unfold zI; omega, ?_⟩)
    have g2 : zSm (zPR o t) M M2 := (hM1.mono (fun _ _ p => Or.inl p)).trans (hM2.mono (fun _ _ p => Or.inr p))
    have := c_reachL (G := G) (h := h) (Q := Q) hsl ho ht ht7 hT hA h9 hn q d (m + 1) (M := M2) (u := u) (by omega) (hM.trans g2) (hm.frG hT (zPR_kp ho ht7 g2)) ⟨by rw [hM2 _ _ (by unfold zPO; omega), hM1 _ _ (by unfold zPC zPLn; omega)]; exact c3, by rw [e4, zcs], by omega, by omega, hl1.fr (hM2 _ _ (by unfold zPO; omega)) (hM2 _ _ (by unfold zPO; omega)) (fun j => hM2 _ _ (by unfold zPO; omega)), hr2⟩
    rw [zcs] at this
    exact this
