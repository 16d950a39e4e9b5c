theorem c_laysTrueL {G : zG} {h sl : Nat} (hsl : 2 ≤ sl) {T : zTb} {M0 : zM} {Q : Int → zM → Prop} (hT : zTok T) (q : ∀ M', zSm zPL M0 M' → zTru T 1000 M' → Q 0 M') :
    ∀ (d l : Nat) {M : zM} {u : Nat × Nat × Nat × Nat}, d + l = 1000 → zSm zPL M0 M → zTm T M → zTru T l M → zLm (T.1 8 0) (ztr T l) M → zX G (y_Md_laysTrue, h + 5 + 1, sl) u 6 [(0, (2, 125)), (1, (0, (l : Int)))] [] M Q
  | 0, l, M, u, e, hM, hm, ht, hl => by
    have : l = 1000 := by omega
    subst this
    exact B_Md_laysTrue_6 hsl ⟨fun _ => q M hM ht, fun g => absurd (by omega) g⟩
  | d + 1, l, M, u, e, hM, hm, ht, hl => by
    have hb := zbg_ok hT
    have hlo := zln_ok hT hb.2 l (by omega)
    refine B_Md_laysTrue_6 hsl ⟨fun g => absurd g (by omega), fun _ => ?_⟩
    refine c_laysTrueI (M0 := M0) hsl hT (by omega) (L := ztr T l) rfl (fun M1 u1 hM1 hm1 ht1 hl1 => ?_) 8 0 (by omega) hM hm ht (fun c c0 ck _ => absurd ck (by omega)) hl
    refine B_Md_laysTrue_15 hsl ⟨fun _ => c_lineGoes hsl hT hlo.2 (by rw [hlo.1, hb.1]; omega) hm1 hl1 (fun M2 hM2 hl2 => ⟨by unfold zI; omega, ?_⟩), fun g => absurd (by decide) g⟩
    have := c_laysTrueL (G := G) (h := h) (Q := Q) hsl hT q d (l + 1) (M := M2) (u := u1) (by omega) (hM1.trans (zPG_PL hM2)) (hm1.fr hM2) (fun j hj c c0 cc => ?_) hl2
    · rw [show ((l + 1 : Nat) : Int) = (l : Int) + 1 from by omega] at this
      exact this
    · rw [hM2 165 _ (by unfold zPG; omega), hM2 166 _ (by unfold zPG; omega)]
      exact ht1 j hj c c0 cc
theorem c_laysTrue {G : zG} {h sl : Nat} (hsl : 2 ≤ sl) {T : zTb} {M : zM} {Q : Int → zM → Prop} (hT : zTok T) (hm : zTm T M) (q : ∀ M', zSm zPL M M' → zTru T 1000 M' → Q 0 M') : zCt G (h + 6) sl 0 0 y_Md_laysTrue [(2, 125)] M Q := by
  refine E_Md_laysTrue hsl (c_begins (h := h + 1) hsl hT hm (fun M1 h1 hl1 => ?_))
  exact c_laysTrueL (M0 := M) hsl hT q (1000 - 0) 0 (by omega) (zPG_PL h1) (hm.fr h1) (fun j hj => absurd hj (by omega)) hl1
