theorem zLm.succ {k : Nat} {L : Int → Int} {M : zM} {v w : Int} (hk : k < 8) (h : zLm k L M) : zLm ((k + 1 : Nat) : Int) (zup (zup L (9 + k) w) (1 + k) v) (zwr (zwr M 164 (1 + k) v) 164 (9 + k) w) := by
  refine ⟨?_, fun c c0 cc => ?_⟩
  · rw [zwr_k _ (by omega), zwr_k _ (by omega), zup_o _ _ (by omega), zup_o _ _ (by omega)]
    exact h.1
  · by_cases q : c = k
    · subst q
      rw [zwr_k _ (by omega), zwr_s, zup_s, zwr_s, zup_o _ _ (by omega), zup_s]
      exact ⟨rfl, rfl⟩
    · have := h.2 c c0 (by omega)
      rw [zwr_k _ (by omega), zwr_k _ (by omega), zwr_k _ (by omega), zwr_k _ (by omega), zup_o _ _ (by omega), zup_o _ _ (by omega), zup_o _ _ (by omega), zup_o _ _ (by omega)]
      exact this
theorem zbk_s (T : zTb) (k : Nat) : zbk T (k + 1) = zup (zup (zbk T k) (9 + k) (T.1 k 4)) (1 + k) (if T.1 k 0 = 3 then zsm T (zbk T k) k 0 else T.1 k 3) := rfl
theorem c_beginsL {G : zG} {h sl : Nat} (hsl : 2 ≤ sl) {T : zTb} {M0 : zM} {Q : Int → zM → Prop} (hT : zTok T) (q : ∀ M', zSm zPG M0 M' → zLm (T.1 8 0) (zbg T) M' → Q 0 M') :
    ∀ (d k : Nat) {M : zM} {u : Nat × Nat × Nat × Nat}, d + k = (T.1 8 0).toNat → zSm zPG M0 M → zTm T M → zLm k (zbk T k) M → zX G (y_Md_begins, h + 4, sl) u 9 [(0, (2, 125)), (1, (0, (k : Int)))] [] M Q
  | 0, k, M, u, e, hM, hm, hl => by
    have hn := hT.1
    refine B_Md_begins_9 hsl (E_Md_columnMany hsl ?_)
    rw [hm.two]
    refine ⟨fun _ => q M hM ?_, fun g => absurd (by omega) g⟩
    have e1 : (T.1 8 0).toNat = k := by omega
    have e2 : T.1 8 0 = (k : Int) := by omega
    unfold zbg
    rw [e1, e2]
    exact hl
  | d + 1, k, M, u, e, hM, hm, hl => by
    have hn := hT.1
    have hn8 := hT.2.1
    have hk := hT.2.2.2.2.2.2.2 k (by omega) (by omega)
    have ht := hm.2.2.2.1 k (by omega) (by omega)
    obtain ⟨t0, t1, t2, t3, t4, t5, t6, t7⟩ := ht
    have hbk := (zbk_ok hT.2.2.2.2.2.2.2 hT.2.1 k (by omega)).2
    have fin : ∀ {M1 : zM} {v : Int}, zSm zPS M M1 → v = (if T.1 k 0 = 3 then zsm T (zbk T k) k 0 else T.1 k 3) → zX G (y_Md_begins, h + 4, sl) u 48 [(0, (2, 125)), (1, (0, (k : Int)))] [(0, v), (0, (1 + (k : Int))), (2, 164)] M1 Q := fun {M1 v} hM1 hv => by
      have hg : zSm zPG M (zwr M1 164 (1 + k) v) := (zPS_PG hM1).wr (by unfold zPG; omega)
      refine B_Md_begins_48 hsl ⟨by omega, by unfold zI; omega, c_fieldOf hsl (by omega) (by omega) (by decide) (by decide) ⟨by omega, by unfold zI; omega, ?_⟩⟩
      rw [hg 160 _ (by unfold zPG; omega), t5]
      have hg2 : zSm zPG M (zwr (zwr M1 164 (1 + k) v) 164 (9 + k) (T.1 k 4)) := hg.wr (by unfold zPG; omega)
      have hz : zLm ((k + 1 : Nat) : Int) (zbk T (k + 1)) (zwr (zwr M1 164 (1 + k) v) 164 (9 + k) (T.1 k 4)) := by
        rw [zbk_s, ← hv]
        exact (hl.fr (fun j => hM1 164 j (by unfold zPS; omega))).succ (by omega)
      have e1 : ((k + 1 : Nat) : Int) = (k : Int) + 1 := by omega
      have := c_beginsL (G := G) (h := h) (Q := Q) hsl hT q d (k + 1) (M := zwr (zwr M1 164 (1 + k) v) 164 (9 + k) (T.1 k 4)) (u := u) (by omega) (hM.trans hg2) (hm.fr hg2) hz
      rw [e1] at this
      exact this
    refine B_Md_begins_9 hsl (E_Md_columnMany hsl ?_)
    rw [hm.two]
    refine ⟨fun g => absurd g (by omega), fun g => ⟨by unfold zI; omega, c_sortOf hsl (by omega) (by omega) ?_⟩⟩
    rw [t0]
    refine ⟨fun g3 => c_fieldOf hsl (by omega) (by omega) (by decide) (by decide) ?_, fun g3 => ?_⟩
    · rw [t4]
      exact fin (zSm.refl _ _) (by rw [if_neg g3])
    · have hs : T.1 k 0 = 3 := by omega
      exact c_summed hsl (T := T) (n := k) (L := zbk T k) (fun e a _ b => hT.2.2.2.2.2.2.2 e a (by omega)) (by omega) (by omega) (by omega) (by omega) (hk.code (Or.inr hs)) (t7 (by omega)) hbk hl (by omega) (fun M' hh => fin hh (by rw [if_pos hs]))
theorem c_begins {G : zG} {h sl : Nat} (hsl : 2 ≤ sl) {T : zTb} {M : zM} {Q : Int → zM → Prop} (hT : zTok T) (hm : zTm T M) (q : ∀ M', zSm zPG M M' → zLm (T.1 8 0) (zbg T) M' → Q 0 M') : zCt G (h + 4) sl 0 0 y_Md_begins [(2, 125)] M Q := by
  have hM0 : zSm zPG M (zwr M 164 0 0) := (zSm.refl _ M).wr (by unfold zPG; omega)
  refine E_Md_begins hsl ?_
  exact c_beginsL (M0 := M) hsl hT q (T.1 8 0).toNat 0 (by omega) hM0 (hm.fr hM0) ⟨zwr_s _ _ _ _, fun c c0 cc => absurd cc (by omega)⟩
