def zmvd (T : zTb) (L : Int → Int) (c d : Int) : Int → Int := if T.1 c 0 = 0 then zzg (T.1 c 1) (T.1 c 2) d L c else zmv T L c
theorem zmvd_own (T : zTb) (L : Int → Int) (c : Int) : zmvd T L c (T.1 c 5) = zmv T L c := by
  unfold zmvd zmv
  split <;> rfl
theorem zPLn_PC {t l : Int} {M M' : zM} (h : zSm (zPLn l) M M') : zSm (zPC t l) M M' := h.mono (fun _ _ p => Or.inl p)
theorem c_runT {G : zG} {h sl : Nat} (hsl : 1 ≤ sl) {T : zTb} {t l c n k prev : Int} {pv ty : Bool} {L : Int → Int} {M : zM} {Q : Int → zM → Prop} (ht : zK t = (8, 0)) (hlt : l + 1 < t) (hk : zK l = (4, 0)) (hT : ∀ c, 0 ≤ c → c < n → zTok1 T c) (hn : n ≤ 8) (hkn : k ≤ n) (hz : zty (zokT k pv) (T.2 c) [] = some [ty]) {f e : Int} (hc : zTcC T M t c f e) (hm : M (t + 2) 2 ≤ 1600) (hL : zLok T n L) (hl : zLc n L M l) (h8 : M t 8 = l) (h9 : pv = true → M t 9 = prev) (hp : pv = true → -1000000 ≤ prev ∧ prev ≤ 1000000) (q : ∀ M', zSm (fun a _ => a = t + 4) M M' → Q (zval (zEn L prev) (T.2 c)) M') : zCt G (h + 2) sl 0 0 y_Code_run [(2, t + 2), (0, f), (0, e), (2, t)] M Q := by
  have hco := (zs_8 ht).2.2
  obtain ⟨c1, c2, c3, c4⟩ := hc
  have e4 : t + 2 + 2 = t + 4 := by omega
  have e3 : t + 2 + 1 = t + 3 := by omega
  refine c_run hsl (q := false) hco (zEn_ok (k := k) (pv := pv) hT hL hkn hp) (fun v a b hv => ?_) (fun M' hM' => ?_) c3 hm c1 c2 (by rw [e3]; exact c4) hz (fun M' hM' => q M' (by rw [e4] at hM'; exact hM'))
  · rw [zokT_ok] at hv
    unfold zix
    split
    · omega
    · rw [if_neg (by decide)]
      split <;> omega
  · rw [e4] at hM'
    refine zScn_T hsl ht hk (l := l) (by rw [hM' _ _ (by omega)]; exact h8) (fun g => by rw [hM' _ _ (by omega)]; exact h9 g) hkn hn (hl.fr (hM' _ _ (by omega)) (hM' _ _ (by omega)) (fun j => hM' _ _ (by omega)))
theorem c_move {G : zG} {h sl : Nat} (hsl : 1 ≤ sl) {T : zTb} {t l c d n : Int} {L : Int → Int} {M : zM} {Q : Int → zM → Prop} (ht : zK t = (8, 0)) (hlt : l + 1 < t) (hk : zK l = (4, 0)) (hT : ∀ c, 0 ≤ c → c < n → zTok1 T c) (hL : zLok T n L) (c0 : 0 ≤ c) (hc : c < n) (hn : n ≤ 8) (hd : T.1 c 0 = 0 → -1000 ≤ d ∧ d ≤ 1000) (ho : zTc1 T M t c) (hm : M (t + 2) 2 ≤ 1600) (hl : zLc n L M l) (q : ∀ M', zSm (zPC t l) M M' → zLc n (zmvd T L c d) M' l → Q 0 M') : zCt G (h + 3) sl 0 0 y_Tablet_move [(2, t), (2, l), (0, c), (0, d)] M Q := by
  have hok := hT c c0 hc
  have hcok := hL.2.2 c c0 hc
  have hin := hcok.in hok
  have hval := (hl.2.2 c c0 hc).1
  have hkc := (zs_cols ht c0 (by omega)).2
  obtain ⟨⟨a1, a2, a3, a4, a5, a6, a7, a8⟩, b, _⟩ := ho
  have hsort : 0 ≤ T.1 c 0 ∧ T.1 c 0 ≤ 3 := by unfold zTok1 at hok; omega
  refine E_Tablet_move hsl ⟨ht, ⟨c0, by omega⟩, hk, ?_⟩
  rw [a1]
  refine ⟨fun g0 => ⟨fun g1 => ?_, fun g1 => ?_⟩, fun g0 => ?_⟩
  · have hM1 : zSm (zPC t l) M (zwr (zwr M t 8 l) t 9 (M (l + 1) c)) := ((zSm.refl _ M).wr (Or.inr (Or.inl ⟨rfl, Or.inl rfl⟩))).wr (Or.inr (Or.inl ⟨rfl, Or.inr rfl⟩))
    have ec : ∀ j, (zwr (zwr M t 8 l) t 9 (M (l + 1) c)) (t + 7 + 2 * c) j = M (t + 7 + 2 * c) j := fun j => by rw [zwr_o _ (by omega), zwr_o _ (by omega)]
    have el : ∀ a j, a < t → (zwr (zwr M t 8 l) t 9 (M (l + 1) c)) a j = M a j := fun a j ha => by rw [zwr_o _ (by omega), zwr_o _ (by omega)]
    rw [ec, ec]
    have hgo : ∀ M', zSm (fun a _ => a = t + 4) (zwr (zwr M t 8 l) t 9 (M (l + 1) c)) M' → zSm (zPC t l) M M' ∧ zLc n L M' l ∧ M' (t + 7 + 2 * c) 3 = T.1 c 2 ∧ M' (t + 7 + 2 * c) 1 = T.1 c 0 := fun M' hM' => by
      have e5 : ∀ a j, a < t → M' a j = M a j := fun a j ha => by rw [hM' a j (by omega), el a j ha]
      exact ⟨hM1.trans (hM'.mono (fun _ _ p => Or.inr (Or.inr p))), hl.fr (e5 _ _ (by omega)) (e5 _ _ (by omega)) (fun j => e5 _ _ (by omega)), by rw [hM' _ _ (by omega), ec]; exact a3, by rw [hM' _ _ (by omega), ec]; exact a1⟩
    refine c_runT (T := T) (c := c) (k := c) (n := n) (prev := L (1 + c)) (pv := true) (L := L) hsl ht hlt hk hT hn (by omega) (hok.code (by omega)) ((b (by omega)).fr hlt hM1) (by rw [hM1 _ _ (by unfold zPC zPLn; omega)]; exact hm) hL (hl.fr (el _ _ (by omega)) (el _ _ (by omega)) (fun j => el _ _ (by omega))) (by rw [zwr_k _ (by decide), zwr_s]) (fun _ => by rw [zwr_s]; exact hval) (fun _ => hin) (fun M' hM' => ?_)
    obtain ⟨gm, gl, g3, gs⟩ := hgo M' hM'
    have hsum := zsm_in (prev := L (1 + c)) hT hL c0 hc (by omega : T.1 c 0 = 2 ∨ T.1 c 0 = 3) hin
    rw [g3, gs, hval]
    refine ⟨by unfold zTok1 at hok; unfold zI; omega, fun g2 => ?_, fun g2 => ⟨fun g4 => ?_, fun g4 => ?_⟩⟩
    · refine B_Tablet_move_114 hsl ⟨hk, fun _ => ⟨⟨c0, by omega⟩, q _ (gm.wr (Or.inl (Or.inr rfl))) ?_⟩, fun n => absurd rfl n⟩
      unfold zmvd zmv
      rw [if_neg g0, if_neg g0, if_neg g1, if_neg g2]
      exact gl.val (by omega) c0
    · unfold zTok1 at hok
      omega
    · refine B_Tablet_move_114 hsl ⟨hk, fun n => absurd n (by decide), fun _ => ⟨?_, ?_⟩⟩
      · have : -1000000 ≤ zval (zEn L (L (1 + c))) (T.2 c) ∧ zval (zEn L (L (1 + c))) (T.2 c) ≤ 1000000 := hsum
        unfold zI
        omega
      · have hs : -1000000 ≤ zval (zEn L (L (1 + c))) (T.2 c) ∧ zval (zEn L (L (1 + c))) (T.2 c) ≤ 1000000 := hsum
        refine c_floorMod hsl (by unfold zI; omega) (by unfold zTok1 at hok; unfold zI; omega) (by unfold zTok1 at hok; omega) ⟨⟨c0, by omega⟩, q _ (gm.wr (Or.inl (Or.inr rfl))) ?_⟩
        unfold zmvd zmv
        rw [if_neg g0, if_neg g0, if_neg g1, if_pos (by omega)]
        exact gl.val (by omega) c0
  · have hs : T.1 c 0 = 1 := by omega
    unfold zCok at hcok
    rw [if_neg (by omega)] at hcok
    unfold zTok1 at hok
    rw [hval]
    refine c_arcBehind hsl hkc (by omega) (by omega) (by omega) (by omega) (by omega) (by omega) (by omega) (by omega) (by omega) (by omega) (q _ ((zSm.refl _ M).wr (Or.inl (Or.inr rfl))) ?_)
    unfold zmvd zmv
    rw [if_neg g0, if_neg g0, if_pos hs, a3, a6, a7, a8]
    exact hl.val (by omega) c0
  · have hs : T.1 c 0 = 0 := by omega
    unfold zTok1 at hok
    refine c_moveZig (h := h + 1) hsl ht hk c0 (by omega) hc hn hl (hd hs) (by omega) (by omega) (by omega) hin (fun M' hM' hl' => q M' (zPLn_PC hM') ?_)
    unfold zmvd
    rw [if_pos hs, ← a2, ← a3]
    exact hl'
