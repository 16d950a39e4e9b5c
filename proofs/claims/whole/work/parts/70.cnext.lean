theorem zmvd_ok {T : zTb} {L : Int → Int} {n c d : Int} (hT : ∀ c, 0 ≤ c → c < n → zTok1 T c) (hn : n ≤ 8) (hL : zLok T n L) (h0 : 0 ≤ c) (hc : c < n) (hd : T.1 c 0 = 0 → 1 ≤ d ∧ d ≤ T.1 c 2 - T.1 c 1) : zLok T n (zmvd T L c d) := by
  by_cases hs : T.1 c 0 = 0
  · unfold zmvd
    rw [if_pos hs]
    refine ⟨by rw [zzg_o (by omega) (by omega)]; exact hL.1, by rw [zzg_o (by omega) (by omega)]; exact hL.2.1, fun e e0 ee => ?_⟩
    by_cases hce : e = c
    · subst hce
      exact zCok_zig hs (hL.2.2 e h0 hc) (by omega) (hd hs) rfl rfl
    · rw [zzg_o (by omega) (by omega), zzg_o (by omega) (by omega)]
      exact hL.2.2 e e0 ee
  · unfold zmvd
    rw [if_neg hs]
    exact zmv_ok hT hn hL h0 hc
/-- a line on, the zig ch by d in place of its own difference -/
def znkd (T : zTb) (ch d : Int) (L : Int → Int) : Nat → Int → Int
  | 0 => zup L 0 (L 0 + 1)
  | k + 1 => zmvd T (znkd T ch d L k) k (if (k : Int) = ch then d else T.1 k 5)
def znxd (T : zTb) (ch d : Int) (L : Int → Int) : Int → Int := znkd T ch d L (T.1 8 0).toNat
theorem znkd_own (T : zTb) (d : Int) (L : Int → Int) : ∀ k : Nat, znkd T (-1) d L k = znk T L k
  | 0 => rfl
  | k + 1 => by
    show zmvd T (znkd T (-1) d L k) k (if (k : Int) = -1 then d else T.1 k 5) = zmv T (znk T L k) k
    rw [znkd_own T d L k, if_neg (by omega), zmvd_own]
theorem znxd_own (T : zTb) (d : Int) (L : Int → Int) : znxd T (-1) d L = znx T L := znkd_own T d L _
def zChd (T : zTb) (ch d : Int) : Prop := ∀ c, 0 ≤ c → c < T.1 8 0 → c = ch → T.1 c 0 = 0 ∧ 1 ≤ d ∧ d ≤ T.1 c 2 - T.1 c 1
theorem zChd_d {T : zTb} {ch d : Int} (hT : zTok T) (h : zChd T ch d) {k : Int} (k0 : 0 ≤ k) (kn : k < T.1 8 0) : T.1 k 0 = 0 → 1 ≤ (if k = ch then d else T.1 k 5) ∧ (if k = ch then d else T.1 k 5) ≤ T.1 k 2 - T.1 k 1 := fun hs => by
  split
  · rename_i g
    exact (h k k0 kn g).2
  · have := hT.2.2.2.2.2.2.2 k k0 kn
    unfold zTok1 at this
    omega
theorem znkd_ok {T : zTb} {ch d : Int} {L : Int → Int} (hT : zTok T) (hL : zLok T (T.1 8 0) L) (h9 : L 0 < 9000) (hc : zChd T ch d) : ∀ k : Nat, (k : Int) ≤ T.1 8 0 → zLok T (T.1 8 0) (znkd T ch d L k)
  | 0, _ => znk_ok hT.2.2.2.2.2.2.2 hT.2.1 hL h9 0 (by have := hT.1; omega)
  | k + 1, h => zmvd_ok hT.2.2.2.2.2.2.2 hT.2.1 (znkd_ok hT hL h9 hc k (by omega)) (by omega) (by omega) (zChd_d hT hc (by omega) (by omega))
theorem c_nextL {G : zG} {h sl : Nat} (hsl : 1 ≤ sl) {T : zTb} {t l ch d : Int} {L : Int → Int} {M0 : zM} {Q : Int → zM → Prop} (ht : zK t = (8, 0)) (hlt : l + 1 < t) (hk : zK l = (4, 0)) (hT : zTok T) (hL : zLok T (T.1 8 0) L) (h9 : L 0 < 9000) (hc : zChd T ch d) (q : ∀ M', zSm (zPC t l) M0 M' → zLc (T.1 8 0) (znxd T ch d L) M' l → Q 0 M') :
    ∀ (e k : Nat) {M : zM} {u : Nat × Nat × Nat × Nat}, e + k = (T.1 8 0).toNat → zSm (zPC t l) M0 M → zTc T M t → zLc (T.1 8 0) (znkd T ch d L k) M l → zX G (y_Tablet_next, h + 3 + 1, sl) u 13 [(0, (2, t)), (1, (2, l)), (2, (0, ch)), (3, (0, d)), (4, (0, (k : Int)))] [] M Q
  | 0, k, M, u, e, hM, hm, hl => by
    have hn := hT.1
    refine B_Tablet_next_13 hsl ⟨ht, fun _ => q M hM ?_, fun g => absurd (by rw [hm.1.1]; omega) g⟩
    unfold znxd
    rw [show (T.1 8 0).toNat = k from by omega]
    exact hl
  | e + 1, k, M, u, he, hM, hm, hl => by
    have hn := hT.1
    have hn8 := hT.2.1
    have ho := hm.2.1 k (by omega) (by omega)
    have hok := hT.2.2.2.2.2.2.2 k (by omega) (by omega)
    have hdd := zChd_d hT hc (k := k) (by omega) (by omega)
    have fin : ∀ s, s = (if (k : Int) = ch then d else T.1 k 5) → zX G (y_Tablet_next, h + 3 + 1, sl) u 46 [(0, (2, t)), (1, (2, l)), (2, (0, ch)), (3, (0, d)), (4, (0, (k : Int)))] [(0, s), (0, (k : Int)), (2, l), (2, t)] M Q := fun s es => by
      refine B_Tablet_next_46 hsl ⟨ht, c_move hsl ht hlt hk hT.2.2.2.2.2.2.2 (znkd_ok hT hL h9 hc k (by omega)) (by omega) (by omega) hT.2.1 (fun hs => ?_) ho hm.1.2.2.2.2 hl (fun M' hM' hl' => ⟨by unfold zI; omega, ?_⟩)⟩
      · have := hdd hs
        rw [← es] at this
        unfold zTok1 at hok
        omega
      · rw [es] at hl'
        have := c_nextL (G := G) (h := h) (Q := Q) hsl ht hlt hk hT hL h9 hc q e (k + 1) (M := M') (u := u) (by omega) (hM.trans hM') (hm.fr hlt hM') hl'
        rw [zcs] at this
        exact this
    refine B_Tablet_next_13 hsl ⟨ht, fun g => absurd g (by rw [hm.1.1]; omega), fun _ => ⟨fun g => ⟨⟨by omega, by omega⟩, fin _ ?_⟩, fun g => fin _ ?_⟩⟩
    · rw [if_neg g]
      exact ho.1.2.2.2.2.2.1
    · rw [if_pos (by omega)]
theorem c_next {G : zG} {h sl : Nat} (hsl : 1 ≤ sl) {T : zTb} {t l ch d : Int} {L : Int → Int} {M : zM} {Q : Int → zM → Prop} (ht : zK t = (8, 0)) (hlt : l + 1 < t) (hk : zK l = (4, 0)) (hT : zTok T) (hL : zLok T (T.1 8 0) L) (h9 : L 0 < 9000) (hc : zChd T ch d) (hm : zTc T M t) (hl : zLc (T.1 8 0) L M l) (q : ∀ M', zSm (zPC t l) M M' → zLc (T.1 8 0) (znxd T ch d L) M' l → Q 0 M') : zCt G (h + 4) sl 0 0 y_Tablet_next [(2, t), (2, l), (0, ch), (0, d)] M Q := by
  have h0 := hL.1
  have hM0 : zSm (zPC t l) M (zwr M l 1 (M l 1 + 1)) := (zSm.refl _ M).wr (Or.inl (Or.inl ⟨rfl, Or.inl rfl⟩))
  refine E_Tablet_next hsl ⟨hk, by rw [hl.1]; unfold zI; omega, ?_⟩
  refine c_nextL (M0 := M) (L := L) hsl ht hlt hk hT hL h9 hc q (T.1 8 0).toNat 0 (by omega) hM0 (hm.fr hlt hM0) ?_
  show zLc _ (zup L 0 (L 0 + 1)) _ _
  unfold zLc
  rw [zwr_s, zup_s, hl.1, zwr_k _ (by decide)]
  refine ⟨rfl, hl.2.1, fun c c0 cc => ?_⟩
  rw [zwr_o _ (by omega), zup_o _ _ (by omega), zup_o _ _ (by omega)]
  exact hl.2.2 c c0 cc
