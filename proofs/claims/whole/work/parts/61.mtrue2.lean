/-- what is true, line by line, as far as it is laid -/
def ztr (T : zTb) (k : Nat) : Int → Int := zln T (zbg T) k
def zTru (T : zTb) (m : Nat) (M : zM) : Prop := ∀ k : Nat, k < m → ∀ c, 0 ≤ c → c < T.1 8 0 → M 165 (8 * k + c) = ztr T k (1 + c) ∧ M 166 (8 * k + c) = ztr T k (9 + c)
def zPL : Int → Int → Prop := fun a k => zPG a k ∨ a = 165 ∨ a = 166
theorem zPG_PL {M M' : zM} (h : zSm zPG M M') : zSm zPL M M' := h.mono (fun _ _ p => Or.inl p)
theorem zTm.frL {T : zTb} {M M' : zM} (hm : zSm zPL M M') (h : zTm T M) : zTm T M' := by
  obtain ⟨a, b, d, f, g⟩ := h
  unfold zTm
  rw [hm 158 2 (by unfold zPL zPG; omega), hm 158 3 (by unfold zPL zPG; omega), hm 125 52 (by unfold zPL zPG; omega)]
  exact ⟨a, b, d, fun c h0 hc => (f c h0 hc).fr (fun a k h1 h2 => hm a k (by unfold zPL zPG; omega)), fun q => (g q).fr (fun a k h1 h2 => hm a k (by unfold zPL zPG; omega))⟩
theorem c_laysTrueI {G : zG} {h sl : Nat} (hsl : 2 ≤ sl) {T : zTb} {l : Nat} {L : Int → Int} {M0 : zM} {Q : Int → zM → Prop} (hT : zTok T) (hl9 : l ≤ 999) (he : L = ztr T l)
    (go : ∀ M u, zSm zPL M0 M → zTm T M → zTru T (l + 1) M → zLm (T.1 8 0) L M → zX G (y_Md_laysTrue, h + 1, sl) u 15 [(0, (2, 125)), (1, (0, (l : Int))), (2, (0, 8))] [] M Q) :
    ∀ (d k : Nat) {M : zM} {u : Nat × Nat × Nat × Nat}, d + k = 8 → zSm zPL M0 M → zTm T M → zTru T l M → (∀ c : Int, 0 ≤ c → c < (k : Int) → c < T.1 8 0 → M 165 (8 * l + c) = L (1 + c) ∧ M 166 (8 * l + c) = L (9 + c)) → zLm (T.1 8 0) L M → zX G (y_Md_laysTrue, h + 1, sl) u 15 [(0, (2, 125)), (1, (0, (l : Int))), (2, (0, (k : Int)))] [] M Q
  | 0, k, M, u, e, hM, hm, ht, hr, hl => by
    have : k = 8 := by omega
    subst this
    have hn8 := hT.2.1
    refine go M u hM hm (fun j hj c c0 cc => ?_) hl
    by_cases q : j = l
    · subst q
      rw [← he]
      exact hr c c0 (by omega) cc
    · exact ht j (by omega) c c0 cc
  | d + 1, k, M, u, e, hM, hm, ht, hr, hl => by
    have hn8 := hT.2.1
    refine B_Md_laysTrue_15 hsl ⟨fun g => absurd g (by omega), fun _ => ⟨by unfold zI; omega, by unfold zI; omega, by unfold zI; omega, by omega, by omega, by unfold zI; omega, by omega, by unfold zI; omega, ?_⟩⟩
    have hg : ∀ v w, zSm zPL M (zwr (zwr M 165 (8 * l + k) v) 166 (8 * l + k) w) := fun v w => ((zSm.refl _ M).wr (Or.inr (Or.inl rfl))).wr (Or.inr (Or.inr rfl))
    have := c_laysTrueI (G := G) (h := h) (Q := Q) hsl hT hl9 he go d (k + 1) (M := zwr (zwr M 165 (8 * l + k) (M 164 (1 + k))) 166 (8 * l + k) ((zwr M 165 (8 * l + k) (M 164 (1 + k))) 164 (9 + k))) (u := u) (by omega) (hM.trans (hg _ _)) (hm.frL (hg _ _)) (fun j hj c c0 cc => ?_) (fun c c0 ck cc => ?_) (hl.fr (fun j => by rw [zwr_o _ (by decide), zwr_o _ (by decide)]))
    · rw [show ((k + 1 : Nat) : Int) = (k : Int) + 1 from by omega] at this
      exact this
    · rw [zwr_o _ (by decide), zwr_k _ (by omega), zwr_k _ (by omega), zwr_o _ (by decide)]
      exact ht j hj c c0 cc
    · by_cases q : c = k
      · subst q
        rw [zwr_o _ (by decide), zwr_s, zwr_s, zwr_o _ (by decide)]
        exact hl.2 _ (by omega) cc
      · rw [zwr_o _ (by decide), zwr_k _ (by omega), zwr_k _ (by omega), zwr_o _ (by decide)]
        exact hr c c0 (by omega) cc
