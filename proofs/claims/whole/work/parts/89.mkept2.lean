theorem zKm_end {N x y : Int} {kl ku : Int → Int} {M : zM} (h0 : 0 ≤ N) (e17 : M 164 17 = zkt4 (N + 1)) (hr : ∀ k : Int, 0 ≤ k → k < zkt4 (N + 1) - 1 → M 164 (18 + 2 * k) = kl (N + 1 - zkt4 (N + 1) + k) ∧ M 164 (19 + 2 * k) = ku (N + 1 - zkt4 (N + 1) + k)) (ex : M 164 (18 + 2 * (zkt4 (N + 1) - 1)) = x) (ey : M 164 (19 + 2 * (zkt4 (N + 1) - 1)) = y) : zKm (N + 1) (zup kl N x) (zup ku N y) M := by
  refine ⟨e17, fun k k0 kn => ?_⟩
  by_cases c : k = zkt4 (N + 1) - 1
  · subst c
    rw [show N + 1 - zkt4 (N + 1) + (zkt4 (N + 1) - 1) = N from by omega, zup_s, zup_s]
    exact ⟨ex, ey⟩
  · rw [zup_o _ _ (by omega), zup_o _ _ (by omega)]
    exact hr k k0 (by omega)
theorem c_isKeptE {G : zG} {h sl : Nat} (hsl : 2 ≤ sl) {T : zTb} {L : Int → Int} {N : Int} {kl ku : Int → Int} {M : zM} {u : Nat × Nat × Nat × Nat} {Q : Int → zM → Prop} (h0 : 0 ≤ N) (hT : zTok T) (hm : zTm T M) (hl : zLm (T.1 8 0) L M) (ht : zTru T 1000 M) (hn : 0 ≤ L 0 ∧ L 0 ≤ 999) (e17 : M 164 17 = zkt4 (N + 1)) (hr : ∀ k : Int, 0 ≤ k → k < zkt4 (N + 1) - 1 → M 164 (18 + 2 * k) = kl (N + 1 - zkt4 (N + 1) + k) ∧ M 164 (19 + 2 * k) = ku (N + 1 - zkt4 (N + 1) + k)) (q : ∀ M', zSm zPk M M' → zKm (N + 1) (zup kl N (L 0)) (zup ku N (zwm T L)) M' → Q 0 M') : zX G (y_Md_isKept, h + 2, sl) u 55 [(0, (2, 125))] [] M Q := by
  have hz : 1 ≤ zkt4 (N + 1) ∧ zkt4 (N + 1) ≤ 40 := by unfold zkt4; split <;> omega
  refine B_Md_isKept_55 hsl ?_
  rw [e17, hl.1]
  have hn8 := hT.2.1
  have g1 : zSm (fun a k => a = 164 ∧ 17 ≤ k ∧ k < 98) M (zwr M 164 (18 + 2 * zkt4 (N + 1) - 2) (L 0)) := (zSm.refl _ M).wr (by omega)
  have hm1 : zTm T (zwr M 164 (18 + 2 * zkt4 (N + 1) - 2) (L 0)) := by
    obtain ⟨a, b, d, f, g⟩ := hm
    have e : ∀ x k, x ≠ 164 → (zwr M 164 (18 + 2 * zkt4 (N + 1) - 2) (L 0)) x k = M x k := fun x k hx => zwr_o _ hx
    unfold zTm
    rw [e 158 2 (by decide), e 158 3 (by decide), e 125 52 (by decide)]
    exact ⟨a, b, d, fun c c0 hc => (f c c0 hc).fr (fun a k h1 h2 => e a k (by omega)), fun q => (g q).fr (fun a k h1 h2 => e a k (by omega))⟩
  have hl1 : zLm (T.1 8 0) L (zwr M 164 (18 + 2 * zkt4 (N + 1) - 2) (L 0)) := ⟨by rw [zwr_k _ (by omega)]; exact hl.1, fun c c0 cn => by rw [zwr_k _ (by omega), zwr_k _ (by omega)]; exact hl.2 c c0 cn⟩
  have ht1 : zTru T 1000 (zwr M 164 (18 + 2 * zkt4 (N + 1) - 2) (L 0)) := fun k hk c c0 cn => by rw [zwr_o _ (by decide), zwr_o _ (by decide)]; exact ht k hk c c0 cn
  refine ⟨by unfold zI; omega, by unfold zI; omega, by unfold zI; omega, by omega, by unfold zI; omega, c_wrongMany hsl hT hm1 hl1 ht1 hn ⟨by omega, ?_⟩⟩
  refine q _ (g1.wr (by unfold zPk at *; omega)) (zKm_end h0 ?_ (fun k k0 kn => ?_) ?_ ?_)
  · rw [zwr_k _ (by omega), zwr_k _ (by omega)]
    exact e17
  · rw [zwr_k _ (by omega), zwr_k _ (by omega), zwr_k _ (by omega), zwr_k _ (by omega)]
    exact hr k k0 kn
  · rw [zwr_k _ (by omega), show 18 + 2 * (zkt4 (N + 1) - 1) = 18 + 2 * zkt4 (N + 1) - 2 from by omega, zwr_s]
  · rw [show 19 + 2 * (zkt4 (N + 1) - 1) = 18 + 2 * zkt4 (N + 1) - 2 + 1 from by omega, zwr_s]
theorem c_isKept {G : zG} {h sl : Nat} (hsl : 2 ≤ sl) {T : zTb} {L : Int → Int} {N : Int} {kl ku : Int → Int} {M : zM} {Q : Int → zM → Prop} (h0 : 0 ≤ N) (hT : zTok T) (hm : zTm T M) (hl : zLm (T.1 8 0) L M) (ht : zTru T 1000 M) (hn : 0 ≤ L 0 ∧ L 0 ≤ 999) (hk : zKm N kl ku M) (q : ∀ M', zSm zPk M M' → zKm (N + 1) (zup kl N (L 0)) (zup ku N (zwm T L)) M' → Q 0 M') : zCt G (h + 2) sl 0 0 y_Md_isKept [(2, 125)] M Q := by
  have hn8 := hT.2.1
  have fr : ∀ M1 : zM, zSm zPk M M1 → zTm T M1 ∧ zLm (T.1 8 0) L M1 ∧ zTru T 1000 M1 := fun M1 hM1 => by
    have e : ∀ x k, x ≠ 164 → M1 x k = M x k := fun x k hx => hM1 x k (by unfold zPk; omega)
    refine ⟨?_, ⟨by rw [hM1 _ _ (by unfold zPk; omega)]; exact hl.1, fun c c0 cn => by rw [hM1 _ _ (by unfold zPk; omega), hM1 _ _ (by unfold zPk; omega)]; exact hl.2 c c0 cn⟩, fun k hk c c0 cn => by rw [e _ _ (by decide), e _ _ (by decide)]; exact ht k hk c c0 cn⟩
    obtain ⟨a, b, d, f, g⟩ := hm
    unfold zTm
    rw [e 158 2 (by decide), e 158 3 (by decide), e 125 52 (by decide)]
    exact ⟨a, b, d, fun c c0 hc => (f c c0 hc).fr (fun a k h1 h2 => e a k (by omega)), fun q => (g q).fr (fun a k h1 h2 => e a k (by omega))⟩
  refine E_Md_isKept hsl ⟨fun g => ?_, fun g => ?_⟩
  · rw [hk.1] at g ⊢
    have hz : zkt4 N = N ∧ N < 40 := by unfold zkt4 at g ⊢; split at g <;> (split <;> omega)
    have hz1 : zkt4 (N + 1) = N + 1 := by unfold zkt4; split <;> omega
    have g1 : zSm zPk M (zwr M 164 17 (zkt4 N + 1)) := (zSm.refl _ M).wr (by unfold zPk; omega)
    obtain ⟨f1, f2, f3⟩ := fr _ g1
    refine ⟨by unfold zI; omega, c_isKeptE hsl h0 hT f1 f2 f3 hn (N := N) (kl := kl) (ku := ku) (by rw [zwr_s]; omega) (fun k k0 kn => ?_) (fun M' hM' hk' => q M' (g1.trans hM') hk')⟩
    rw [zwr_k _ (by omega), zwr_k _ (by omega)]
    have := hk.2 k k0 (by omega)
    rw [hz.1] at this
    rw [hz1, show N + 1 - (N + 1) + k = N - N + k from by omega]
    exact this
  · rw [hk.1] at g
    have hz : zkt4 N = 40 ∧ 40 ≤ N := by unfold zkt4 at g ⊢; split at g <;> (split <;> omega)
    have hz1 : zkt4 (N + 1) = 40 := by unfold zkt4; split <;> omega
    refine c_isKeptS (M0 := M) (h := h + 1) hsl (fun M1 u hM1 hr1 => ?_) 78 18 rfl (by decide) (zSm.refl _ _) (fun i a b => absurd a (by omega)) (fun i _ => rfl)
    have g1 : zSm zPk M M1 := hM1.mono (fun a k p => by unfold zPk; omega)
    obtain ⟨f1, f2, f3⟩ := fr _ g1
    refine c_isKeptE hsl h0 hT f1 f2 f3 hn (N := N) (kl := kl) (ku := ku) (by rw [hM1 _ _ (by omega), hk.1]; omega) (fun k k0 kn => ?_) (fun M' hM' hk' => q M' (g1.trans hM') hk')
    have := hk.2 (k + 1) (by omega) (by omega)
    rw [hr1 _ (by omega) (by omega), hr1 _ (by omega) (by omega), show 18 + 2 * k + 2 = 18 + 2 * (k + 1) from by omega, show 19 + 2 * k + 2 = 19 + 2 * (k + 1) from by omega, show N + 1 - zkt4 (N + 1) + k = N - zkt4 N + (k + 1) from by omega]
    exact this
