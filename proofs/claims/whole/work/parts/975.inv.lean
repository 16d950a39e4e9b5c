/-! THE STATE OF BOTH SIDES: what the class holds, what the Model holds, what is true of it. -/
def zJc (T : zTb) (L : Int → Int) (t : Int) (K : zKp3) (R : Int → Int → Int) (ac j rm : Int) (w : Int → Int) (n : Int) (B Rf : Int → Int) (pl : Int) (P : Int → Int) (x f p : Int) (M : zM) : Prop :=
  (zCk T L t M ∧ M 1 12 = 181 - t) ∧ zHc T K R ac j M ∧ zPc T rm w M ∧ zTp n B M ∧ zAr M 78 6 Rf ∧ (M 1 13 = pl ∧ zAr M 77 pl P) ∧ M 1 16 = x ∧ M 1 14 = f ∧ M 1 15 = p
def zJm (T : zTb) (L : Int → Int) (K : zKp3) (R : Int → Int → Int) (ac j rm : Int) (w : Int → Int) (n : Int) (B Rf : Int → Int) (pl : Int) (P : Int → Int) (x f p : Int) (M : zM) : Prop :=
  (zMk T L M ∧ zNm T M) ∧ zHm T K R ac j M ∧ zPm rm w M ∧ zTq n B M ∧ zAr M 127 6 Rf ∧ (M 125 100 = pl ∧ zAr M 196 pl P) ∧ M 125 68 = x ∧ M 125 7 = f ∧ M 125 8 = p
def zJp (N : Int) (T : zTb) (L : Int → Int) (K : zKp3) (R : Int → Int → Int) (ac j rm : Int) (w : Int → Int) (n : Int) (B Rf : Int → Int) (pl x : Int) : Prop :=
  zPu T L ∧ zHp T L K R ac j ∧ zRw T rm w ∧ zBt n B ∧ (∀ k : Int, 0 ≤ k → k < 6 → 0 ≤ Rf k ∧ Rf k ≤ N) ∧ pl ≤ 35 ∧ (0 ≤ x ∧ x < 2147483648) ∧ N ≤ 90000
def zIv (N : Int) (M : zM) : Prop := ∃ (T : zTb) (L : Int → Int) (t : Int) (K : zKp3) (R : Int → Int → Int) (ac j rm : Int) (w : Int → Int) (n : Int) (B Rf : Int → Int) (pl : Int) (P : Int → Int) (x f p : Int),
  zJp N T L K R ac j rm w n B Rf pl x ∧ zJc T L t K R ac j rm w n B Rf pl P x f p M ∧ zJm T L K R ac j rm w n B Rf pl P x f p M
section
variable {N : Int} {T : zTb} {L : Int → Int} {t : Int} {K : zKp3} {R : Int → Int → Int} {ac j rm : Int} {w : Int → Int} {n : Int} {B Rf : Int → Int} {pl : Int} {P : Int → Int} {x f p : Int} {M M' : zM}
theorem zJp.up (h : zJp N T L K R ac j rm w n B Rf pl x) (hN : N + 1 ≤ 90000) : zJp (N + 1) T L K R ac j rm w n B Rf pl x :=
  ⟨h.1, h.2.1, h.2.2.1, h.2.2.2.1, fun k k0 k6 => by have := h.2.2.2.2.1 k k0 k6; omega, h.2.2.2.2.2.1, h.2.2.2.2.2.2.1, hN⟩
theorem zJp.rf (h : zJp N T L K R ac j rm w n B Rf pl x) {i : Int} (i0 : 0 ≤ i) (i6 : i < 6) : 0 ≤ Rf i ∧ Rf i ≤ 100000 := by
  have := h.2.2.2.2.1 i i0 i6
  have := h.2.2.2.2.2.2.2
  omega
theorem zJp.inc (h : zJp N T L K R ac j rm w n B Rf pl x) (hN : N + 1 ≤ 90000) {i : Int} (i0 : 0 ≤ i) (i6 : i < 6) : zJp (N + 1) T L K R ac j rm w n B (zup Rf i (Rf i + 1)) pl x :=
  ⟨h.1, h.2.1, h.2.2.1, h.2.2.2.1, fun k k0 k6 => by
    have a := h.2.2.2.2.1 k k0 k6
    by_cases c : k = i
    · subst c
      rw [zup_s]; omega
    · rw [zup_o _ _ c]; omega, h.2.2.2.2.2.1, h.2.2.2.2.2.2.1, hN⟩
theorem zNm.fr (e : ∀ k, 8 ≤ k → M' 159 k = M 159 k) (h : zNm T M) : zNm T M' := fun c c0 cn => by rw [e _ (by omega)]; exact h c c0 cn
theorem zTp.fr (e : ∀ a k, a = 2 ∧ k = 1 ∨ a = 3 → M' a k = M a k) (h : zTp n B M) : zTp n B M' := ⟨by rw [e _ _ (by omega)]; exact h.1, h.2.fr (fun k => e _ _ (by omega))⟩
theorem zTq.fr (e : ∀ a k, a = 125 ∧ k = 1 ∨ a = 126 → M' a k = M a k) (h : zTq n B M) : zTq n B M' := ⟨by rw [e _ _ (by omega)]; exact h.1, h.2.fr (fun k => e _ _ (by omega))⟩
/-- the class's half stays -/
theorem zJc.fr (hT : zTok T) (e : ∀ a k, 1 ≤ a → a ≤ 124 → M' a k = M a k) (h : zJc T L t K R ac j rm w n B Rf pl P x f p M) : zJc T L t K R ac j rm w n B Rf pl P x f p M' := by
  obtain ⟨⟨a1, a2⟩, b, c, d, g, ⟨i1, i2⟩, k1, k2, k3⟩ := h
  have ht := a1.1
  refine ⟨⟨a1.fr hT (fun a k q => e a k (by unfold zdCk at q; omega) (by unfold zdCk at q; omega)), by rw [e _ _ (by decide) (by decide)]; exact a2⟩, b.fr (fun a k q => e a k (by unfold zdHc at q; omega) (by unfold zdHc at q; omega)), c.fr (fun a k q => e a k (by unfold zdPc at q; omega) (by unfold zdPc at q; omega)), d.fr (fun a k q => e a k (by omega) (by omega)), g.fr (fun k => e _ _ (by decide) (by decide)), ⟨by rw [e _ _ (by decide) (by decide)]; exact i1, i2.fr (fun k => e _ _ (by decide) (by decide))⟩, by rw [e _ _ (by decide) (by decide)]; exact k1, by rw [e _ _ (by decide) (by decide)]; exact k2, by rw [e _ _ (by decide) (by decide)]; exact k3⟩
theorem zJm.fr (hT : zTok T) (e : ∀ a k, 125 ≤ a → M' a k = M a k) (h : zJm T L K R ac j rm w n B Rf pl P x f p M) : zJm T L K R ac j rm w n B Rf pl P x f p M' := by
  obtain ⟨⟨a1, a2⟩, b, c, d, g, ⟨i1, i2⟩, k1, k2, k3⟩ := h
  refine ⟨⟨a1.fr hT (fun a k q => e a k (by unfold zdMk at q; omega)), a2.fr (fun k _ => e _ _ (by decide))⟩, b.fr (fun a k q => e a k (by unfold zdHm at q; omega)), c.fr (e _ _ (by decide)) (fun k => e _ _ (by decide)), d.fr (fun a k q => e a k (by omega)), g.fr (fun k => e _ _ (by decide)), ⟨by rw [e _ _ (by decide)]; exact i1, i2.fr (fun k => e _ _ (by decide))⟩, by rw [e _ _ (by decide)]; exact k1, by rw [e _ _ (by decide)]; exact k2, by rw [e _ _ (by decide)]; exact k3⟩
/-- what questions leave alone -/
def zdJ : Int → Int → Prop := fun a k => a = 1 ∧ 12 ≤ k ∧ k ≤ 16 ∨ a = 2 ∧ k = 1 ∨ a = 3 ∨ 18 ≤ a ∧ a ≤ 20 ∨ 22 ≤ a ∧ a ≤ 62 ∨ a = 63 ∧ 8 ≤ k ∧ k ≤ 16 ∨ 66 ≤ a ∧ a ≤ 71 ∨ a = 77 ∨ a = 78
theorem zJc.q (h : zJc T L t K R ac j rm w n B Rf pl P x f p M) (hC : zCk T L t M') (e : ∀ a k, zdJ a k → M' a k = M a k) : zJc T L t K R ac j rm w n B Rf pl P x f p M' := by
  obtain ⟨⟨a1, a2⟩, b, c, d, g, ⟨i1, i2⟩, k1, k2, k3⟩ := h
  refine ⟨⟨hC, by rw [e _ _ (by unfold zdJ; omega)]; exact a2⟩, b.fr (fun a k q => e a k (by unfold zdHc at q; unfold zdJ; omega)), c.fr (fun a k q => e a k (by unfold zdPc at q; unfold zdJ; omega)), d.fr (fun a k q => e a k (by unfold zdJ; omega)), g.fr (fun k => e _ _ (by unfold zdJ; omega)), ⟨by rw [e _ _ (by unfold zdJ; omega)]; exact i1, i2.fr (fun k => e _ _ (by unfold zdJ; omega))⟩, by rw [e _ _ (by unfold zdJ; omega)]; exact k1, by rw [e _ _ (by unfold zdJ; omega)]; exact k2, by rw [e _ _ (by unfold zdJ; omega)]; exact k3⟩
def zdN : Int → Int → Prop := fun a k => a = 125 ∧ (k = 1 ∨ k = 7 ∨ k = 8 ∨ k = 62 ∨ k = 66 ∨ k = 67 ∨ k = 68 ∨ k = 100) ∨ a = 126 ∨ a = 127 ∨ a = 159 ∧ 8 ≤ k ∨ a = 164 ∧ 17 ≤ k ∨ a = 170 ∨ a = 172 ∨ a = 196
theorem zJm.q (h : zJm T L K R ac j rm w n B Rf pl P x f p M) (hC : zMk T L M') (e : ∀ a k, zdN a k → M' a k = M a k) : zJm T L K R ac j rm w n B Rf pl P x f p M' := by
  obtain ⟨⟨a1, a2⟩, b, c, d, g, ⟨i1, i2⟩, k1, k2, k3⟩ := h
  refine ⟨⟨hC, a2.fr (fun k q => e _ _ (by unfold zdN; omega))⟩, b.fr (fun a k q => e a k (by unfold zdHm at q; unfold zdN; omega)), c.fr (e _ _ (by unfold zdN; omega)) (fun k => e _ _ (by unfold zdN; omega)), d.fr (fun a k q => e a k (by unfold zdN; omega)), g.fr (fun k => e _ _ (by unfold zdN; omega)), ⟨by rw [e _ _ (by unfold zdN; omega)]; exact i1, i2.fr (fun k => e _ _ (by unfold zdN; omega))⟩, by rw [e _ _ (by unfold zdN; omega)]; exact k1, by rw [e _ _ (by unfold zdN; omega)]; exact k2, by rw [e _ _ (by unfold zdN; omega)]; exact k3⟩
/-- a refusal is counted -/
theorem zJc.ref (hT : zTok T) (h : zJc T L t K R ac j rm w n B Rf pl P x f p M) {Rf' : Int → Int} (e : zSm (zPrf 78) M M') (hR : zAr M' 78 6 Rf') : zJc T L t K R ac j rm w n B Rf' pl P x f p M' := by
  obtain ⟨⟨a1, a2⟩, b, c, d, g, ⟨i1, i2⟩, k1, k2, k3⟩ := h
  have ht := a1.1
  have e : ∀ a k, a ≠ 78 → M' a k = M a k := fun a k q => e a k q
  refine ⟨⟨a1.fr hT (fun a k q => e a k (by unfold zdCk at q; omega)), by rw [e _ _ (by decide)]; exact a2⟩, b.fr (fun a k q => e a k (by unfold zdHc at q; omega)), c.fr (fun a k q => e a k (by unfold zdPc at q; omega)), d.fr (fun a k q => e a k (by omega)), hR, ⟨by rw [e _ _ (by decide)]; exact i1, i2.fr (fun k => e _ _ (by decide))⟩, by rw [e _ _ (by decide)]; exact k1, by rw [e _ _ (by decide)]; exact k2, by rw [e _ _ (by decide)]; exact k3⟩
theorem zJm.ref (hT : zTok T) (h : zJm T L K R ac j rm w n B Rf pl P x f p M) {Rf' : Int → Int} (e : zSm (zPrf 127) M M') (hR : zAr M' 127 6 Rf') : zJm T L K R ac j rm w n B Rf' pl P x f p M' := by
  obtain ⟨⟨a1, a2⟩, b, c, d, g, ⟨i1, i2⟩, k1, k2, k3⟩ := h
  have e : ∀ a k, a ≠ 127 → M' a k = M a k := fun a k q => e a k q
  refine ⟨⟨a1.fr hT (fun a k q => e a k (by unfold zdMk at q; omega)), a2.fr (fun k _ => e _ _ (by decide))⟩, b.fr (fun a k q => e a k (by unfold zdHm at q; omega)), c.fr (e _ _ (by decide)) (fun k => e _ _ (by decide)), d.fr (fun a k q => e a k (by omega)), hR, ⟨by rw [e _ _ (by decide)]; exact i1, i2.fr (fun k => e _ _ (by decide))⟩, by rw [e _ _ (by decide)]; exact k1, by rw [e _ _ (by decide)]; exact k2, by rw [e _ _ (by decide)]; exact k3⟩
/-- the class after an act -/
theorem zJc.act (h : zJc T L t K R ac j rm w n B Rf pl P x f p M) {L' : Int → Int} {K' : zKp3} {R' : Int → Int → Int} {ac' j' x' : Int} (e : zSm (zPac t) M M') (hC : zCk T L' t M') (hH : zHc T K' R' ac' j' M') (hx : M' 1 16 = x') : zJc T L' t K' R' ac' j' rm w n B Rf pl P x' f p M' := by
  obtain ⟨⟨a1, a2⟩, b, c, d, g, ⟨i1, i2⟩, k1, k2, k3⟩ := h
  have ht := a1.1
  refine ⟨⟨hC, by rw [e _ _ (by unfold zPac; omega)]; exact a2⟩, hH, c.fr (fun a k q => e a k (by unfold zdPc at q; unfold zPac; omega)), d.fr (fun a k q => e a k (by unfold zPac; omega)), g.fr (fun k => e _ _ (by unfold zPac; omega)), ⟨by rw [e _ _ (by unfold zPac; omega)]; exact i1, i2.fr (fun k => e _ _ (by unfold zPac; omega))⟩, hx, by rw [e _ _ (by unfold zPac; omega)]; exact k2, by rw [e _ _ (by unfold zPac; omega)]; exact k3⟩
theorem zJm.act (h : zJm T L K R ac j rm w n B Rf pl P x f p M) {L' : Int → Int} {K' : zKp3} {R' : Int → Int → Int} {ac' j' x' : Int} (e : zSm zPma M M') (hC : zMk T L' M') (hH : zHm T K' R' ac' j' M') (hx : M' 125 68 = x') : zJm T L' K' R' ac' j' rm w n B Rf pl P x' f p M' := by
  obtain ⟨⟨a1, a2⟩, b, c, d, g, ⟨i1, i2⟩, k1, k2, k3⟩ := h
  refine ⟨⟨hC, a2.fr (fun k q => e _ _ (by unfold zPma; omega))⟩, hH, c.fr (e _ _ (by unfold zPma; omega)) (fun k => e _ _ (by unfold zPma; omega)), d.fr (fun a k q => e a k (by unfold zPma; omega)), g.fr (fun k => e _ _ (by unfold zPma; omega)), ⟨by rw [e _ _ (by unfold zPma; omega)]; exact i1, i2.fr (fun k => e _ _ (by unfold zPma; omega))⟩, hx, by rw [e _ _ (by unfold zPma; omega)]; exact k2, by rw [e _ _ (by unfold zPma; omega)]; exact k3⟩
end
/-- a call of both: the class's, then the Model's, the same answer, and the state again -/
def zOp (G : zG) (h sl : Nat) (N : Int) (yc ym : zYt) (As : List zV) (M : zM) : Prop := ∀ Kc : Int → zM → Prop, (∀ r M1, (∀ a k, a < 0 → M1 a k = M a k) → (∀ Q2 : Int → zM → Prop, (∀ M2, (∀ a k, a < 0 → M2 a k = M1 a k) → zIv (N + 1) M2 → Q2 r M2) → zCt G h sl 0 0 ym ((2, 125) :: As) M1 Q2) → Kc r M1) → zCt G h sl 0 0 yc ((2, 1) :: As) M Kc
