theorem zcs (k : Nat) : ((k + 1 : Nat) : Int) = (k : Int) + 1 := by omega
theorem c_putsAsideL {G : zG} {h sl : Nat} (hsl : 2 ≤ sl) {M0 : zM} {Q : Int → zM → Prop} (q : ∀ M', zSm (fun a _ => a = 167) M0 M' → (∀ j : Int, 0 ≤ j → j < 17 → M' 167 j = M0 164 j) → Q 0 M') :
    ∀ (d k : Nat) {M : zM} {u : Nat × Nat × Nat × Nat}, d + k = 17 → zSm (fun a _ => a = 167) M0 M → (∀ j : Int, 0 ≤ j → j < (k : Int) → M 167 j = M0 164 j) → zX G (y_Md_putsAside, h, sl) u 7 [(0, (2, 125)), (1, (0, (k : Int)))] [] M Q
  | 0, k, M, u, e, hM, hr => B_Md_putsAside_7 hsl ⟨fun _ => q M hM (fun j a b => hr j a (by omega)), fun g => absurd (by omega) g⟩
  | d + 1, k, M, u, e, hM, hr => by
    refine B_Md_putsAside_7 hsl ⟨fun g => absurd g (by omega), fun _ => ⟨by omega, by omega, by unfold zI; omega, ?_⟩⟩
    have := c_putsAsideL (G := G) (h := h) (Q := Q) hsl q d (k + 1) (M := zwr M 167 k (M 164 k)) (u := u) (by omega) (hM.wr rfl) (fun j a b => ?_)
    · rw [zcs] at this
      exact this
    · by_cases e1 : j = k
      · subst e1
        rw [zwr_s]
        exact hM 164 _ (by omega)
      · rw [zwr_k _ e1]
        exact hr j a (by omega)
theorem c_putsAside {G : zG} {h sl : Nat} (hsl : 2 ≤ sl) {M : zM} {Q : Int → zM → Prop} (q : ∀ M', zSm (fun a k => a = 167 ∨ a = 125 ∧ k = 57) M M' → (∀ j : Int, 0 ≤ j → j < 17 → M' 167 j = M 164 j) → Q 0 M') : zCt G h sl 0 0 y_Md_putsAside [(2, 125)] M Q := by
  have h0 : zSm (fun a k => a = 167 ∨ a = 125 ∧ k = 57) M (zwr M 125 57 1) := (zSm.refl _ M).wr (Or.inr ⟨rfl, rfl⟩)
  exact E_Md_putsAside hsl (c_putsAsideL (M0 := zwr M 125 57 1) hsl (fun M' a b => q M' (h0.trans (a.mono (fun _ _ p => Or.inl p))) (fun j x y => by rw [b j x y, h0 164 j (by omega)])) 17 0 rfl (zSm.refl _ _) (fun j a b => absurd b (by omega)))
theorem c_triesAnewL {G : zG} {h sl : Nat} (hsl : 2 ≤ sl) {M0 : zM} {Q : Int → zM → Prop} (q : ∀ M', zSm (fun a k => a = 164 ∧ 0 ≤ k ∧ k < 17) M0 M' → (∀ j : Int, 0 ≤ j → j < 17 → M' 164 j = M0 167 j) → Q 0 M') :
    ∀ (d k : Nat) {M : zM} {u : Nat × Nat × Nat × Nat}, d + k = 17 → zSm (fun a k => a = 164 ∧ 0 ≤ k ∧ k < 17) M0 M → (∀ j : Int, 0 ≤ j → j < (k : Int) → M 164 j = M0 167 j) → zX G (y_Md_triesAnew, h, sl) u 2 [(0, (2, 125)), (1, (0, (k : Int)))] [] M Q
  | 0, k, M, u, e, hM, hr => B_Md_triesAnew_2 hsl ⟨fun _ => q M hM (fun j a b => hr j a (by omega)), fun g => absurd (by omega) g⟩
  | d + 1, k, M, u, e, hM, hr => by
    refine B_Md_triesAnew_2 hsl ⟨fun g => absurd g (by omega), fun _ => ⟨by omega, by omega, by unfold zI; omega, ?_⟩⟩
    have := c_triesAnewL (G := G) (h := h) (Q := Q) hsl q d (k + 1) (M := zwr M 164 k (M 167 k)) (u := u) (by omega) (hM.wr (by omega)) (fun j a b => ?_)
    · rw [zcs] at this
      exact this
    · by_cases e1 : j = k
      · subst e1
        rw [zwr_s]
        exact hM 167 _ (by omega)
      · rw [zwr_k _ e1]
        exact hr j a (by omega)
theorem c_triesAnew {G : zG} {h sl : Nat} (hsl : 2 ≤ sl) {M : zM} {Q : Int → zM → Prop} (q : ∀ M', zSm (fun a k => a = 164 ∧ 0 ≤ k ∧ k < 17) M M' → (∀ j : Int, 0 ≤ j → j < 17 → M' 164 j = M 167 j) → Q 0 M') : zCt G h sl 0 0 y_Md_triesAnew [(2, 125)] M Q :=
  E_Md_triesAnew hsl (c_triesAnewL (M0 := M) hsl q 17 0 rfl (zSm.refl _ _) (fun j a b => absurd b (by omega)))
theorem c_takesBack {G : zG} {h sl : Nat} (hsl : 2 ≤ sl) {M : zM} {Q : Int → zM → Prop} (q : ∀ M', zSm (fun a k => a = 164 ∧ 0 ≤ k ∧ k < 17 ∨ a = 125 ∧ k = 57) M M' → (∀ j : Int, 0 ≤ j → j < 17 → M' 164 j = M 167 j) → Q 0 M') : zCt G (h + 1) sl 0 0 y_Md_takesBack [(2, 125)] M Q :=
  E_Md_takesBack hsl (c_triesAnew hsl (fun M' a b => q _ ((a.mono (fun _ _ p => Or.inl p)).wr (Or.inr ⟨rfl, rfl⟩)) (fun j x y => by rw [zwr_o _ (by decide)]; exact b j x y)))
/-- how many columns of a line aren't as line V tells -/
def zwg (L V : Int → Int) : Nat → Int
  | 0 => 0
  | k + 1 => zwg L V k + (if L (1 + k) = V (1 + k) then 0 else 1)
theorem zwg_in (L V : Int → Int) : ∀ k : Nat, 0 ≤ zwg L V k ∧ zwg L V k ≤ k
  | 0 => by simp [zwg]
  | k + 1 => by
    have := zwg_in L V k
    unfold zwg
    split <;> omega
theorem c_wrongManyL {G : zG} {h sl : Nat} (hsl : 2 ≤ sl) {T : zTb} {L V : Int → Int} {M : zM} {Q : Int → zM → Prop} (h0 : 0 ≤ T.1 8 0) (h8 : T.1 8 0 ≤ 8) (hm : zTm T M) (hl : zLm (T.1 8 0) L M) (hn : 0 ≤ L 0 ∧ L 0 ≤ 999) (hv : ∀ c, 0 ≤ c → c < T.1 8 0 → M 165 (8 * L 0 + c) = V (1 + c)) (q : Q (zwg L V (T.1 8 0).toNat) M) :
    ∀ (d k : Nat) {u : Nat × Nat × Nat × Nat}, d + k = (T.1 8 0).toNat → zX G (y_Md_wrongMany, h + 1, sl) u 4 [(0, (2, 125)), (1, (0, zwg L V k)), (2, (0, (k : Int)))] [] M Q
  | 0, k, u, e => by
    refine B_Md_wrongMany_4 hsl (E_Md_columnMany hsl ?_)
    rw [hm.two]
    refine ⟨fun _ => ?_, fun g => absurd (by omega) g⟩
    rw [show k = (T.1 8 0).toNat from by omega]
    exact q
  | d + 1, k, u, e => by
    have hz := zwg_in L V k
    refine B_Md_wrongMany_4 hsl (E_Md_columnMany hsl ?_)
    rw [hm.two]
    refine ⟨fun g => absurd g (by omega), fun _ => c_valueOf hsl (by omega) (by omega) ?_⟩
    rw [hl.1]
    refine E_Md_trueOf hsl ⟨by unfold zI; omega, by unfold zI; omega, by omega, ?_⟩
    rw [(hl.2 k (by omega) (by omega)).1, hv k (by omega) (by omega)]
    have := c_wrongManyL (G := G) (h := h) (Q := Q) hsl h0 h8 hm hl hn hv q d (k + 1) (u := u) (by omega)
    rw [zcs] at this
    refine ⟨fun g => ⟨by unfold zI; omega, ?_⟩, fun g => ⟨by unfold zI; omega, by unfold zI; omega, ?_⟩⟩
    · rw [show zwg L V (k + 1) = zwg L V k from by show zwg L V k + _ = _; rw [if_pos g]; omega] at this
      exact this
    · rw [show zwg L V (k + 1) = zwg L V k + 1 from by show zwg L V k + _ = _; rw [if_neg g]] at this
      exact this
/-- how many columns aren't true -/
def zwm (T : zTb) (L : Int → Int) : Int := zwg L (ztr T (L 0).toNat) (T.1 8 0).toNat
theorem c_wrongMany {G : zG} {h sl : Nat} (hsl : 2 ≤ sl) {T : zTb} {L : Int → Int} {M : zM} {Q : Int → zM → Prop} (hT : zTok T) (hm : zTm T M) (hl : zLm (T.1 8 0) L M) (ht : zTru T 1000 M) (hn : 0 ≤ L 0 ∧ L 0 ≤ 999) (q : Q (zwm T L) M) : zCt G (h + 1) sl 0 0 y_Md_wrongMany [(2, 125)] M Q := by
  refine E_Md_wrongMany hsl ?_
  exact c_wrongManyL hsl hT.1 hT.2.1 hm hl hn (V := ztr T (L 0).toNat) (fun c a b => by
    have := (ht (L 0).toNat (by omega) c a b).1
    rw [show (((L 0).toNat : Nat) : Int) = L 0 from by omega] at this
    exact this) q (T.1 8 0).toNat 0 (by omega)
