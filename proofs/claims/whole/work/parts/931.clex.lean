/-! THE CLASS: words. -/
def zRx (B : Int → Int) (n : Nat) (M : zM) : Prop := (M 2 1 = n ∧ M 72 4 = -1) ∧ zAr M 3 n B ∧ M 72 3 = 0
/-- the reader stands behind e -/
def zRd (B : Int → Int) (n e : Nat) (M : zM) : Prop := zRx B n M ∧ M 72 10 = (zfr B n e : Nat) ∧ M 72 9 = zkd B n e ∧ M 72 11 = (zto B n e : Nat)
def zPlx : Int → Int → Prop := fun a k => a = 72 ∧ 9 ≤ k ∧ k ≤ 11
theorem zRx.fr {B : Int → Int} {n : Nat} {M M' : zM} (e : ∀ a k, a = 2 ∧ k = 1 ∨ a = 3 ∨ a = 72 ∧ (k = 3 ∨ k = 4) → M' a k = M a k) (h : zRx B n M) : zRx B n M' := ⟨⟨by rw [e _ _ (by omega)]; exact h.1.1, by rw [e _ _ (by omega)]; exact h.1.2⟩, h.2.1.fr (fun k => e _ _ (by omega)), by rw [e _ _ (by omega)]; exact h.2.2⟩
theorem zRd.fr {B : Int → Int} {n e : Nat} {M M' : zM} (f : ∀ a k, a = 2 ∧ k = 1 ∨ a = 3 ∨ a = 72 ∧ (k = 3 ∨ k = 4 ∨ 9 ≤ k ∧ k ≤ 11) → M' a k = M a k) (h : zRd B n e M) : zRd B n e M' := ⟨h.1.fr (fun a k p => f a k (by omega)), by rw [f _ _ (by omega)]; exact h.2.1, by rw [f _ _ (by omega)]; exact h.2.2.1, by rw [f _ _ (by omega)]; exact h.2.2.2⟩
theorem c_kindOf {G : zG} {h sl : Nat} (hsl : 1 ≤ sl) {x : Int} {M : zM} {Q : Int → zM → Prop} (q : Q (zkdo x) M) : zCt G h sl 0 0 y_Reader_kindOf [(0, x)] M Q := by
  unfold zkdo at q
  refine E_Reader_kindOf hsl ⟨fun g => B_Reader_kindOf_14 hsl ⟨fun g1 => ?_, fun g1 => ⟨fun g2 => ?_, fun g2 => ?_⟩⟩, fun g => ⟨fun g0 => B_Reader_kindOf_14 hsl ⟨fun g1 => ?_, fun g1 => ⟨fun g2 => ?_, fun g2 => ?_⟩⟩, fun g0 => ?_⟩⟩
  · rw [if_pos g, if_pos g1] at q; exact q
  · rw [if_pos g, if_neg g1, if_pos g2] at q; exact q
  · rw [if_pos g, if_neg g1, if_neg g2] at q; exact q
  · rw [if_neg g, if_pos g0, if_pos g1] at q; exact q
  · rw [if_neg g, if_pos g0, if_neg g1, if_pos g2] at q; exact q
  · rw [if_neg g, if_pos g0, if_neg g1, if_neg g2] at q; exact q
  · rw [if_neg g, if_neg g0] at q; exact q
/-- the run behind: from 175 on -/
theorem c_advC {G : zG} {h sl : Nat} (hsl : 1 ≤ sl) {B : Int → Int} {n e : Nat} {gl : Int} {M0 : zM} {Q : Int → zM → Prop} (hn : n ≤ 1600) (he : e ≤ n) (hgl : gl = if zfr B n e = e ∧ 0 < e ∧ zkdo (B ((e : Int) - 1)) ≠ 3 ∧ (zrk B n e = 1 ∨ zrk B n e = 2) then 1 else 0) (q : ∀ M', zSm zPlx M0 M' → zRd B n e M' → Q 0 M') :
    ∀ (d i : Nat) {M : zM} {u : Nat × Nat × Nat × Nat}, n ≤ d + i → zSm zPlx M0 M → zRx B n M → M 72 10 = (zfr B n e : Nat) → M 72 9 = zrk B n e → M 72 11 = (i : Int) → (zrk B n e = 0 → i = zfr B n e) → (zrk B n e = 3 → i = zfr B n e + 1) → (zrk B n e = 1 ∨ zrk B n e = 2 → zfr B n e + 1 ≤ i ∧ i ≤ zru B n (zrk B n e) (zfr B n e + 1)) → zX G (y_Reader_advance, h + 1, sl) u 175 [(0, (2, 72)), (1, (0, gl))] [] M Q := by
  have hrv := zrk_v B n e
  have hf := zfr_n (B := B) he
  -- the end: the run is over
  have fin : ∀ (i : Nat) {M : zM} {u : Nat × Nat × Nat × Nat}, zSm zPlx M0 M → zRx B n M → M 72 10 = (zfr B n e : Nat) → M 72 9 = zrk B n e → M 72 11 = (i : Int) → i = zto B n e → zX G (y_Reader_advance, h + 1, sl) u 232 [(0, (2, 72)), (1, (0, gl))] [] M Q := fun i {M u} hM hx h10 h9 h11 ei => by
    have key : ∀ v, v = zkd B n e → Q 0 (zwr M 72 9 v) := fun v ev => q _ (hM.wr ⟨rfl, by decide, by decide⟩) ⟨hx.fr (fun a k p => by rw [zwr_i, if_neg (by omega)]), by rw [zwr_k _ (by decide)]; exact h10, by rw [zwr_s]; exact ev, by rw [zwr_k _ (by decide), h11, ei]⟩
    unfold zkd at key
    refine B_Reader_advance_232 hsl ⟨fun g => ?_, fun g => ?_⟩
    · refine key _ ?_
      rw [h9]
      by_cases c : zfr B n e = e ∧ 0 < e ∧ zkdo (B ((e : Int) - 1)) ≠ 3 ∧ (zrk B n e = 1 ∨ zrk B n e = 2)
      · rw [if_pos c] at hgl; omega
      · rw [if_neg c]
    · refine key _ ?_
      by_cases c : zfr B n e = e ∧ 0 < e ∧ zkdo (B ((e : Int) - 1)) ≠ 3 ∧ (zrk B n e = 1 ∨ zrk B n e = 2)
      · rw [if_pos c]
      · rw [if_neg c] at hgl; omega
  intro d
  induction d with
  | zero =>
    intro i M u hd hM hx h10 h9 h11 i0 i3 ir
    refine B_Reader_advance_175 hsl ⟨fun g => fin i hM hx h10 h9 h11 (by rw [h9] at g; unfold zto; rw [if_neg (by omega), if_pos g]; exact i3 g), fun g => ⟨fun _ => fin i hM hx h10 h9 h11 ?_, fun g2 => absurd (by rw [hx.1.1, h11]; omega) g2⟩⟩
    rw [h9] at g
    unfold zto
    by_cases c0 : zrk B n e = 0
    · rw [if_pos c0]; exact i0 c0
    · rw [if_neg c0, if_neg g]
      have := ir (by omega)
      have := zru_n (B := B) (k := zrk B n e) (show zfr B n e + 1 ≤ n by have := zrk_lt c0; omega)
      omega
  | succ d ih =>
    intro i M u hd hM hx h10 h9 h11 i0 i3 ir
    refine B_Reader_advance_175 hsl ⟨fun g => fin i hM hx h10 h9 h11 (by rw [h9] at g; unfold zto; rw [if_neg (by omega), if_pos g]; exact i3 g), fun g => ?_⟩
    rw [h9] at g
    rw [hx.1.1, h11]
    refine ⟨fun g1 => fin i hM hx h10 h9 h11 ?_, fun g1 => ⟨by omega, ?_⟩⟩
    · unfold zto
      by_cases c0 : zrk B n e = 0
      · rw [if_pos c0]; exact i0 c0
      · rw [if_neg c0, if_neg g]
        have := ir (by omega)
        have := zru_n (B := B) (k := zrk B n e) (show zfr B n e + 1 ≤ n by have := zrk_lt c0; omega)
        omega
    · rw [hx.2.1 (i : Int) (by omega) (by omega)]
      refine c_kindOf hsl ?_
      rw [h9, h11]
      have c0 : zrk B n e ≠ 0 := fun c0 => by
        have := i0 c0
        unfold zrk at c0
        rw [if_pos (by omega)] at c0
        have := zkdo_v (B (zfr B n e))
        omega
      have hir := ir (by omega)
      refine ⟨fun g2 => fin i hM hx h10 h9 h11 ?_, fun g2 => ⟨by unfold zI; omega, ?_⟩⟩
      · unfold zto
        rw [if_neg c0, if_neg g]
        apply Classical.byContradiction
        intro y
        exact g2 (by rw [zru_k (n := n) (e := zfr B n e + 1) (k := zrk B n e) hir.1 (by omega)])
      · have e2 : zru B n (zrk B n e) i = zru B n (zrk B n e) (i + 1) := zru_1 ⟨by omega, by omega⟩
        have e3 : zru B n (zrk B n e) i = zru B n (zrk B n e) (zfr B n e + 1) := zru_mid hir.1 hir.2
        have := zru_le B n (zrk B n e) (i + 1)
        exact ih (i + 1) (by omega) (hM.wr ⟨rfl, by decide, by decide⟩) (hx.fr (fun a k p => by rw [zwr_i, if_neg (by omega)])) (by rw [zwr_k _ (by decide)]; exact h10) (by rw [zwr_k _ (by decide)]; exact h9) (by rw [zwr_s]; omega) (fun c => absurd c c0) (fun c => absurd c g) (fun _ => ⟨by omega, by omega⟩)
theorem c_isBlank {G : zG} {h sl : Nat} (hsl : 1 ≤ sl) {x : Int} {M : zM} {Q : Int → zM → Prop} (q1 : (x = 10 ∨ x = 32) → Q 1 M) (q0 : ¬ (x = 10 ∨ x = 32) → Q 0 M) : zCt G h sl 0 0 y_Reader_isBlank [(0, x)] M Q :=
  E_Reader_isBlank hsl ⟨fun g => q1 (Or.inl g), fun g => ⟨fun g2 => q0 (by omega), fun g2 => q1 (by omega)⟩⟩
theorem c_advB {G : zG} {h sl : Nat} (hsl : 1 ≤ sl) {B : Int → Int} {n e : Nat} {M0 M : zM} {u : Nat × Nat × Nat × Nat} {Q : Int → zM → Prop} (hn : n ≤ 1600) (he : e ≤ n) (q : ∀ M', zSm zPlx M0 M' → zRd B n e M' → Q 0 M') (hM : zSm zPlx M0 M) (hx : zRx B n M) (h10 : M 72 10 = (zfr B n e : Nat)) (h11 : M 72 11 = (e : Int)) : zX G (y_Reader_advance, h + 1, sl) u 53 [(0, (2, 72))] [] M Q := by
  have hrv := zrk_v B n e
  have hf := zfr_n (B := B) he
  have hfl := zfr_le B n e
  -- from 150 on
  have at150 : ∀ (gl : Int) (M1 : zM) u, gl = (if zfr B n e = e ∧ 0 < e ∧ zkdo (B ((e : Int) - 1)) ≠ 3 ∧ (zrk B n e = 1 ∨ zrk B n e = 2) then 1 else 0) → zSm zPlx M0 M1 → zRx B n M1 → M1 72 10 = (zfr B n e : Nat) → M1 72 9 = zrk B n e → zX G (y_Reader_advance, h + 1, sl) u 150 [(0, (2, 72))] [(0, gl)] M1 Q := fun gl M1 u egl hM1 hx1 e10 e9 => by
    refine B_Reader_advance_150 hsl ⟨fun g => ?_, fun g => ?_⟩
    · rw [e9] at g
      rw [e10]
      have hl := zrk_lt g
      refine ⟨by unfold zI; omega, c_advC (M0 := M0) (e := e) hsl hn he egl q n (zfr B n e + 1) (by omega) (hM1.wr ⟨rfl, by decide, by decide⟩) (hx1.fr (fun a k p => by rw [zwr_i, if_neg (by omega)])) (by rw [zwr_k _ (by decide)]; exact e10) (by rw [zwr_k _ (by decide)]; exact e9) (by rw [zwr_s]; omega) (fun c => absurd c g) (fun _ => rfl) (fun _ => ⟨Nat.le_refl _, zru_le _ _ _ _⟩)⟩
    · rw [e9] at g
      rw [e10]
      exact c_advC (M0 := M0) (e := e) hsl hn he egl q n (zfr B n e) (by omega) (hM1.wr ⟨rfl, by decide, by decide⟩) (hx1.fr (fun a k p => by rw [zwr_i, if_neg (by omega)])) (by rw [zwr_k _ (by decide)]; exact e10) (by rw [zwr_k _ (by decide)]; exact e9) (by rw [zwr_s]) (fun _ => rfl) (fun c => absurd c (by omega)) (fun c => absurd c (by omega))
  have at87 : ∀ (s : Int) u, s = zrk B n e → zX G (y_Reader_advance, h + 1, sl) u 87 [(0, (2, 72))] [(0, s), (2, 72)] M Q := fun s u es => by
    have s1 : zSm zPlx M0 (zwr M 72 9 s) := hM.wr ⟨rfl, by decide, by decide⟩
    have hx1 : zRx B n (zwr M 72 9 s) := hx.fr (fun a k p => by rw [zwr_i, if_neg (by omega)])
    have e10 : (zwr M 72 9 s) 72 10 = (zfr B n e : Nat) := by rw [zwr_k _ (by decide)]; exact h10
    have e11 : (zwr M 72 9 s) 72 11 = (e : Int) := by rw [zwr_k _ (by decide)]; exact h11
    have e9 : (zwr M 72 9 s) 72 9 = zrk B n e := by rw [zwr_s]; exact es
    have at124 : zfr B n e = e → 0 < e → (zrk B n e = 1 ∨ zrk B n e = 2) → ∀ u, zX G (y_Reader_advance, h + 1, sl) u 124 [(0, (2, 72))] [] (zwr M 72 9 s) Q := fun a b c u => by
      refine B_Reader_advance_124 hsl ?_
      rw [e10, a]
      refine ⟨by unfold zI; omega, by omega, ?_⟩
      rw [hx1.2.1 _ (by omega) (by omega)]
      refine c_kindOf hsl ⟨fun g => at150 0 _ u (by rw [if_neg (fun y => y.2.2.1 g)]) s1 hx1 e10 e9, fun g => at150 1 _ u (by rw [if_pos ⟨a, b, g, c⟩]) s1 hx1 e10 e9⟩
    refine B_Reader_advance_87 hsl ?_
    rw [e10, e11, e9]
    exact ⟨fun g => at150 0 _ u (by rw [if_neg (fun y => g (by rw [y.1]))]) s1 hx1 e10 e9, fun g => ⟨fun g2 => at150 0 _ u (by rw [if_neg (fun y => by omega)]) s1 hx1 e10 e9, fun g2 => ⟨fun g3 => at124 (by omega) (by omega) (Or.inl g3) u, fun g3 => ⟨fun g4 => at150 0 _ u (by rw [if_neg (fun y => by omega)]) s1 hx1 e10 e9, fun g4 => at124 (by omega) (by omega) (Or.inr (by omega)) u⟩⟩⟩⟩
  refine B_Reader_advance_53 hsl ?_
  rw [h10, hx.1.1]
  refine ⟨fun g => at87 0 u (by unfold zrk; rw [if_neg (by omega)]), fun g => ⟨by omega, ?_⟩⟩
  rw [hx.2.1 _ (by omega) (by omega)]
  exact c_kindOf hsl (at87 _ u (by unfold zrk; rw [if_pos (by omega)]))
theorem c_advA {G : zG} {h sl : Nat} (hsl : 1 ≤ sl) {B : Int → Int} {n e : Nat} {M0 : zM} {Q : Int → zM → Prop} (hn : n ≤ 1600) (he : e ≤ n) (q : ∀ M', zSm zPlx M0 M' → zRd B n e M' → Q 0 M') :
    ∀ (d i : Nat) {M : zM} {u : Nat × Nat × Nat × Nat}, n ≤ d + i → zSm zPlx M0 M → zRx B n M → M 72 10 = (i : Int) → zfr B n i = zfr B n e → M 72 11 = (e : Int) → zX G (y_Reader_advance, h + 1, sl) u 8 [(0, (2, 72))] [] M Q
  | 0, i, M, u, hd, hM, hx, h10, hi, h11 => by
    refine B_Reader_advance_8 hsl ⟨fun g => ?_, fun g => absurd (by rw [hx.1.1, h10]; omega) g⟩
    exact c_advB hsl hn he q hM hx (by rw [h10, ← hi, zfr_0 (by omega)]) h11
  | d + 1, i, M, u, hd, hM, hx, h10, hi, h11 => by
    refine B_Reader_advance_8 hsl ?_
    rw [hx.1.1, h10]
    refine ⟨fun g => c_advB hsl hn he q hM hx (by rw [h10, ← hi, zfr_0 (by omega)]) h11, fun g => ⟨by omega, ?_⟩⟩
    rw [hx.2.1 _ (by omega) (by omega)]
    refine c_isBlank hsl (fun g2 => ⟨fun y => absurd y (by decide), fun _ => ?_⟩) (fun g2 => ⟨fun _ => c_advB hsl hn he q hM hx (by rw [h10, ← hi, zfr_0 (fun y => g2 y.2)]) h11, fun y => absurd rfl y⟩)
    rw [h10]
    refine ⟨by unfold zI; omega, c_advA (G := G) (h := h) (Q := Q) hsl hn he q d (i + 1) (by omega) (hM.wr ⟨rfl, by decide, by decide⟩) (hx.fr (fun a k p => by rw [zwr_i, if_neg (by omega)])) (by rw [zwr_s]; omega) (by rw [← zfr_1 ⟨by omega, g2⟩]; exact hi) (by rw [zwr_k _ (by decide)]; exact h11)⟩
theorem c_advance {G : zG} {h sl : Nat} (hsl : 1 ≤ sl) {B : Int → Int} {n e : Nat} {M : zM} {Q : Int → zM → Prop} (hn : n ≤ 1600) (he : e ≤ n) (hx : zRx B n M) (h11 : M 72 11 = (e : Int)) (q : ∀ M', zSm zPlx M M' → zRd B n e M' → Q 0 M') : zCt G (h + 1) sl 0 0 y_Reader_advance [(2, 72)] M Q := by
  refine E_Reader_advance hsl ?_
  rw [h11]
  exact c_advA (M0 := M) hsl hn he q n e (by omega) ((zSm.refl _ M).wr ⟨rfl, by decide, by decide⟩) (hx.fr (fun a k p => by rw [zwr_i, if_neg (by omega)])) (zwr_s _ _ _ _) rfl (by rw [zwr_k _ (by decide)]; exact h11)
/-- a fault stands -/
def zRF (f p : Int) (M : zM) : Prop := M 72 3 = f ∧ M 72 4 = p
def zPrs : Int → Int → Prop := fun a k => a = 72 ∧ (k = 3 ∨ k = 4 ∨ 9 ≤ k ∧ k ≤ 11)
theorem zPlx_rs {M M' : zM} (h : zSm zPlx M M') : zSm zPrs M M' := h.mono (fun a k p => by unfold zPlx at p; unfold zPrs; omega)
theorem c_refuse0 {G : zG} {h sl : Nat} (hsl : 1 ≤ sl) {f p : Int} {M : zM} {Q : Int → zM → Prop} (h0 : M 72 3 = 0) (q : ∀ M', zSm zPrs M M' → zRF f p M' → Q 0 M') : zCt G h sl 0 0 y_Reader_refuse [(2, 72), (0, f), (0, p)] M Q :=
  E_Reader_refuse hsl ⟨fun g => absurd h0 g, fun _ => q _ (((zSm.refl _ M).wr ⟨rfl, Or.inl rfl⟩).wr ⟨rfl, Or.inr (Or.inl rfl)⟩) ⟨by rw [zwr_k _ (by decide), zwr_s], zwr_s _ _ _ _⟩⟩
theorem c_unfit0 {G : zG} {h sl : Nat} (hsl : 1 ≤ sl) {B : Int → Int} {n e : Nat} {M : zM} {Q : Int → zM → Prop} (hr : zRd B n e M) (q : ∀ M', zSm zPrs M M' → zRF 1 (zfr B n e : Nat) M' → Q 0 M') : zCt G (h + 1) sl 0 0 y_Reader_unfit [(2, 72)] M Q := by
  refine E_Reader_unfit hsl ?_
  rw [hr.2.1]
  exact c_refuse0 hsl hr.1.2.2 q
theorem c_isWordL {G : zG} {h sl : Nat} (hsl : 1 ≤ sl) {B : Int → Int} {n e i : Nat} {w : List Int} {M : zM} {Q : Int → zM → Prop} (hn : n ≤ 1600) (hr : zRd B n e M) (hw : zWs i w) (hl : zfr B n e + w.length ≤ n) (q : Q (if ∀ j, j < w.length → B ((zfr B n e + j : Nat) : Int) = w.getD j 0 then 1 else 0) M) :
    ∀ (d k : Nat) {u : Nat × Nat × Nat × Nat}, d + k = w.length → (∀ j, j < k → B ((zfr B n e + j : Nat) : Int) = w.getD j 0) → zX G (y_Reader_isWord, h + 3 + 1, sl) u 28 [(0, (2, 72)), (1, (2, -2 - 2 * (i : Int))), (2, (0, (k : Int)))] [] M Q
  | 0, k, u, ek, hj => by
    refine B_Reader_isWord_28 hsl ⟨⟨i, hw.1, rfl⟩, sp_length hw.1 ?_⟩
    rw [hw.2.1]
    rw [if_pos (fun j h => hj j (by omega))] at q
    exact ⟨fun _ => q, fun g => absurd (by omega) g⟩
  | d + 1, k, u, ek, hj => by
    refine B_Reader_isWord_28 hsl ⟨⟨i, hw.1, rfl⟩, sp_length hw.1 ?_⟩
    rw [hw.2.1, hr.2.1]
    refine ⟨fun g => absurd g (by omega), fun _ => ⟨by unfold zI; omega, by omega, sp_charAt hw.1 (by rw [hw.2.1]; omega) ?_⟩⟩
    have hb := hr.1.2.1 ((zfr B n e + k : Nat) : Int) (by omega) (by omega)
    rw [show ((zfr B n e + k : Nat) : Int) = ((zfr B n e : Nat) : Int) + (k : Int) from by omega] at hb
    rw [hb, show ((k : Int)).toNat = k from by omega, hw.2.2 k (by omega)]
    refine ⟨fun g => ⟨by unfold zI; omega, ?_⟩, fun g => ?_⟩
    · have := c_isWordL (G := G) (h := h) (Q := Q) hsl hn hr hw hl q d (k + 1) (u := u) (by omega) (fun j hjk => by
        by_cases c : j = k
        · subst c
          rw [show ((zfr B n e + j : Nat) : Int) = ((zfr B n e : Nat) : Int) + (j : Int) from by omega]
          exact g
        · exact hj j (by omega))
      rw [zcs] at this
      exact this
    · rw [if_neg (fun y => g (by have := y k (by omega); rw [show ((zfr B n e + k : Nat) : Int) = ((zfr B n e : Nat) : Int) + (k : Int) from by omega] at this; exact this))] at q
      exact q
theorem c_isWord {G : zG} {h sl : Nat} (hsl : 1 ≤ sl) {B : Int → Int} {n e i : Nat} {w : List Int} {M : zM} {Q : Int → zM → Prop} (hn : n ≤ 1600) (he : e ≤ n) (hr : zRd B n e M) (hw : zWs i w) (q : Q (if zwrd B n e w = true then 1 else 0) M) : zCt G (h + 4) sl 0 0 y_Reader_isWord [(2, 72), (2, -2 - 2 * (i : Int))] M Q := by
  have hb := zto_b (B := B) he
  unfold zwrd at q
  simp only [decide_eq_true_eq] at q
  refine E_Reader_isWord hsl ⟨fun g => ?_, fun g => ⟨⟨i, hw.1, rfl⟩, sp_length hw.1 ?_⟩⟩
  · rw [hr.2.2.1] at g
    rw [if_neg (fun y => g y.1)] at q
    exact q
  · rw [hr.2.2.1] at g
    rw [hw.2.1, hr.2.1, hr.2.2.2]
    refine ⟨by unfold zI; omega, fun g2 => c_isWordL hsl hn hr hw (by omega) ?_ w.length 0 (by omega) (fun j hj => absurd hj (by omega)), fun g2 => ?_⟩
    · by_cases c : ∀ j, j < w.length → B ((zfr B n e + j : Nat) : Int) = w.getD j 0
      · rw [if_pos c]
        rw [if_pos ⟨by omega, by omega, c⟩] at q
        exact q
      · rw [if_neg c]
        rw [if_neg (fun y => c y.2.2)] at q
        exact q
    · rw [if_neg (fun y => g2 (by have := y.2.1; omega))] at q
      exact q
/-- behind a word, a sign that was taken -/
theorem c_taken {G : zG} {h sl : Nat} (hsl : 1 ≤ sl) {B : Int → Int} {n e : Nat} {M : zM} {Q : Int → zM → Prop} (hn : n ≤ 1600) (he : e ≤ n) (hr : zRd B n e M) (q : ∀ M', zSm zPrs M M' → zRd B n (zto B n e) M' → Q 0 M') : zCt G (h + 1) sl 0 0 y_Reader_advance [(2, 72)] M Q :=
  c_advance hsl hn (zto_b he).2.1 hr.1 hr.2.2.2 (fun M' a b => q M' (zPlx_rs a) b)
theorem c_tryWord {G : zG} {h sl : Nat} (hsl : 1 ≤ sl) {B : Int → Int} {n e i : Nat} {w : List Int} {M : zM} {Q : Int → zM → Prop} (hn : n ≤ 1600) (he : e ≤ n) (hr : zRd B n e M) (hw : zWs i w) (q1 : zwrd B n e w = true → ∀ M', zSm zPrs M M' → zRd B n (zto B n e) M' → Q 1 M') (q0 : ¬ zwrd B n e w = true → Q 0 M) : zCt G (h + 5) sl 0 0 y_Reader_tryWord [(2, 72), (2, -2 - 2 * (i : Int))] M Q := by
  refine E_Reader_tryWord hsl (c_isWord hsl hn he hr hw ?_)
  by_cases c : zwrd B n e w = true
  · rw [if_pos c]
    exact ⟨fun _ => c_taken (h := h + 3) hsl hn he hr (fun M' a b => q1 c M' a b), fun y => absurd (by decide) y⟩
  · rw [if_neg c]
    exact ⟨fun y => absurd rfl y, fun _ => q0 c⟩
theorem c_takeWord {G : zG} {h sl : Nat} (hsl : 1 ≤ sl) {B : Int → Int} {n e i : Nat} {w : List Int} {M : zM} {Q : Int → zM → Prop} (hn : n ≤ 1600) (he : e ≤ n) (hr : zRd B n e M) (hw : zWs i w) (q1 : zwrd B n e w = true → ∀ M', zSm zPrs M M' → zRd B n (zto B n e) M' → Q 1 M') (q0 : ¬ zwrd B n e w = true → ∀ M', zSm zPrs M M' → zRF 1 (zfr B n e : Nat) M' → Q 0 M') : zCt G (h + 5) sl 0 0 y_Reader_takeWord [(2, 72), (2, -2 - 2 * (i : Int))] M Q := by
  refine E_Reader_takeWord hsl (c_isWord hsl hn he hr hw ?_)
  by_cases c : zwrd B n e w = true
  · rw [if_pos c]
    exact ⟨fun _ => c_taken (h := h + 3) hsl hn he hr (fun M' a b => q1 c M' a b), fun y => absurd (by decide) y⟩
  · rw [if_neg c]
    exact ⟨fun y => absurd rfl y, fun _ => c_unfit0 (h := h + 3) hsl hr (q0 c)⟩
theorem c_isSign {G : zG} {h sl : Nat} (hsl : 1 ≤ sl) {B : Int → Int} {n e : Nat} {x : Int} {M : zM} {Q : Int → zM → Prop} (hn : n ≤ 1600) (he : e ≤ n) (hr : zRd B n e M) (q : Q (if zsg B n e x = true then 1 else 0) M) : zCt G h sl 0 0 y_Reader_isSign [(2, 72), (0, x)] M Q := by
  unfold zsg at q
  simp only [decide_eq_true_eq] at q
  refine E_Reader_isSign hsl ⟨fun g => ?_, fun g => ?_⟩
  · rw [hr.2.2.1] at g
    rw [if_neg (fun y => g y.1)] at q
    exact q
  · rw [hr.2.2.1] at g
    have hl := zrk_lt (B := B) (n := n) (e := e) (by rw [← zkd_rk (by omega)]; omega)
    rw [hr.2.1, hr.1.2.1 _ (by omega) (by omega)]
    refine ⟨by omega, fun g2 => ?_, fun g2 => ?_⟩
    · rw [if_neg (fun y => g2 y.2)] at q; exact q
    · rw [if_pos ⟨by omega, by omega⟩] at q; exact q
theorem c_takeSign {G : zG} {h sl : Nat} (hsl : 1 ≤ sl) {B : Int → Int} {n e : Nat} {x : Int} {M : zM} {Q : Int → zM → Prop} (hn : n ≤ 1600) (he : e ≤ n) (hr : zRd B n e M) (q1 : zsg B n e x = true → ∀ M', zSm zPrs M M' → zRd B n (zto B n e) M' → Q 1 M') (q0 : ¬ zsg B n e x = true → ∀ M', zSm zPrs M M' → zRF 1 (zfr B n e : Nat) M' → Q 0 M') : zCt G (h + 2) sl 0 0 y_Reader_takeSign [(2, 72), (0, x)] M Q := by
  refine E_Reader_takeSign hsl (c_isSign hsl hn he hr ?_)
  by_cases c : zsg B n e x = true
  · rw [if_pos c]
    exact ⟨fun _ => c_taken hsl hn he hr (fun M' a b => q1 c M' a b), fun y => absurd (by decide) y⟩
  · rw [if_neg c]
    exact ⟨fun y => absurd rfl y, fun _ => c_unfit0 hsl hr (q0 c)⟩
