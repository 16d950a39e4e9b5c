/-! THE MODEL: questions answered. -/
theorem m_askScn {G : zG} {h sl : Nat} (hsl : 2 ≤ sl) {T : zTb} {L : Int → Int} {i : Int} {M : zM} (hP : zPu T L) (hC : zMk T L M) (ha : zAhd T L (zam L) M) (i0 : 0 ≤ i) (hi : i < T.1 8 0) (e53 : M 125 53 = i) : zScQ G (h + 2) sl i zokQ (zEq T L i) M := by
  have hn8 := hP.1.2.1
  have h0 := hP.2.1.1
  have h9 := hP.2.2
  have e5 := (hC.2.1.2 i i0 hi).1
  have hv := (hP.2.1.2.2 i i0 hi).in (hP.1.2.2.2.2.2.2.2 i i0 hi)
  have hs : 0 ≤ T.1 i 0 ∧ T.1 i 0 ≤ 3 := by have := hP.1.2.2.2.2.2.2.2 i i0 hi; unfold zTok1 at this; omega
  refine ⟨fun v Q x1 x2 hv' q => ?_, fun v a Q x1 x2 hv' hab q => ?_⟩
  · rw [zokQ_ok] at hv'
    have q : ∀ r, zclip r = zEq1 T L i (v - 40) → Q r M := q
    unfold zEq1 at q
    refine E_Md_qPartOf hsl ⟨fun _ => ?_, fun g => absurd (by omega) g⟩
    rw [e53]
    refine ⟨fun g => q _ ?_, fun g => absurd g (by omega), fun g => q _ ?_, fun g => c_sortOf hsl i0 (by omega) (q _ ?_), fun g => c_valueOf hsl i0 (by omega) (q _ ?_), fun g => c_valueOf hsl i0 (by omega) ?_⟩
    · rw [if_pos g, hC.2.1.1]; exact zclip_id (by omega)
    · rw [if_neg (by omega), if_pos g]; exact zclip_id (by omega)
    · rw [if_neg (by omega), if_neg (by omega), if_pos g, (hC.1.2.2.2.1 i i0 hi).1]; exact zclip_id (by omega)
    · rw [if_neg (by omega), if_neg (by omega), if_neg (by omega), if_pos g, e5]; exact zclip_id hv
    · rw [e53, hC.2.1.1, e5]
      have hvt := ((ztr_ok hP.1 (k := (L 0).toNat) (by omega)).2.2.2 i i0 hi).in (hP.1.2.2.2.2.2.2.2 i i0 hi)
      refine c_trueOf hsl hP.1 hC.2.2 h0 h9 i0 hi ⟨by unfold zI; omega, q _ ?_⟩
      rw [if_neg (by omega), if_neg (by omega), if_neg (by omega), if_neg (by omega)]
  · have q : ∀ r, zclip r = zEq2 T L i (v - 60) a → Q r M := q
    unfold zEq2 at q
    refine E_Md_qOf hsl ⟨fun g => c_isAheadM hsl hC.2.1.1 h0 h9 (by omega) (fun a1 b1 d1 => ⟨fun y => absurd y (by decide), fun _ => ?_⟩) (fun x => ⟨fun _ => q _ ?_, fun y => absurd rfl y⟩), fun g => c_isColM hsl hP.1 hC.1 (fun a1 b1 => ⟨fun y => absurd y (by decide), fun _ => ?_⟩) (fun x => ⟨fun _ => q _ ?_, fun y => absurd rfl y⟩)⟩
    · rw [zl2i_in (by unfold zI; omega)]
      have hz := (ha a.toNat (by unfold zam; omega)).1 i i0 hi
      rw [show ((a.toNat : Nat) : Int) = a from by omega] at hz
      refine ⟨by unfold zI; omega, by unfold zI; omega, by omega, q _ ?_⟩
      rw [if_pos g, if_pos ⟨a1, b1, d1⟩, hz]
      exact zclip_id (zln_v hP (by omega) i0 hi)
    · rw [if_pos g, if_neg x]; rfl
    · rw [zl2i_in (by unfold zI; omega)]
      refine c_valueOf hsl a1 (by omega) (q _ ?_)
      rw [if_neg g, if_pos ⟨a1, b1⟩, (hC.2.1.2 a a1 b1).1]
      exact zclip_id ((hP.2.1.2.2 a a1 b1).in (hP.1.2.2.2.2.2.2.2 a a1 b1))
    · rw [if_neg g, if_neg x]; rfl
theorem m_qTakes {G : zG} {h sl : Nat} (hsl : 2 ≤ sl) {kind x v i : Int} {M : zM} {Q : Int → zM → Prop} (hk : 0 ≤ kind ∧ kind ≤ 5) (h97 : M 125 97 = x) (h98 : M 125 98 = if i = 0 then 1 else 0) (i0 : 0 ≤ i) (hv : kind < 3 → v = 0 ∨ v = 1) (hb : -100000000 ≤ x ∧ x ≤ 100000000 ∧ -1000000 ≤ v ∧ v ≤ 1000000)
    (q : ∀ M', zSm (fun a k => a = 125 ∧ (k = 97 ∨ k = 98)) M M' → M' 125 97 = zqj kind x v i → M' 125 98 = 0 → Q 0 M') : zCt G h sl 0 0 y_Md_qTakes [(2, 125), (0, kind), (1, v), (0, i)] M Q := by
  -- the last step: from 90 on, an answer w that stands there
  have last : ∀ (w : Int) (M1 : zM) u, zSm (fun a k => a = 125 ∧ (k = 97 ∨ k = 98)) M M1 → M1 125 97 = w → M1 125 98 = (if i = 0 then 1 else 0) → (kind ≤ 3 → w = zqj kind x v i) → (¬ kind ≤ 3 → w = x) → zX G (y_Md_qTakes, h, sl) u 90 [(0, (2, 125)), (1, (0, kind)), (2, (1, v))] [] M1 Q := fun w M1 u hM e97 e98 hw hw2 => by
    have s1 : zSm (fun a k => a = 125 ∧ (k = 97 ∨ k = 98)) M (zwr M1 125 98 0) := hM.wr ⟨rfl, Or.inr rfl⟩
    have s2 : zSm (fun a k => a = 125 ∧ (k = 97 ∨ k = 98)) M (zwr (zwr M1 125 97 v) 125 98 0) := (hM.wr ⟨rfl, Or.inl rfl⟩).wr ⟨rfl, Or.inr rfl⟩
    have k1 : ∀ z, z = zqj kind x v i → z = w → Q 0 (zwr M1 125 98 0) := fun z hz ez => q _ s1 (by rw [zwr_k _ (by decide), e97, ← ez, hz]) (zwr_s _ _ _ _)
    have k2 : v = zqj kind x v i → Q 0 (zwr (zwr M1 125 97 v) 125 98 0) := fun hz => q _ s2 (by rw [zwr_k _ (by decide), zwr_s]; exact hz) (zwr_s _ _ _ _)
    refine B_Md_qTakes_90 hsl ⟨fun g => k1 w (hw g) rfl, fun g => ?_⟩
    have ew := hw2 g
    rw [e97, e98, ew]
    refine ⟨fun g2 => k2 ?_, fun g2 => ⟨fun g3 => ⟨fun g4 => k1 x ?_ ew.symm, fun g4 => k2 ?_⟩, fun g3 => ⟨fun g4 => k1 x ?_ ew.symm, fun g4 => k2 ?_⟩⟩⟩
    all_goals unfold zqj
    · have gi : i = 0 := by apply Classical.byContradiction; intro y; rw [if_neg y] at g2; exact g2 rfl
      rw [if_neg (by omega), if_neg (by omega), if_neg (by omega)]
      split
      · rw [if_pos (Or.inl gi)]
      · rw [if_pos (Or.inl gi)]
    · have gi : ¬ i = 0 := by intro y; rw [if_pos y] at g2; exact g2 (by decide)
      rw [if_neg (by omega), if_neg (by omega), if_neg (by omega), if_neg g3, if_neg (by omega)]
    · rw [if_neg (by omega), if_neg (by omega), if_neg (by omega), if_neg g3, if_pos (by omega)]
    · have gi : ¬ i = 0 := by intro y; rw [if_pos y] at g2; exact g2 (by decide)
      rw [if_neg (by omega), if_neg (by omega), if_neg (by omega), if_pos (by omega), if_neg (by omega)]
    · rw [if_neg (by omega), if_neg (by omega), if_neg (by omega), if_pos (by omega), if_pos (by omega)]
  have at75 : ∀ (w : Int) (M1 : zM) u, zSm (fun a k => a = 125 ∧ (k = 97 ∨ k = 98)) M M1 → M1 125 97 = w → M1 125 98 = (if i = 0 then 1 else 0) → (kind < 3 → w = zqj kind x v i) → (¬ kind < 3 → w = x) → zX G (y_Md_qTakes, h, sl) u 75 [(0, (2, 125)), (1, (0, kind)), (2, (1, v))] [] M1 Q := fun w M1 u hM e97 e98 hw hw2 => by
    refine B_Md_qTakes_75 hsl ⟨fun g => last w M1 u hM e97 e98 (fun g2 => hw (by omega)) (fun g2 => hw2 (by omega)), fun g => ?_⟩
    have ew := hw2 (by omega)
    rw [e97, ew]
    refine ⟨by unfold zL; omega, last (x + v) _ u (hM.wr ⟨rfl, Or.inl rfl⟩) (zwr_s _ _ _ _) (by rw [zwr_k _ (by decide)]; exact e98) (fun _ => ?_) (fun g2 => absurd (by omega) g2)⟩
    unfold zqj
    rw [if_neg (by omega), if_neg (by omega), if_pos (by omega)]
  have s0 : zSm (fun a k => a = 125 ∧ (k = 97 ∨ k = 98)) M M := zSm.refl _ _
  -- s: whether it is a test that holds
  have at55 : ∀ (w s : Int) (M1 : zM) u, zSm (fun a k => a = 125 ∧ (k = 97 ∨ k = 98)) M M1 → M1 125 97 = w → M1 125 98 = (if i = 0 then 1 else 0) → (kind < 2 → w = zqj kind x v i) → (¬ kind < 2 → w = x) → (kind = 2 → s = v) → zX G (y_Md_qTakes, h, sl) u 55 [(0, (2, 125)), (1, (0, kind)), (2, (1, v)), (5, (0, s))] [] M1 Q := fun w s M1 u hM e97 e98 hw hw2 hsv => by
    refine B_Md_qTakes_55 hsl ⟨fun g => at75 w M1 u hM e97 e98 (fun g2 => hw (by omega)) (fun g2 => hw2 (by omega)), fun g => ?_⟩
    have ew := hw2 (by omega)
    have es := hsv (by omega)
    have hv' := hv (by omega)
    refine ⟨fun g2 => at75 w M1 u hM e97 e98 (fun g3 => ?_) (fun g3 => absurd (by omega) g3), fun g2 => ⟨by rw [e97]; unfold zL; omega, at75 (x + v) _ u (hM.wr ⟨rfl, Or.inl rfl⟩) (by rw [zwr_s, e97]; omega) (by rw [zwr_k _ (by decide)]; exact e98) (fun g3 => ?_) (fun g3 => absurd (by omega) g3)⟩⟩
    · unfold zqj
      rw [if_neg (by omega), if_neg (by omega), if_pos (by omega)]
      omega
    · unfold zqj
      rw [if_neg (by omega), if_neg (by omega), if_pos (by omega)]
  have at38 : ∀ (s : Int) u, (kind < 3 → s = v) → (kind = 0 → ¬ (x = -1 ∧ v = 1)) → zX G (y_Md_qTakes, h, sl) u 38 [(0, (2, 125)), (1, (0, kind)), (2, (1, v)), (4, (0, i)), (5, (0, s))] [] M Q := fun s u hsv h0n => by
    refine B_Md_qTakes_38 hsl ⟨fun g => at55 x s M u s0 h97 h98 (fun g2 => ?_) (fun _ => rfl) (fun g2 => hsv (by omega)), fun g => ⟨fun g2 => at55 x s M u s0 h97 h98 (fun g3 => ?_) (fun _ => rfl) (fun g3 => hsv (by omega)), fun g2 => at55 i s _ u (s0.wr ⟨rfl, Or.inl rfl⟩) (zwr_s _ _ _ _) (by rw [zwr_k _ (by decide)]; exact h98) (fun g3 => ?_) (fun g3 => absurd (by omega) g3) (fun g3 => absurd g3 (by omega))⟩⟩
    · unfold zqj
      rw [if_pos (by omega), if_neg (h0n (by omega))]
    · unfold zqj
      have := hsv (by omega)
      rw [if_neg (by omega), if_pos (by omega), if_neg (by omega)]
    · unfold zqj
      have := hsv (by omega)
      have := hv (by omega)
      rw [if_neg (by omega), if_pos (by omega), if_pos (by omega)]
  have at16 : ∀ (s : Int) u, (kind < 3 → s = v) → zX G (y_Md_qTakes, h, sl) u 16 [(0, (2, 125)), (1, (0, kind)), (2, (1, v)), (4, (0, i))] [(0, s)] M Q := fun s u hsv => by
    refine B_Md_qTakes_16 hsl ⟨fun g => at38 s u hsv (fun g2 => absurd g2 g), fun g => ⟨fun g2 => at38 s u hsv (fun g3 => by have := hsv (by omega); omega), fun g2 => ?_⟩⟩
    rw [h97]
    have e1 := hsv (by omega)
    have e2 := hv (by omega)
    refine ⟨fun g3 => at55 i s _ u (s0.wr ⟨rfl, Or.inl rfl⟩) (zwr_s _ _ _ _) (by rw [zwr_k _ (by decide)]; exact h98) (fun g4 => ?_) (fun g4 => absurd (by omega) g4) (fun g4 => hsv (by omega)), fun g3 => at38 s u hsv (fun _ z => g3 z.1)⟩
    unfold zqj
    rw [if_pos (by omega), if_pos (by omega)]
  refine E_Md_qTakes hsl ⟨fun g => at16 0 _ (fun y => absurd y (by omega)), fun g => ⟨fun g2 => at16 0 _ (fun _ => ?_), fun g2 => at16 1 _ (fun _ => by omega)⟩⟩
  have := hv (by omega)
  omega
def zPaq : Int → Int → Prop := fun a k => a = 195 ∨ a = 125 ∧ (k = 53 ∨ k = 96 ∨ k = 97 ∨ k = 98)
theorem m_answerL {G : zG} {h sl : Nat} (hsl : 2 ≤ sl) {T : zTb} {L : Int → Int} {kind : Int} {cs : List Int} {M0 : zM} {Q : Int → zM → Prop} (hP : zPu T L) (hC0 : zMk T L M0) (ha0 : zAhd T L (zam L) M0) (hk : 0 ≤ kind ∧ kind ≤ 5) (hz : zty zokQ cs [] = some [decide (kind < 3)]) (hlen : M0 125 90 = cs.length) (hl16 : cs.length ≤ 1600) (hs : zSg M0 193 0 cs)
    (q : ∀ M', zSm zPaq M0 M' → Q (zqa T L kind cs (T.1 8 0).toNat) M') :
    ∀ (d i : Nat) {M : zM} {u : Nat × Nat × Nat × Nat}, d + i = (T.1 8 0).toNat → zSm zPaq M0 M → M 125 97 = zqa T L kind cs i → M 125 98 = (if (i : Int) = 0 then 1 else 0) → zX G (y_Md_ask, h + 3 + 1, sl) u 171 [(0, (2, 125)), (1, (0, kind)), (2, (0, (i : Int)))] [] M Q
  | 0, i, M, u, e, hM, e97, e98 => by
    have h0 := hP.1.1
    have hC : zMk T L M := hC0.fr hP.1 (fun a k p => hM a k (by unfold zdMk at p; unfold zPaq; omega))
    refine B_Md_ask_171 hsl (E_Md_columnMany hsl ?_)
    rw [hC.1.two]
    refine ⟨fun _ => ?_, fun g => absurd (by omega) g⟩
    rw [show (T.1 8 0).toNat = i from by omega] at q
    rw [e97]
    exact q M hM
  | d + 1, i, M, u, e, hM, e97, e98 => by
    have h0 := hP.1.1
    have hn8 := hP.1.2.1
    have hC : zMk T L M := hC0.fr hP.1 (fun a k p => hM a k (by unfold zdMk at p; unfold zPaq; omega))
    refine B_Md_ask_171 hsl (E_Md_columnMany hsl ?_)
    rw [hC.1.two]
    refine ⟨fun g => absurd g (by omega), fun _ => ?_⟩
    have s1 : zSm zPaq M0 (zwr M 125 53 (i : Int)) := hM.wr (Or.inr ⟨rfl, Or.inl rfl⟩)
    have hE := zEq_ok hP (i := (i : Int)) (by omega) (by omega)
    have hvI := zval_in hE hz
    have hb := zqa_in hP hz i (by omega)
    have ij : zqa T L kind cs (i + 1) = zqj kind (zqa T L kind cs i) (zval (zEq T L i) cs) i := rfl
    have e90 : (zwr M 125 53 (i : Int)) 125 90 = cs.length := by rw [s1 _ _ (by unfold zPaq; omega)]; exact hlen
    refine c_qTold (h := h + 1) (cs := cs) (ty := decide (kind < 3)) hsl hE (fun M' hM' => ?_) (by rw [e90]) (by rw [e90]; omega) (zSg_eq (fun j => s1 193 j (by unfold zPaq; omega)) hs) hz (fun M' hM' => ?_)
    · have s2 : zSm zPaq M0 M' := s1.trans (hM'.mono (fun a k p => by unfold zPP at p; unfold zPaq; omega))
      exact m_askScn hsl hP (hC0.fr hP.1 (fun a k p => s2 a k (by unfold zdMk at p; unfold zPaq; omega))) (fun k hk => ⟨fun c c0 cn => by rw [s2 _ _ (by unfold zPaq; omega)]; exact (ha0 k hk).1 c c0 cn, by rw [s2 _ _ (by unfold zPaq; omega)]; exact (ha0 k hk).2⟩) (by omega) (by omega) (by rw [hM' _ _ (by unfold zPP; omega), zwr_s])
    · have s2 : zSm zPaq M0 M' := s1.trans (hM'.mono (fun a k p => by unfold zPP at p; unfold zPaq; omega))
      have hbv : -1000000 ≤ zval (zEq T L i) cs ∧ zval (zEq T L i) cs ≤ 1000000 := by
        by_cases c : kind < 3
        · rw [if_pos (by simpa using c)] at hvI; omega
        · rw [if_neg (by simpa using c)] at hvI; exact hvI
      refine m_qTakes (x := zqa T L kind cs i) hsl hk (by rw [hM' _ _ (by unfold zPP; omega), zwr_k _ (by decide)]; exact e97) (by rw [hM' _ _ (by unfold zPP; omega), zwr_k _ (by decide)]; exact e98) (by omega) (fun c => by rw [if_pos (by simpa using c)] at hvI; exact hvI) (by omega) (fun M2 hM2 e97' e98' => ⟨by unfold zI; omega, ?_⟩)
      have := m_answerL (G := G) (h := h) (Q := Q) hsl hP hC0 ha0 hk hz hlen hl16 hs q d (i + 1) (M := M2) (u := u) (by omega) (s2.trans (hM2.mono (fun a k p => by unfold zPaq; omega))) (by rw [e97', ij]) (by rw [e98', if_neg (by omega)])
      rw [zcs] at this
      exact this
