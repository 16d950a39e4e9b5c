/-! PARSER, the Model's machine: from part to part. -/
def zQG (G : zG) (h sl : Nat) (u : Nat × Nat × Nat × Nat) (l1 : Int) (Q : Int → zM → Prop) : Int → zM → Prop := fun r3 M4 => (r3 = 0 → zX G (y_Md_qSums, h + 1, sl) u 15 [(0, (2, 125)), (1, (0, l1)), (2, (0, 0))] [] M4 Q) ∧ (¬ r3 = 0 → zX G (y_Md_qSums, h + 1, sl) u 15 [(0, (2, 125)), (1, (0, l1)), (2, (0, 1))] [] M4 Q)
def zQP (G : zG) (h sl : Nat) (u : Nat × Nat × Nat × Nat) (l1 : Int) (Q : Int → zM → Prop) : Int → zM → Prop := fun _ M2 => (¬ (M2 125 5) = 0 → zX G (y_Md_qSums, h + 1, sl) u 15 [(0, (2, 125)), (1, (0, l1)), (2, (0, 0))] [] M2 Q) ∧ (¬ (¬ (M2 125 5) = 0) → zCt G h sl 0 0 y_Md_qGoesOn [(2, 125)] M2 (zQG G h sl u l1 Q))
/-- a part is asked next -/
def zAP (G : zG) (h sl : Nat) (u : Nat × Nat × Nat × Nat) (l1 : Int) (Q : Int → zM → Prop) (M0 : zM) (md : Int) (T : zTb) (m : Nat) (B : Int → Int) (n bs e : Nat) (C W : List Int) (op : Int) : Prop :=
  ∀ M u', zSm zPmq M0 M → zQs md T m B n bs e C W op M → zX G (y_Md_qPartTold, h + 4 + 1, sl) u' 2 [(0, (2, 125)), (1, (0, 1))] [] M (zQP G (h + 5) sl u l1 Q)
/-- a part has ended -/
def zAF (G : zG) (h sl : Nat) (u : Nat × Nat × Nat × Nat) (l1 : Int) (Q : Int → zM → Prop) (M0 : zM) (md : Int) (T : zTb) (m : Nat) (B : Int → Int) (n bs e : Nat) (C W : List Int) (op : Int) : Prop :=
  ∀ M u', zSm zPmq M0 M → zQs md T m B n bs e C W op M → zX G (y_Md_qGoesOn, h + 4 + 1, sl) u' 0 [(0, (2, 125))] [] M (zQG G (h + 5) sl u l1 Q)
def zc9 (M : zM) : Prop := 0 ≤ M 125 90 ∧ M 125 90 < 1699
theorem zc9.mt {M M' : zM} (h : zc9 M) (e : zSm zPmt M M') : zc9 M' := by
  unfold zc9
  rw [e _ _ (by unfold zPmt; omega)]
  exact h
theorem zQs.c9 {md : Int} {T : zTb} {m : Nat} {B : Int → Int} {n bs e : Nat} {C W : List Int} {op : Int} {M : zM} (h : zQs md T m B n bs e C W op M) (hl : C.length < 1699) : zc9 M := by
  unfold zc9
  rw [h.2.1.1]
  omega
/-- a fault ends all -/
def zFL (Q : Int → zM → Prop) (M0 : zM) (f p : Int) : Prop := ∀ M, zSm zPmq M0 M → zMF f p M → zc9 M → Q 0 M
theorem zFL.s15 {G : zG} {h sl : Nat} (hsl : 2 ≤ sl) {u : Nat × Nat × Nat × Nat} {l1 l2 : Int} {Q : Int → zM → Prop} {M0 M : zM} {f p : Int} (q : zFL Q M0 f p) (hf : f ≠ 0) (hM : zSm zPmq M0 M) (hx : zMF f p M) (h9 : zc9 M) : zX G (y_Md_qSums, h + 1, sl) u 15 [(0, (2, 125)), (1, (0, l1)), (2, (0, l2))] [] M Q := by
  have hb : ¬ M 125 5 = 0 := by rw [hx.1]; exact hf
  have g : zX G (y_Md_qSums, h + 1, sl) u 53 [(0, (2, 125)), (1, (0, l1))] [] M Q := B_Md_qSums_53 hsl ⟨fun _ => q _ (hM.wr (Or.inl ⟨rfl, by decide⟩)) ⟨by rw [zwr_k _ (by decide)]; exact hx.1, by rw [zwr_k _ (by decide)]; exact hx.2⟩ (by unfold zc9; rw [zwr_k _ (by decide)]; exact h9), fun y => absurd hb y⟩
  exact B_Md_qSums_15 hsl ⟨fun _ => g, fun _ => ⟨fun _ => g, fun y => absurd hb y⟩⟩
theorem zFL.P {G : zG} {h sl : Nat} (hsl : 2 ≤ sl) {u : Nat × Nat × Nat × Nat} {l1 r : Int} {Q : Int → zM → Prop} {M0 M : zM} {f p : Int} (q : zFL Q M0 f p) (hf : f ≠ 0) (hM : zSm zPmq M0 M) (hx : zMF f p M) (h9 : zc9 M) : zQP G h sl u l1 Q r M :=
  ⟨fun _ => q.s15 hsl hf hM hx h9, fun y => absurd (by rw [hx.1]; exact hf) y⟩
theorem zFL.P2 {G : zG} {h sl : Nat} (hsl : 2 ≤ sl) {u u' : Nat × Nat × Nat × Nat} {l1 l2 : Int} {Q : Int → zM → Prop} {M0 M : zM} {f p : Int} (q : zFL Q M0 f p) (hf : f ≠ 0) (hM : zSm zPmq M0 M) (hx : zMF f p M) (h9 : zc9 M) : zX G (y_Md_qPartTold, h + 4 + 1, sl) u' 2 [(0, (2, 125)), (1, (0, l2))] [] M (zQP G (h + 5) sl u l1 Q) := by
  have hb : ¬ M 125 5 = 0 := by rw [hx.1]; exact hf
  have g : zX G (y_Md_qPartTold, h + 4 + 1, sl) u' 186 [(0, (2, 125))] [] M (zQP G (h + 5) sl u l1 Q) := B_Md_qPartTold_186 hsl ⟨fun y => absurd y hb, fun _ => q.P hsl hf hM hx h9⟩
  exact B_Md_qPartTold_2 hsl ⟨fun _ => g, fun _ => ⟨fun _ => g, fun y => absurd hb y⟩⟩
theorem zFL.G {G : zG} {h sl : Nat} (hsl : 2 ≤ sl) {u : Nat × Nat × Nat × Nat} {l1 : Int} {Q : Int → zM → Prop} {M0 M : zM} {f p : Int} (q : zFL Q M0 f p) (hf : f ≠ 0) (hM : zSm zPmq M0 M) (hx : zMF f p M) (h9 : zc9 M) : zQG G h sl u l1 Q 0 M :=
  ⟨fun _ => q.s15 hsl hf hM hx h9, fun y => absurd rfl y⟩
/-- qSums asks for a part -/
theorem zAP.s15 {G : zG} {h sl : Nat} (hsl : 2 ≤ sl) {u : Nat × Nat × Nat × Nat} {l1 : Int} {Q : Int → zM → Prop} {M0 : zM} {md : Int} {T : zTb} {m : Nat} {B : Int → Int} {n bs e : Nat} {C W : List Int} {op : Int} (q : zAP G h sl u l1 Q M0 md T m B n bs e C W op) {M : zM} (hM : zSm zPmq M0 M) (hr : zQs md T m B n bs e C W op M) : zX G (y_Md_qSums, h + 5 + 1, sl) u 15 [(0, (2, 125)), (1, (0, l1)), (2, (0, 1))] [] M Q :=
  B_Md_qSums_15 hsl ⟨fun y => absurd y (by decide), fun _ => ⟨fun y => absurd hr.1.1.2.2 y, fun _ => E_Md_qPartTold hsl (q M _ hM hr)⟩⟩
/-- a part's end, at the call -/
theorem zAF.P {G : zG} {h sl : Nat} (hsl : 2 ≤ sl) {u : Nat × Nat × Nat × Nat} {l1 r : Int} {Q : Int → zM → Prop} {M0 : zM} {md : Int} {T : zTb} {m : Nat} {B : Int → Int} {n bs e : Nat} {C W : List Int} {op : Int} (q : zAF G h sl u l1 Q M0 md T m B n bs e C W op) {M : zM} (hM : zSm zPmq M0 M) (hr : zQs md T m B n bs e C W op M) : zQP G (h + 5) sl u l1 Q r M :=
  ⟨fun y => absurd hr.1.1.2.2 y, fun _ => zCt.of (by decide +kernel) (Nat.le_of_ble_eq_true rfl) (q M _ hM hr)⟩
/-- look and a sign -/
theorem zlk_s {B : Int → Int} {n e : Nat} {x : Int} (hx3 : zkdo x = 3) (hx0 : 0 ≤ x) : (if zfr B n e < n then B (zfr B n e : Nat) else -1) = x ↔ zsg B n e x = true := by
  unfold zsg
  rw [decide_eq_true_eq]
  by_cases c : zfr B n e < n
  · rw [if_pos c]
    constructor
    · intro y
      refine ⟨?_, y⟩
      have h3 : zrk B n e = 3 := by unfold zrk; rw [if_pos c, y]; exact hx3
      unfold zkd
      rw [if_neg (by omega)]
      exact h3
    · exact fun y => y.2
  · rw [if_neg c]
    constructor
    · intro y; omega
    · intro y
      have : zrk B n e = 3 := by rw [← zkd_rk (by omega)]; exact y.1
      exact absurd (zrk_lt (B := B) (n := n) (e := e) (by omega)) c
theorem zsg_ne {B : Int → Int} {n e : Nat} {x y : Int} (h : zsg B n e x = true) (hn : x ≠ y) : ¬ zsg B n e y = true := fun g => hn (by have a := (zsg_k h).2.2; have b := (zsg_k g).2.2; omega)
/-- qGoesOn, where no bracket is closed: from 122 on -/
theorem zAF.no {G : zG} {h sl : Nat} (hsl : 2 ≤ sl) {u : Nat × Nat × Nat × Nat} {l1 : Int} {Q : Int → zM → Prop} {M0 : zM} {md : Int} {T : zTb} {m : Nat} {B : Int → Int} {n bs e : Nat} {C W : List Int} {op : Int} (hn : n ≤ 1600) (he : e ≤ n) (hl : W.length ≤ 1700) (hc : zsg B n e 41 = true → ¬ (zbr bs W = 20 ∨ zbr bs W = 23 ∨ zbr bs W = 24)) (q : ∀ M u', zSm zPmq M0 M → zQs md T m B n bs e C W op M → zX G (y_Md_qGoesOn, h + 4 + 1, sl) u' 122 [(0, (2, 125))] [] M (zQG G (h + 5) sl u l1 Q)) : zAF G h sl u l1 Q M0 md T m B n bs e C W op := fun M u' hM hr => by
  refine B_Md_qGoesOn_0 hsl ⟨fun y => absurd hr.1.1.2.2 y, fun _ => m_look hsl hn he hr.1 (fun M1 h1 g1 => ?_)⟩
  have hr1 := hr.mv (zPwl_mt h1) g1.1
  have hM1 := hM.trans (zPwl_q h1)
  rw [zlk_s (by decide) (by decide)]
  refine ⟨fun _ => q M1 u' hM1 hr1, fun c => ?_⟩
  have hc := hc (Classical.byContradiction c)
  exact m_qBracket hsl hr1 hl ⟨fun y => absurd (Or.inl y) hc, fun _ => m_qBracket hsl hr1 hl ⟨fun y => absurd (Or.inr (Or.inl y)) hc, fun _ => m_qBracket hsl hr1 hl ⟨fun _ => q M1 u' hM1 hr1, fun y => absurd (Or.inr (Or.inr (Classical.byContradiction y))) hc⟩⟩⟩
theorem zgP_sg {B : Int → Int} {n e : Nat} (h : zgP B n e = none) : ¬ zsg B n e 42 = true ∧ ¬ zsg B n e 47 = true := by
  unfold zgP at h
  by_cases c : zsg B n e 42 = true
  · rw [if_pos c] at h; nomatch h
  · rw [if_neg c] at h
    by_cases c2 : zsg B n e 47 = true
    · rw [if_pos c2] at h; nomatch h
    · exact ⟨c, c2⟩
theorem zgS_sg {B : Int → Int} {n e : Nat} (h : zgS B n e = none) : ¬ zsg B n e 43 = true ∧ ¬ zsg B n e 45 = true := by
  unfold zgS at h
  by_cases c : zsg B n e 43 = true
  · rw [if_pos c] at h; nomatch h
  · rw [if_neg c] at h
    by_cases c2 : zsg B n e 45 = true
    · rw [if_pos c2] at h; nomatch h
    · exact ⟨c, c2⟩
/-- the byte that was taken -/
theorem zsg_at {B : Int → Int} {n e : Nat} {x : Int} {M : zM} (hn : n ≤ 1600) (h : zsg B n e x = true) (hx : zMx B n M) (h2 : M 125 2 = (zfr B n e : Nat) + 1) : zI (M 125 2 - 1) ∧ (0 ≤ M 125 2 - 1 ∧ M 125 2 - 1 < 1600) ∧ M 126 (M 125 2 - 1) = x := by
  have hk := zsg_k h
  have hl := zrk_lt (B := B) (n := n) (e := e) (by omega)
  rw [h2, show ((zfr B n e : Nat) : Int) + 1 - 1 = ((zfr B n e : Nat) : Int) from by omega]
  exact ⟨by unfold zI; omega, by omega, by rw [hx.2.1 _ (by omega) (by omega)]; exact hk.2.2⟩
theorem m_goP {G : zG} {h sl : Nat} (hsl : 2 ≤ sl) {u : Nat × Nat × Nat × Nat} {l1 : Int} {Q : Int → zM → Prop} {M0 : zM} {md : Int} {T : zTb} {m : Nat} {B : Int → Int} {n bs e : Nat} {C P V : List Int} {op j : Int} (hn : n ≤ 1600) (he : e ≤ n) (hj : zgP B n e = some j) (hP : ∀ x ∈ P, x = 3 ∨ x = 4) (hV : ¬ V.head? = some 3 ∧ ¬ V.head? = some 4) (hl : C.length + P.length + V.length ≤ e) (q : zAP G h sl u l1 Q M0 md T m B n bs (zto B n e) (C ++ P) (j :: V) op) : zAF G h sl u l1 Q M0 md T m B n bs e C (P ++ V) op := by
  have hz := zgP_h hj
  have hl2 : (P ++ V).length ≤ 1700 := by simp only [List.length_append]; omega
  refine zAF.no hsl hn he hl2 (fun c => ?_) (fun M u' hM hr => ?_)
  · rcases hz.2 with a | a
    · exact absurd c (zsg_ne a.2 (by decide))
    · exact absurd c (zsg_ne a.2 (by decide))
  · have go : ∀ x : Int, zsg B n e x = true → j = (if x = 42 then 3 else 4) → ∀ M1, zSm zPmt M M1 → zMd B n (zto B n e) M1 → M1 125 2 = (zfr B n e : Nat) + 1 → zX G (y_Md_qGoesOn, h + 4 + 1, sl) u' 140 [(0, (2, 125))] [] M1 (zQG G (h + 5) sl u l1 Q) := fun x hx ex M1 h1 g1 e1 => by
      have hr1 := hr.mv h1 g1
      have ha := zsg_at hn hx g1.1 e1
      have fin := m_go162 (G := G) (h := h + 3) (v := j) (M0 := M0) (Q := zQG G (h + 5) sl u l1 Q) hsl hV P C M1 u' hP (by omega) (hM.trans (zPmt_q h1)) hr1 (fun M2 h2 g2 => ⟨fun y => absurd y (by decide), fun _ => q.s15 hsl h2 g2⟩)
      refine B_Md_qGoesOn_140 hsl ⟨ha.1, ha.2.1, fun c => ?_, fun c => ?_⟩
      · rw [ha.2.2] at c
        rw [if_neg c] at ex
        rw [ex] at fin
        exact fin
      · rw [ha.2.2] at c
        rw [if_pos (Classical.byContradiction c)] at ex
        rw [ex] at fin
        exact fin
    refine B_Md_qGoesOn_122 hsl (m_takesSign hsl hn he hr.1 (by decide) (by decide) (fun c M1 h1 g1 e1 => ⟨fun _ => go 42 c ?_ M1 h1 g1 e1, fun y => absurd (by decide) y⟩) (fun c M1 h1 g1 => ⟨fun y => absurd rfl y, fun _ => m_takesSign hsl hn he g1.1 (by decide) (by decide) (fun c2 M2 h2 g2 e2 => ⟨fun y => absurd y (by decide), fun _ => go 47 c2 ?_ M2 (h1.trans h2) g2 e2⟩) (fun c2 M2 h2 g2 => ?_)⟩))
    · rw [if_pos rfl]
      rcases hz.2 with a | a
      · exact a.1
      · exact absurd c (zsg_ne a.2 (by decide))
    · rw [if_neg (by decide)]
      rcases hz.2 with a | a
      · exact absurd a.2 c
      · exact a.1
    · rcases hz.2 with a | a
      · exact absurd a.2 c
      · exact absurd a.2 c2
theorem m_goS {G : zG} {h sl : Nat} (hsl : 2 ≤ sl) {u : Nat × Nat × Nat × Nat} {l1 : Int} {Q : Int → zM → Prop} {M0 : zM} {md : Int} {T : zTb} {m : Nat} {B : Int → Int} {n bs e : Nat} {C P V : List Int} {op j : Int} (hn : n ≤ 1600) (he : e ≤ n) (hp : zgP B n e = none) (hj : zgS B n e = some j) (hP : ∀ x ∈ P, 1 ≤ x ∧ x ≤ 4) (hV : ∀ x : Int, 1 ≤ x → x ≤ 4 → ¬ V.head? = some x) (hl : C.length + P.length + V.length ≤ e) (q : zAP G h sl u l1 Q M0 md T m B n bs (zto B n e) (C ++ P) (j :: V) op) : zAF G h sl u l1 Q M0 md T m B n bs e C (P ++ V) op := by
  have hz := zgS_h hj
  have hp := zgP_sg hp
  have hl2 : (P ++ V).length ≤ 1700 := by simp only [List.length_append]; omega
  refine zAF.no hsl hn he hl2 (fun c => ?_) (fun M u' hM hr => ?_)
  · rcases hz.2 with a | a
    · exact absurd c (zsg_ne a.2 (by decide))
    · exact absurd c (zsg_ne a.2 (by decide))
  · have go : ∀ x : Int, zsg B n e x = true → j = (if x = 43 then 1 else 2) → ∀ M1, zSm zPmt M M1 → zMd B n (zto B n e) M1 → M1 125 2 = (zfr B n e : Nat) + 1 → zX G (y_Md_qGoesOn, h + 4 + 1, sl) u' 225 [(0, (2, 125))] [] M1 (zQG G (h + 5) sl u l1 Q) := fun x hx ex M1 h1 g1 e1 => by
      have hr1 := hr.mv h1 g1
      have ha := zsg_at hn hx g1.1 e1
      have fin := m_go247 (G := G) (h := h + 3) (v := j) (M0 := M0) (Q := zQG G (h + 5) sl u l1 Q) hsl hV P C M1 u' hP (by omega) (hM.trans (zPmt_q h1)) hr1 (fun M2 h2 g2 => ⟨fun y => absurd y (by decide), fun _ => q.s15 hsl h2 g2⟩)
      refine B_Md_qGoesOn_225 hsl ⟨ha.1, ha.2.1, fun c => ?_, fun c => ?_⟩
      · rw [ha.2.2] at c
        rw [if_neg c] at ex
        rw [ex] at fin
        exact fin
      · rw [ha.2.2] at c
        rw [if_pos (Classical.byContradiction c)] at ex
        rw [ex] at fin
        exact fin
    refine B_Md_qGoesOn_122 hsl (m_takesSign hsl hn he hr.1 (by decide) (by decide) (fun c => absurd c hp.1) (fun c M1 h1 g1 => ⟨fun y => absurd rfl y, fun _ => m_takesSign hsl hn he g1.1 (by decide) (by decide) (fun c2 => absurd c2 hp.2) (fun c2 M2 h2 g2 => ⟨fun _ => m_takesSign hsl hn he g2.1 (by decide) (by decide) (fun c3 M3 h3 g3 e3 => ⟨fun _ => go 43 c3 ?_ M3 ((h1.trans h2).trans h3) g3 e3, fun y => absurd (by decide) y⟩) (fun c3 M3 h3 g3 => ⟨fun y => absurd rfl y, fun _ => m_takesSign hsl hn he g3.1 (by decide) (by decide) (fun c4 M4 h4 g4 e4 => ⟨fun y => absurd y (by decide), fun _ => go 45 c4 ?_ M4 (((h1.trans h2).trans h3).trans h4) g4 e4⟩) (fun c4 M4 h4 g4 => ?_)⟩), fun y => absurd rfl y⟩)⟩))
    · rw [if_pos rfl]
      rcases hz.2 with a | a
      · exact a.1
      · exact absurd c3 (zsg_ne a.2 (by decide))
    · rw [if_neg (by decide)]
      rcases hz.2 with a | a
      · exact absurd a.2 c3
      · exact a.1
    · rcases hz.2 with a | a
      · exact absurd a.2 c3
      · exact absurd a.2 c4
