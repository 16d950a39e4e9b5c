/-! PARSER, the Model's machine: from test to test. -/
def zTG (G : zG) (h sl : Nat) (u : Nat × Nat × Nat × Nat) (Q : Int → zM → Prop) : Int → zM → Prop := fun r10 M11 => (r10 = 0 → zX G (y_Md_qTest, h + 1, sl) u 2 [(0, (2, 125)), (1, (0, 0))] [] M11 Q) ∧ (¬ r10 = 0 → zX G (y_Md_qTest, h + 1, sl) u 2 [(0, (2, 125)), (1, (0, 1))] [] M11 Q)
/-- a test is asked next -/
def zTP (G : zG) (h sl : Nat) (u : Nat × Nat × Nat × Nat) (Q : Int → zM → Prop) (M0 : zM) (md : Int) (T : zTb) (m : Nat) (B : Int → Int) (n e : Nat) (C W : List Int) (op : Int) : Prop :=
  ∀ M, zSm zPmq M0 M → zQs md T m B n 0 e C W op M → zX G (y_Md_qTest, h + 7 + 1, sl) u 2 [(0, (2, 125)), (1, (0, 1))] [] M Q
/-- a test has ended -/
def zTF (G : zG) (h sl : Nat) (u : Nat × Nat × Nat × Nat) (Q : Int → zM → Prop) (M0 : zM) (md : Int) (T : zTb) (m : Nat) (B : Int → Int) (n e : Nat) (C W : List Int) (op : Int) : Prop :=
  ∀ M u', zSm zPmq M0 M → zQs md T m B n 0 e C W op M → zX G (y_Md_qGoesOnTest, h + 6 + 1, sl) u' 0 [(0, (2, 125))] [] M (zTG G (h + 7) sl u Q)
/-- a fault ends a test -/
def zFT (Q : Int → zM → Prop) (M0 : zM) (f p : Int) : Prop := ∀ M, zSm zPmq M0 M → zMF f p M → Q 0 M
theorem zFT.t2 {G : zG} {h sl : Nat} (hsl : 2 ≤ sl) {u : Nat × Nat × Nat × Nat} {l2 : Int} {Q : Int → zM → Prop} {M0 M : zM} {f p : Int} (q : zFT Q M0 f p) (hf : f ≠ 0) (hM : zSm zPmq M0 M) (hx : zMF f p M) : zX G (y_Md_qTest, h + 1, sl) u 2 [(0, (2, 125)), (1, (0, l2))] [] M Q := by
  have hb : ¬ M 125 5 = 0 := by rw [hx.1]; exact hf
  have g : zX G (y_Md_qTest, h + 1, sl) u 110 [(0, (2, 125))] [] M Q := B_Md_qTest_110 hsl ⟨fun _ => q M hM hx, fun y => absurd hb y⟩
  exact B_Md_qTest_2 hsl ⟨fun _ => g, fun _ => ⟨fun _ => g, fun y => absurd hb y⟩⟩
theorem zFT.T {G : zG} {h sl : Nat} (hsl : 2 ≤ sl) {u : Nat × Nat × Nat × Nat} {Q : Int → zM → Prop} {M0 M : zM} {f p : Int} (q : zFT Q M0 f p) (hf : f ≠ 0) (hM : zSm zPmq M0 M) (hx : zMF f p M) : zTG G h sl u Q 0 M :=
  ⟨fun _ => q.t2 hsl hf hM hx, fun y => absurd rfl y⟩
/-- qGoesOnTest, where no bracket is closed -/
theorem zTF.no {G : zG} {h sl : Nat} (hsl : 2 ≤ sl) {u : Nat × Nat × Nat × Nat} {Q : Int → zM → Prop} {M0 : zM} {md : Int} {T : zTb} {m : Nat} {B : Int → Int} {n e : Nat} {C W : List Int} {op : Int} (hn : n ≤ 1600) (he : e ≤ n) (hl : W.length ≤ 1700) (hc : zsg B n e 93 = true → 25 ∉ W) (q : ∀ M u', zSm zPmq M0 M → zQs md T m B n 0 e C W op M → zX G (y_Md_qGoesOnTest, h + 6 + 1, sl) u' 76 [(0, (2, 125))] [] M (zTG G (h + 7) sl u Q)) : zTF G h sl u Q M0 md T m B n e C W op := fun M u' hM hr => by
  refine B_Md_qGoesOnTest_0 hsl ⟨fun y => absurd hr.1.1.2.2 y, fun _ => m_look hsl hn he hr.1 (fun M1 h1 g1 => ?_)⟩
  have hr1 := hr.mv (zPwl_mt h1) g1.1
  have hM1 := hM.trans (zPwl_q h1)
  rw [zlk_s (by decide) (by decide)]
  refine ⟨fun _ => q M1 u' hM1 hr1, fun c => ?_⟩
  have hc := hc (Classical.byContradiction c)
  exact m_qHasSquare hsl hr1 hl (fun y => absurd y hc) (fun _ => ⟨fun _ => q M1 u' hM1 hr1, fun y => absurd rfl y⟩)
theorem m_go87 {G : zG} {h sl : Nat} (hsl : 2 ≤ sl) {md : Int} {T : zTb} {m : Nat} {B : Int → Int} {n bs e : Nat} {W : List Int} {op : Int} {M0 : zM} {Q : Int → zM → Prop} (hW : ¬ W.head? = some 10) : ∀ (P C : List Int) (M : zM) u, (∀ x ∈ P, x = 10) → C.length + P.length + W.length < 1699 → zSm zPmq M0 M → zQs md T m B n bs e C (P ++ W) op M → (∀ M', zSm zPmq M0 M' → zQs md T m B n bs e (C ++ P) (10 :: W) op M' → Q 1 M') → zX G (y_Md_qGoesOnTest, h + 1 + 1, sl) u 87 [(0, (2, 125))] [] M Q
  | [], C, M, u, hP, hl, hM, hr, q => by
    simp only [List.nil_append, List.length_nil] at hr hl
    have hp := hr.push (v := 10)
    refine B_Md_qGoesOnTest_87 hsl (m_qIsOn hsl hr (by omega) (fun g => absurd g hW) (fun g => ⟨fun _ => ?_, fun y => absurd rfl y⟩))
    obtain ⟨a, b, c, d, f⟩ := hr
    rw [zwr_o (a := 125) _ (by decide), c.1]
    exact ⟨by omega, by unfold zI; omega, q _ (hM.trans hp.1) (by rw [List.append_nil]; exact hp.2)⟩
  | x :: P, C, M, u, hP, hl, hM, hr, q => by
    have hx := hP x (List.mem_cons_self ..)
    simp only [List.cons_append, List.length_cons] at hr hl
    refine B_Md_qGoesOnTest_87 hsl (m_qIsOn hsl hr (by simp only [List.length_cons, List.length_append]; omega) (fun g => ⟨fun y => absurd y (by decide), fun _ => ?_⟩) (fun g => absurd (by rw [List.head?_cons, hx]) g))
    exact m_qDrops hsl hr (by simp only [List.length_append]; omega) (fun M' hM' h' => m_go87 hsl hW P (C ++ [x]) M' u (fun y hy => hP y (List.mem_cons_of_mem _ hy)) (by simp only [List.length_append, List.length_cons, List.length_nil]; omega) (hM.trans hM') h' (fun M2 hM2 h2 => q M2 hM2 (by simpa only [List.append_assoc, List.cons_append, List.nil_append] using h2)))
theorem m_go137 {G : zG} {h sl : Nat} (hsl : 2 ≤ sl) {md : Int} {T : zTb} {m : Nat} {B : Int → Int} {n bs e : Nat} {W : List Int} {op : Int} {M0 : zM} {Q : Int → zM → Prop} (hW : ¬ W.head? = some 10 ∧ ¬ W.head? = some 11) : ∀ (P C : List Int) (M : zM) u, (∀ x ∈ P, x = 10 ∨ x = 11) → C.length + P.length + W.length < 1699 → zSm zPmq M0 M → zQs md T m B n bs e C (P ++ W) op M → (∀ M', zSm zPmq M0 M' → zQs md T m B n bs e (C ++ P) (11 :: W) op M' → Q 1 M') → zX G (y_Md_qGoesOnTest, h + 1 + 1, sl) u 137 [(0, (2, 125))] [] M Q
  | [], C, M, u, hP, hl, hM, hr, q => by
    simp only [List.nil_append, List.length_nil] at hr hl
    have hp := hr.push (v := 11)
    refine B_Md_qGoesOnTest_137 hsl (m_qIsOn hsl hr (by omega) (fun g => absurd g hW.1) (fun g => ⟨fun y => absurd rfl y, fun _ => m_qIsOn hsl hr (by omega) (fun g2 => absurd g2 hW.2) (fun g2 => ⟨fun _ => ?_, fun y => absurd rfl y⟩)⟩))
    obtain ⟨a, b, c, d, f⟩ := hr
    rw [zwr_o (a := 125) _ (by decide), c.1]
    exact ⟨by omega, by unfold zI; omega, q _ (hM.trans hp.1) (by rw [List.append_nil]; exact hp.2)⟩
  | x :: P, C, M, u, hP, hl, hM, hr, q => by
    have hx := hP x (List.mem_cons_self ..)
    simp only [List.cons_append, List.length_cons] at hr hl
    have go : zX G (y_Md_qGoesOnTest, h + 1 + 1, sl) u 155 [(0, (2, 125))] [] M Q := B_Md_qGoesOnTest_155 hsl (m_qDrops hsl hr (by simp only [List.length_append]; omega) (fun M' hM' h' => m_go137 hsl hW P (C ++ [x]) M' u (fun y hy => hP y (List.mem_cons_of_mem _ hy)) (by simp only [List.length_append, List.length_cons, List.length_nil]; omega) (hM.trans hM') h' (fun M2 hM2 h2 => q M2 hM2 (by simpa only [List.append_assoc, List.cons_append, List.nil_append] using h2))))
    refine B_Md_qGoesOnTest_137 hsl (m_qIsOn hsl hr (by simp only [List.length_cons, List.length_append]; omega) (fun g => ⟨fun _ => go, fun y => absurd (by decide) y⟩) (fun g => ⟨fun y => absurd rfl y, fun _ => m_qIsOn hsl hr (by simp only [List.length_cons, List.length_append]; omega) (fun g2 => ⟨fun y => absurd y (by decide), fun _ => go⟩) (fun g2 => ?_)⟩))
    rcases hx with rfl | rfl
    · exact absurd rfl g
    · exact absurd rfl g2
/-- a square is closed: what waits above it goes -/
theorem m_go33 {G : zG} {h sl : Nat} (hsl : 2 ≤ sl) {md : Int} {T : zTb} {m : Nat} {B : Int → Int} {n bs e : Nat} {nots W : List Int} {op0 : Int} {M0 : zM} {Q : Int → zM → Prop} (hW : ¬ W.head? = some 12) (h0 : 0 ≤ op0 ∧ op0 ≤ 6) (hno : ∀ x ∈ nots, x = 12) (hn6 : nots.length ≤ 6) : ∀ (P C : List Int) (M : zM) u, (∀ x ∈ P, x = 10 ∨ x = 11) → C.length + P.length + nots.length + W.length + 1 < 1699 → zSm zPmq M0 M → zQs md T m B n bs e C (P ++ (25 :: (nots ++ W))) (op0 + nots.length + 1) M → (∀ M', zSm zPmq M0 M' → zQs md T m B n bs e (C ++ P ++ nots) W op0 M' → zX G (y_Md_qGoesOnTest, h + 2 + 1, sl) u 0 [(0, (2, 125))] [] M' Q) → zX G (y_Md_qGoesOnTest, h + 2 + 1, sl) u 33 [(0, (2, 125))] [] M Q
  | [], C, M, u, hP, hl, hM, hr, q => by
    simp only [List.length_nil] at hl
    have hr : zQs md T m B n bs e C (25 :: (nots ++ W)) (op0 + nots.length + 1) M := hr
    refine B_Md_qGoesOnTest_33 hsl (m_qIsOn hsl hr (by simp only [List.length_cons, List.length_append]; omega) (fun _ => ⟨fun _ => ?_, fun y => absurd (by decide) y⟩) (fun g => absurd rfl g))
    have hpop := hr.pop
    have hop := hpop.2.op (v := op0 + nots.length + 1 - 1)
    have e92 : M 125 92 - 1 = ((nots ++ W).length : Int) := by rw [hr.2.2.1.1]; simp only [List.length_cons]; omega
    have e93 : (zwr M 125 92 ((nots ++ W).length : Int)) 125 93 = op0 + nots.length + 1 := by rw [zwr_k _ (by decide)]; exact hr.2.2.2.1.1
    rw [e92, e93]
    refine ⟨by unfold zI; simp only [List.length_append]; omega, by unfold zI; omega, ?_⟩
    have g4 := hop.2
    rw [show op0 + (nots.length : Int) + 1 - 1 = op0 + (nots.length : Int) from by omega] at g4 ⊢
    have z4 := (hM.trans hpop.1).trans hop.1
    rw [show op0 + (nots.length : Int) + 1 - 1 = op0 + (nots.length : Int) from by omega] at z4
    exact m_qDropsNots hsl hW h0 hno (by omega) g4 (fun M' hM' h' => q M' (z4.trans hM') (by rw [List.append_nil]; exact h'))
  | x :: P, C, M, u, hP, hl, hM, hr, q => by
    have hx := hP x (List.mem_cons_self ..)
    simp only [List.cons_append, List.length_cons] at hr hl
    refine B_Md_qGoesOnTest_33 hsl (m_qIsOn hsl hr (by simp only [List.length_cons, List.length_append]; omega) (fun g => absurd (by rw [List.head?_cons] at g; injection g) (show ¬ x = 25 by omega)) (fun g => ⟨fun y => absurd rfl y, fun _ => ?_⟩))
    exact m_qDrops hsl hr (by simp only [List.length_append, List.length_cons]; omega) (fun M' hM' h' => m_go33 hsl hW h0 hno hn6 P (C ++ [x]) M' u (fun y hy => hP y (List.mem_cons_of_mem _ hy)) (by simp only [List.length_append, List.length_cons, List.length_nil]; omega) (hM.trans hM') h' (fun M2 hM2 h2 => q M2 hM2 (by simpa only [List.append_assoc, List.cons_append, List.nil_append] using h2)))
theorem zgA_wd {B : Int → Int} {n e : Nat} (h : zgA B n e = none) : ¬ zwrd B n e zo_and = true := by
  unfold zgA at h
  by_cases c : zwrd B n e zo_and = true
  · rw [if_pos c] at h; nomatch h
  · exact c
theorem zgO_wd {B : Int → Int} {n e : Nat} (h : zgO B n e = none) : ¬ zwrd B n e zo_or = true := by
  unfold zgO at h
  by_cases c : zwrd B n e zo_or = true
  · rw [if_pos c] at h; nomatch h
  · exact c
theorem zwrd_sg {B : Int → Int} {n e : Nat} {w : List Int} {x : Int} (h : zwrd B n e w = true) : ¬ zsg B n e x = true := fun g => by
  have a := (zwrd_k h).1
  have b := (zsg_k g).1
  omega
theorem m_goA {G : zG} {h sl : Nat} (hsl : 2 ≤ sl) {u : Nat × Nat × Nat × Nat} {Q : Int → zM → Prop} {M0 : zM} {md : Int} {T : zTb} {m : Nat} {B : Int → Int} {n e : Nat} {C P V : List Int} {op j : Int} (hn : n ≤ 1600) (he : e ≤ n) (hj : zgA B n e = some j) (hP : ∀ x ∈ P, x = 10) (hV : ¬ V.head? = some 10) (hl : C.length + P.length + V.length ≤ e) (q : zTP G h sl u Q M0 md T m B n (zto B n e) (C ++ P) (j :: V) op) : zTF G h sl u Q M0 md T m B n e C (P ++ V) op := by
  have hz := zgA_h hj
  have hl2 : (P ++ V).length ≤ 1700 := by simp only [List.length_append]; omega
  refine zTF.no hsl hn he hl2 (fun c => absurd c (zwrd_sg hz.2.2)) (fun M u' hM hr => B_Md_qGoesOnTest_76 hsl (m_takes hsl hn he hr.1 zo_180 (by decide) (fun c M1 h1 g1 => ⟨fun y => absurd y (by decide), fun _ => ?_⟩) (fun c => absurd hz.2.2 c)))
  have hr1 := hr.mv h1 g1
  rw [hz.2.1] at q
  exact m_go87 (h := h + 5) (M0 := M0) hsl hV P C M1 u' hP (by omega) (hM.trans (zPmt_q h1)) hr1 (fun M2 h2 g2 => ⟨fun y => absurd y (by decide), fun _ => q M2 h2 g2⟩)
theorem m_goO {G : zG} {h sl : Nat} (hsl : 2 ≤ sl) {u : Nat × Nat × Nat × Nat} {Q : Int → zM → Prop} {M0 : zM} {md : Int} {T : zTb} {m : Nat} {B : Int → Int} {n e : Nat} {C P V : List Int} {op j : Int} (hn : n ≤ 1600) (he : e ≤ n) (hj : zgO B n e = some j) (hP : ∀ x ∈ P, x = 10 ∨ x = 11) (hV : ¬ V.head? = some 10 ∧ ¬ V.head? = some 11) (hl : C.length + P.length + V.length ≤ e) (q : zTP G h sl u Q M0 md T m B n (zto B n e) (C ++ P) (j :: V) op) : zTF G h sl u Q M0 md T m B n e C (P ++ V) op := by
  have hz := zgO_h hj
  have hl2 : (P ++ V).length ≤ 1700 := by simp only [List.length_append]; omega
  refine zTF.no hsl hn he hl2 (fun c => absurd c (zwrd_sg hz.2.2)) (fun M u' hM hr => B_Md_qGoesOnTest_76 hsl (m_takes hsl hn he hr.1 zo_180 (by decide) (fun c => absurd (zwrd_uq c hz.2.2) (by decide)) (fun c M1 h1 g1 => ⟨fun _ => m_takes hsl hn he g1.1 zo_181 (by decide) (fun c2 M2 h2 g2 => ⟨fun y => absurd y (by decide), fun _ => ?_⟩) (fun c2 => absurd hz.2.2 c2), fun y => absurd rfl y⟩)))
  have h12 := h1.trans h2
  have hr2 := hr.mv h12 g2
  rw [hz.2.1] at q
  exact m_go137 (h := h + 5) (M0 := M0) hsl hV P C M2 u' hP (by omega) (hM.trans (zPmt_q h12)) hr2 (fun M3 h3 g3 => ⟨fun y => absurd y (by decide), fun _ => q M3 h3 g3⟩)
/-- no word goes on -/
theorem m_go76 {G : zG} {h sl : Nat} (hsl : 2 ≤ sl) {u' : Nat × Nat × Nat × Nat} {Q : Int → zM → Prop} {M0 M : zM} {md : Int} {T : zTb} {m : Nat} {B : Int → Int} {n bs e : Nat} {C W : List Int} {op : Int} (hn : n ≤ 1600) (he : e ≤ n) (hl : W.length ≤ 1700) (ha : zgA B n e = none) (ho : zgO B n e = none) (hM : zSm zPmq M0 M) (hr : zQs md T m B n bs e C W op M) (qf : 25 ∈ W → ∀ M1, zSm zPmq M0 M1 → zMF 1 (zfr B n e : Nat) M1 → Q 0 M1) (q0 : 25 ∉ W → ∀ M1, zSm zPmq M0 M1 → zQs md T m B n bs e C W op M1 → Q 0 M1) : zX G (y_Md_qGoesOnTest, h + 6 + 1, sl) u' 76 [(0, (2, 125))] [] M Q := by
  refine B_Md_qGoesOnTest_76 hsl (m_takes hsl hn he hr.1 zo_180 (by decide) (fun c => absurd c (zgA_wd ha)) (fun c M1 h1 g1 => ⟨fun _ => m_takes hsl hn he g1.1 zo_181 (by decide) (fun c2 => absurd c2 (zgO_wd ho)) (fun c2 M2 h2 g2 => ⟨fun _ => ?_, fun y => absurd rfl y⟩), fun y => absurd rfl y⟩))
  have h12 := h1.trans h2
  have hr2 := hr.mv h12 g2.1
  have hM2 := hM.trans (zPmt_q h12)
  refine ⟨fun y => absurd g2.1.1.2.2 y, fun _ => m_qHasSquare hsl hr2 hl (fun c3 => ⟨fun y => absurd y (by decide), fun _ => ?_⟩) (fun c3 => ⟨fun _ => q0 c3 M2 hM2 hr2, fun y => absurd rfl y⟩)⟩
  rw [g2.2]
  exact m_fail0 hsl g2.1.1.2.2 (fun M3 h3 g3 => qf c3 M3 (hM2.trans (zPmt_q h3)) g3)
