/-! PARSER, the Model's machine: drops. -/
/-- W ends at the base, or a bracket stands on it -/
def zstp (bs : Nat) (W : List Int) : Prop := bs ≤ W.length ∧ (W.length = bs ∨ ∃ b r, W = b :: r ∧ 20 ≤ b ∧ b ≤ 24)
theorem m_dtbL {G : zG} {h sl : Nat} (hsl : 2 ≤ sl) {md : Int} {T : zTb} {m : Nat} {B : Int → Int} {n bs e : Nat} {W : List Int} {op : Int} {M0 : zM} {Q : Int → zM → Prop} (hW : zstp bs W) : ∀ (P C : List Int) (M : zM) u, (∀ x ∈ P, 1 ≤ x ∧ x ≤ 4) → C.length + P.length + W.length < 1699 → zSm zPmq M0 M → zQs md T m B n bs e C (P ++ W) op M → (∀ M', zSm zPmq M0 M' → zQs md T m B n bs e (C ++ P) W op M' → Q 0 M') → zX G (y_Md_qDropsToBracket, h + 1 + 1, sl) u 0 [(0, (2, 125))] [] M Q
  | [], C, M, u, hP, hl, hM, hr, q => by
    have q1 := q M hM (by rw [List.append_nil]; exact hr)
    obtain ⟨a, b, c, d, f⟩ := hr
    simp only [List.nil_append, List.length_nil] at c hl
    refine B_Md_qDropsToBracket_0 hsl ?_
    rw [c.1, d.2.1]
    refine ⟨fun _ => q1, fun g => ?_⟩
    rcases hW.2 with hw | ⟨b1, r, rfl, hb⟩
    · exact absurd (by omega) g
    · simp only [List.length_cons] at hl g ⊢
      rw [show ((r.length + 1 : Nat) : Int) - 1 = (r.length : Int) from by omega, c.2.1]
      exact ⟨by unfold zI; omega, by omega, m_qIsBracket hsl (fun _ => ⟨fun _ => q1, fun y => absurd (by decide) y⟩) (fun g2 => absurd hb g2)⟩
  | x :: P, C, M, u, hP, hl, hM, hr, q => by
    have hx := hP x (List.mem_cons_self ..)
    have hr : zQs md T m B n bs e C (x :: (P ++ W)) _ M := hr
    obtain ⟨a, b, c, d, f⟩ := id hr
    simp only [List.cons_append, List.length_cons, List.length_append] at c hl
    refine B_Md_qDropsToBracket_0 hsl ?_
    rw [c.1, d.2.1]
    refine ⟨fun g => absurd g (by have := hW.1; omega), fun _ => ?_⟩
    rw [show ((P.length + W.length + 1 : Nat) : Int) - 1 = ((P ++ W).length : Int) from by simp only [List.length_append]; omega, c.2.1]
    refine ⟨by unfold zI; simp only [List.length_append]; omega, by simp only [List.length_append]; omega, m_qIsBracket hsl (fun g => absurd g (by omega)) (fun _ => ⟨fun y => absurd rfl y, fun _ => m_qDrops hsl hr (by simp only [List.length_append]; omega) (fun M' hM' h' => ?_)⟩)⟩
    exact m_dtbL hsl hW P (C ++ [x]) M' u (fun y hy => hP y (List.mem_cons_of_mem _ hy)) (by simp only [List.length_append, List.length_cons, List.length_nil]; omega) (hM.trans hM') h' (fun M2 hM2 h2 => q M2 hM2 (by simpa only [List.append_assoc, List.cons_append, List.nil_append] using h2))
theorem m_qDropsToBracket {G : zG} {h sl : Nat} (hsl : 2 ≤ sl) {md : Int} {T : zTb} {m : Nat} {B : Int → Int} {n bs e : Nat} {P C W : List Int} {op : Int} {M : zM} {Q : Int → zM → Prop} (hW : zstp bs W) (hP : ∀ x ∈ P, 1 ≤ x ∧ x ≤ 4) (hl : C.length + P.length + W.length < 1699) (hr : zQs md T m B n bs e C (P ++ W) op M) (q : ∀ M', zSm zPmq M M' → zQs md T m B n bs e (C ++ P) W op M' → Q 0 M') : zCt G (h + 2) sl 0 0 y_Md_qDropsToBracket [(2, 125)] M Q :=
  zCt.of (by decide +kernel) (Nat.le_of_ble_eq_true rfl) (m_dtbL hsl hW P C M _ hP hl (zSm.refl _ M) hr q)
theorem m_qendL {G : zG} {h sl : Nat} (hsl : 2 ≤ sl) {md : Int} {T : zTb} {m : Nat} {B : Int → Int} {n bs e : Nat} {W : List Int} {op0 : Int} {M0 : zM} {Q : Int → zM → Prop} (hW : bs ≤ W.length ∧ (W.length = bs ∨ ∃ b r, W = b :: r ∧ b < 60)) (h0 : 0 ≤ op0 ∧ op0 ≤ 6) : ∀ (P C : List Int) (M : zM) u, (∀ x ∈ P, 60 ≤ x) → C.length + P.length + W.length < 1699 → zSm zPmq M0 M → zQs md T m B n bs e C (P ++ W) (op0 + P.length) M → (∀ M', zSm zPmq M0 M' → zQs md T m B n bs e (C ++ P) W op0 M' → Q 0 M') → zX G (y_Md_qEndsPart, h + 1 + 1, sl) u 0 [(0, (2, 125))] [] M Q
  | [], C, M, u, hP, hl, hM, hr, q => by
    have q1 := q M hM (by rw [List.append_nil]; simpa using hr)
    obtain ⟨a, b, c, d, f⟩ := hr
    simp only [List.nil_append, List.length_nil] at c hl
    refine B_Md_qEndsPart_0 hsl ⟨fun g => absurd a.1.2.2 g, fun _ => ?_⟩
    rw [c.1, d.2.1]
    refine ⟨fun _ => q1, fun g => ?_⟩
    rcases hW.2 with hw | ⟨b1, r, rfl, hb⟩
    · exact absurd (by omega) g
    · simp only [List.length_cons] at hl g ⊢
      rw [show ((r.length + 1 : Nat) : Int) - 1 = (r.length : Int) from by omega, c.2.1]
      exact ⟨by unfold zI; omega, by omega, fun _ => q1, fun g2 => absurd hb g2⟩
  | x :: P, C, M, u, hP, hl, hM, hr, q => by
    have hx := hP x (List.mem_cons_self ..)
    have hr : zQs md T m B n bs e C (x :: (P ++ W)) _ M := hr
    obtain ⟨a, b, c, d, f⟩ := id hr
    simp only [List.cons_append, List.length_cons, List.length_append] at c hl d
    refine B_Md_qEndsPart_0 hsl ⟨fun g => absurd a.1.2.2 g, fun _ => ?_⟩
    rw [c.1, d.2.1]
    refine ⟨fun g => absurd g (by have := hW.1; omega), fun _ => ?_⟩
    rw [show ((P.length + W.length + 1 : Nat) : Int) - 1 = ((P ++ W).length : Int) from by simp only [List.length_append]; omega, c.2.1, d.1]
    have ho := hr.op (v := op0 + ((P.length + 1 : Nat) : Int) - 1)
    refine ⟨by unfold zI; simp only [List.length_append]; omega, by simp only [List.length_append]; omega, fun g => absurd g (by omega), fun _ => ⟨?_, m_qDrops hsl ho.2 (by simp only [List.length_append]; omega) (fun M' hM' h' => ?_)⟩⟩
    · unfold zI
      omega
    · exact m_qendL hsl hW h0 P (C ++ [x]) M' u (fun y hy => hP y (List.mem_cons_of_mem _ hy)) (by simp only [List.length_append, List.length_cons, List.length_nil]; omega) ((hM.trans ho.1).trans hM') (by rw [show op0 + (P.length : Int) = op0 + ((P.length + 1 : Nat) : Int) - 1 from by omega]; exact h') (fun M2 hM2 h2 => q M2 hM2 (by simpa only [List.append_assoc, List.cons_append, List.nil_append] using h2))
theorem m_qEndsPart {G : zG} {h sl : Nat} (hsl : 2 ≤ sl) {md : Int} {T : zTb} {m : Nat} {B : Int → Int} {n bs e : Nat} {P C W : List Int} {op0 : Int} {M : zM} {Q : Int → zM → Prop} (hW : bs ≤ W.length ∧ (W.length = bs ∨ ∃ b r, W = b :: r ∧ b < 60)) (h0 : 0 ≤ op0 ∧ op0 ≤ 6) (hP : ∀ x ∈ P, 60 ≤ x) (hl : C.length + P.length + W.length < 1699) (hr : zQs md T m B n bs e C (P ++ W) (op0 + P.length) M) (q : ∀ M', zSm zPmq M M' → zQs md T m B n bs e (C ++ P) W op0 M' → Q 0 M') : zCt G (h + 2) sl 0 0 y_Md_qEndsPart [(2, 125)] M Q :=
  zCt.of (by decide +kernel) (Nat.le_of_ble_eq_true rfl) (m_qendL hsl hW h0 P C M _ hP hl (zSm.refl _ M) hr q)
theorem m_qEndsPartF {G : zG} {h sl : Nat} (hsl : 2 ≤ sl) {M : zM} {Q : Int → zM → Prop} (hb : ¬ M 125 5 = 0) (q : Q 0 M) : zCt G (h + 1) sl 0 0 y_Md_qEndsPart [(2, 125)] M Q :=
  E_Md_qEndsPart hsl ⟨fun _ => q, fun g => absurd hb g⟩
theorem m_qOpens {G : zG} {h sl : Nat} (hsl : 2 ≤ sl) {md : Int} {T : zTb} {m : Nat} {B : Int → Int} {n bs e : Nat} {C W : List Int} {op x p : Int} {M : zM} {Q : Int → zM → Prop} (hr : zQs md T m B n bs e C W op M) (hl : W.length < 1700) (h0 : 0 ≤ op ∧ op ≤ 6) (q1 : op < 6 → ∀ M', zSm zPmq M M' → M' 125 2 = M 125 2 → zQs md T m B n bs e C (x :: W) (op + 1) M' → Q 0 M') (q4 : ¬ op < 6 → ∀ M', zSm zPmq M M' → M' 125 2 = M 125 2 → M' 125 90 = M 125 90 → zMF 4 p M' → Q 0 M') : zCt G (h + 1) sl 0 0 y_Md_qOpens [(2, 125), (0, x), (0, p)] M Q := by
  obtain ⟨a, b, c, d, f⟩ := id hr
  refine E_Md_qOpens hsl ⟨fun _ => ⟨fun g => ?_, fun g => ?_⟩, fun g => absurd a.1.2.2 g⟩
  · rw [d.1] at g ⊢
    have ho := hr.op (v := op + 1)
    have hp := ho.2.push (v := x)
    rw [zwr_k (b := 92) _ (by decide), c.1, zwr_o _ (by decide), zwr_k (b := 92) _ (by decide), c.1]
    exact ⟨by unfold zI; omega, by omega, by unfold zI; omega, q1 (by omega) _ (ho.1.trans hp.1) (by rw [zwr_k _ (by decide), zwr_o _ (by decide), zwr_k _ (by decide)]) hp.2⟩
  · exact E_Md_fail hsl ⟨fun _ => q4 (by rw [d.1] at g; omega) _ (((zSm.refl _ M).wr (Or.inl ⟨rfl, by decide⟩)).wr (Or.inl ⟨rfl, by decide⟩)) (by rw [zwr_k _ (by decide), zwr_k _ (by decide)]) (by rw [zwr_k _ (by decide), zwr_k _ (by decide)]) ⟨by rw [zwr_k _ (by decide), zwr_s], zwr_s _ _ _ _⟩, fun g => absurd a.1.2.2 g⟩
/-- behind * or /: the parts joined before go first -/
theorem m_go162 {G : zG} {h sl : Nat} (hsl : 2 ≤ sl) {md : Int} {T : zTb} {m : Nat} {B : Int → Int} {n bs e : Nat} {W : List Int} {op v : Int} {M0 : zM} {Q : Int → zM → Prop} (hW : ¬ W.head? = some 3 ∧ ¬ W.head? = some 4) : ∀ (P C : List Int) (M : zM) u, (∀ x ∈ P, x = 3 ∨ x = 4) → C.length + P.length + W.length < 1699 → zSm zPmq M0 M → zQs md T m B n bs e C (P ++ W) op M → (∀ M', zSm zPmq M0 M' → zQs md T m B n bs e (C ++ P) (v :: W) op M' → Q 1 M') → zX G (y_Md_qGoesOn, h + 1 + 1, sl) u 162 [(0, (2, 125)), (1, (0, v))] [] M Q
  | [], C, M, u, hP, hl, hM, hr, q => by
    simp only [List.nil_append, List.length_nil] at hr hl
    have hp := hr.push (v := v)
    refine B_Md_qGoesOn_162 hsl (m_qIsOn hsl hr (by omega) (fun g => absurd g hW.1) (fun g => ⟨fun y => absurd rfl y, fun _ => m_qIsOn hsl hr (by omega) (fun g2 => absurd g2 hW.2) (fun g2 => ⟨fun _ => ?_, fun y => absurd rfl y⟩)⟩))
    obtain ⟨a, b, c, d, f⟩ := hr
    rw [zwr_o (a := 125) _ (by decide), c.1]
    exact ⟨by omega, by unfold zI; omega, q _ (hM.trans hp.1) (by rw [List.append_nil]; exact hp.2)⟩
  | x :: P, C, M, u, hP, hl, hM, hr, q => by
    have hx := hP x (List.mem_cons_self ..)
    simp only [List.cons_append, List.length_cons] at hr hl
    have go : zX G (y_Md_qGoesOn, h + 1 + 1, sl) u 178 [(0, (2, 125)), (1, (0, v))] [] M Q := B_Md_qGoesOn_178 hsl (m_qDrops hsl hr (by simp only [List.length_append]; omega) (fun M' hM' h' => m_go162 hsl hW P (C ++ [x]) M' u (fun y hy => hP y (List.mem_cons_of_mem _ hy)) (by simp only [List.length_append, List.length_cons, List.length_nil]; omega) (hM.trans hM') h' (fun M2 hM2 h2 => q M2 hM2 (by simpa only [List.append_assoc, List.cons_append, List.nil_append] using h2))))
    refine B_Md_qGoesOn_162 hsl (m_qIsOn hsl hr (by simp only [List.length_cons, List.length_append]; omega) (fun g => ⟨fun _ => go, fun y => absurd (by decide) y⟩) (fun g => ⟨fun y => absurd rfl y, fun _ => m_qIsOn hsl hr (by simp only [List.length_cons, List.length_append]; omega) (fun g2 => ⟨fun y => absurd y (by decide), fun _ => go⟩) (fun g2 => ?_)⟩))
    rcases hx with rfl | rfl
    · exact absurd rfl g
    · exact absurd rfl g2
/-- behind + or - -/
theorem m_go247 {G : zG} {h sl : Nat} (hsl : 2 ≤ sl) {md : Int} {T : zTb} {m : Nat} {B : Int → Int} {n bs e : Nat} {W : List Int} {op v : Int} {M0 : zM} {Q : Int → zM → Prop} (hW : ∀ x : Int, 1 ≤ x → x ≤ 4 → ¬ W.head? = some x) : ∀ (P C : List Int) (M : zM) u, (∀ x ∈ P, 1 ≤ x ∧ x ≤ 4) → C.length + P.length + W.length < 1699 → zSm zPmq M0 M → zQs md T m B n bs e C (P ++ W) op M → (∀ M', zSm zPmq M0 M' → zQs md T m B n bs e (C ++ P) (v :: W) op M' → Q 1 M') → zX G (y_Md_qGoesOn, h + 1 + 1, sl) u 247 [(0, (2, 125)), (1, (0, v))] [] M Q
  | [], C, M, u, hP, hl, hM, hr, q => by
    simp only [List.nil_append, List.length_nil] at hr hl
    have hp := hr.push (v := v)
    refine B_Md_qGoesOn_247 hsl (m_qIsOn hsl hr (by omega) (fun g => absurd g (hW 3 (by decide) (by decide))) (fun g => ⟨fun y => absurd rfl y, fun _ => m_qIsOn hsl hr (by omega) (fun g2 => absurd g2 (hW 4 (by decide) (by decide))) (fun g2 => ⟨fun y => absurd rfl y, fun _ => m_qIsOn hsl hr (by omega) (fun g3 => absurd g3 (hW 1 (by decide) (by decide))) (fun g3 => ⟨fun y => absurd rfl y, fun _ => m_qIsOn hsl hr (by omega) (fun g4 => absurd g4 (hW 2 (by decide) (by decide))) (fun g4 => ⟨fun _ => ?_, fun y => absurd rfl y⟩)⟩)⟩)⟩))
    obtain ⟨a, b, c, d, f⟩ := hr
    rw [zwr_o (a := 125) _ (by decide), c.1]
    exact ⟨by omega, by unfold zI; omega, q _ (hM.trans hp.1) (by rw [List.append_nil]; exact hp.2)⟩
  | x :: P, C, M, u, hP, hl, hM, hr, q => by
    have hx := hP x (List.mem_cons_self ..)
    simp only [List.cons_append, List.length_cons] at hr hl
    have hlw : (x :: (P ++ W)).length ≤ 1700 := by simp only [List.length_cons, List.length_append]; omega
    have go : zX G (y_Md_qGoesOn, h + 1 + 1, sl) u 279 [(0, (2, 125)), (1, (0, v))] [] M Q := B_Md_qGoesOn_279 hsl (m_qDrops hsl hr (by simp only [List.length_append]; omega) (fun M' hM' h' => m_go247 hsl hW P (C ++ [x]) M' u (fun y hy => hP y (List.mem_cons_of_mem _ hy)) (by simp only [List.length_append, List.length_cons, List.length_nil]; omega) (hM.trans hM') h' (fun M2 hM2 h2 => q M2 hM2 (by simpa only [List.append_assoc, List.cons_append, List.nil_append] using h2))))
    refine B_Md_qGoesOn_247 hsl (m_qIsOn hsl hr hlw (fun g => ⟨fun _ => go, fun y => absurd (by decide) y⟩) (fun g => ⟨fun y => absurd rfl y, fun _ => m_qIsOn hsl hr hlw (fun g2 => ⟨fun _ => go, fun y => absurd (by decide) y⟩) (fun g2 => ⟨fun y => absurd rfl y, fun _ => m_qIsOn hsl hr hlw (fun g3 => ⟨fun _ => go, fun y => absurd (by decide) y⟩) (fun g3 => ⟨fun y => absurd rfl y, fun _ => m_qIsOn hsl hr hlw (fun g4 => ⟨fun y => absurd y (by decide), fun _ => go⟩) (fun g4 => ?_)⟩)⟩)⟩))
    rcases (by omega : x = 1 ∨ x = 2 ∨ x = 3 ∨ x = 4) with rfl | rfl | rfl | rfl
    · exact absurd rfl g3
    · exact absurd rfl g4
    · exact absurd rfl g
    · exact absurd rfl g2
