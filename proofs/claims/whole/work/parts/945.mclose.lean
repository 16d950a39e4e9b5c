/-! PARSER, the Model's machine: brackets. -/
theorem zbr_P {bs : Nat} {b : Int} {r : List Int} (hb : 20 ≤ b ∧ b ≤ 24) (hr : bs ≤ r.length) : ∀ P : List Int, (∀ x ∈ P, 1 ≤ x ∧ x ≤ 4) → zbr bs (P ++ (b :: r)) = b
  | [], _ => by
    show (if r.length < bs then (-1 : Int) else if 20 ≤ b ∧ b ≤ 24 then b else zbr bs r) = b
    rw [if_neg (by omega), if_pos hb]
  | x :: P, h => by
    have hx := h x (List.mem_cons_self ..)
    show (if (P ++ (b :: r)).length < bs then (-1 : Int) else if 20 ≤ x ∧ x ≤ 24 then x else zbr bs (P ++ (b :: r))) = b
    rw [if_neg (by simp only [List.length_append, List.length_cons]; omega), if_neg (by omega)]
    exact zbr_P hb hr P (fun y hy => h y (List.mem_cons_of_mem _ hy))
theorem zbr_0 {bs : Nat} {W : List Int} (hW : W.length = bs) : ∀ P : List Int, (∀ x ∈ P, 1 ≤ x ∧ x ≤ 4) → zbr bs (P ++ W) = -1
  | [], _ => by
    cases W with
    | nil => rfl
    | cons w r =>
      simp only [List.length_cons] at hW
      show (if r.length < bs then (-1 : Int) else if 20 ≤ w ∧ w ≤ 24 then w else zbr bs r) = -1
      rw [if_pos (by omega)]
  | x :: P, h => by
    have hx := h x (List.mem_cons_self ..)
    show (if (P ++ W).length < bs then (-1 : Int) else if 20 ≤ x ∧ x ≤ 24 then x else zbr bs (P ++ W)) = -1
    rw [if_neg (by simp only [List.length_append]; omega), if_neg (by omega)]
    exact zbr_0 hW P (fun y hy => h y (List.mem_cons_of_mem _ hy))
/-- no sign goes on -/
theorem m_go122 {G : zG} {h sl : Nat} (hsl : 2 ≤ sl) {u' : Nat × Nat × Nat × Nat} {Q : Int → zM → Prop} {M0 M : zM} {md : Int} {T : zTb} {m : Nat} {B : Int → Int} {n bs e : Nat} {C W : List Int} {op : Int} (hn : n ≤ 1600) (he : e ≤ n) (hl : W.length ≤ 1700) (hlC : C.length < 1699) (hp : zgP B n e = none) (hs : zgS B n e = none) (hM : zSm zPmq M0 M) (hr : zQs md T m B n bs e C W op M)
    (q326 : zbr bs W = 21 ∨ zbr bs W = 22 → ∀ M1, zSm zPmq M0 M1 → zQs md T m B n bs e C W op M1 → zMe B n e M1 → zX G (y_Md_qGoesOn, h + 4 + 1, sl) u' 326 [(0, (2, 125))] [] M1 Q)
    (qf : ¬ (zbr bs W = 21 ∨ zbr bs W = 22) → ¬ zbr bs W = -1 → ∀ M1, zSm zPmq M0 M1 → zMF 1 (zfr B n e : Nat) M1 → zc9 M1 → Q 0 M1)
    (q0 : zbr bs W = -1 → ∀ M1, zSm zPmq M0 M1 → zQs md T m B n bs e C W op M1 → Q 0 M1) : zX G (y_Md_qGoesOn, h + 4 + 1, sl) u' 122 [(0, (2, 125))] [] M Q := by
  have hp := zgP_sg hp
  have hs := zgS_sg hs
  refine B_Md_qGoesOn_122 hsl (m_takesSign hsl hn he hr.1 (by decide) (by decide) (fun c => absurd c hp.1) (fun c M1 h1 g1 => ⟨fun y => absurd rfl y, fun _ => m_takesSign hsl hn he g1.1 (by decide) (by decide) (fun c2 => absurd c2 hp.2) (fun c2 M2 h2 g2 => ⟨fun _ => m_takesSign hsl hn he g2.1 (by decide) (by decide) (fun c3 => absurd c3 hs.1) (fun c3 M3 h3 g3 => ⟨fun y => absurd rfl y, fun _ => m_takesSign hsl hn he g3.1 (by decide) (by decide) (fun c4 => absurd c4 hs.2) (fun c4 M4 h4 g4 => ⟨fun _ => ?_, fun y => absurd rfl y⟩)⟩), fun y => absurd rfl y⟩)⟩))
  have zz := ((h1.trans h2).trans h3).trans h4
  have hr4 := hr.mv zz g4.1
  have hM4 := hM.trans (zPmt_q zz)
  refine m_qBracket hsl hr4 hl ⟨fun c5 => q326 (Or.inl c5) M4 hM4 hr4 g4, fun c5 => m_qBracket hsl hr4 hl ⟨fun c6 => m_qBracket hsl hr4 hl ⟨fun c7 => q0 c7 M4 hM4 hr4, fun c7 => ⟨fun y => absurd g4.1.1.2.2 y, fun _ => ?_⟩⟩, fun c6 => q326 (Or.inr (Classical.byContradiction c6)) M4 hM4 hr4 g4⟩⟩
  rw [g4.2]
  exact m_fail0 hsl g4.1.1.2.2 (fun M5 h5 g5 => qf (by omega) c7 M5 (hM4.trans (zPmt_q h5)) g5 ((hr4.c9 hlC).mt h5))
/-- the sum's end, at the base -/
theorem m_goEnd {G : zG} {h sl : Nat} (hsl : 2 ≤ sl) {u : Nat × Nat × Nat × Nat} {l1 : Int} {Q : Int → zM → Prop} {M0 : zM} {md : Int} {T : zTb} {m : Nat} {B : Int → Int} {n bs e : Nat} {C P W : List Int} {op : Int} (hn : n ≤ 1600) (he : e ≤ n) (hp : zgP B n e = none) (hs : zgS B n e = none) (hP : ∀ x ∈ P, 1 ≤ x ∧ x ≤ 4) (hW : W.length = bs) (hl : C.length + P.length + W.length ≤ e) (q : ∀ M, zSm zPmq M0 M → zQs md T m B n bs e C (P ++ W) op M → zX G (y_Md_qSums, h + 5 + 1, sl) u 15 [(0, (2, 125)), (1, (0, l1)), (2, (0, 0))] [] M Q) : zAF G h sl u l1 Q M0 md T m B n bs e C (P ++ W) op := by
  have hl2 : (P ++ W).length ≤ 1700 := by simp only [List.length_append]; omega
  have hz := zbr_0 hW P hP
  refine zAF.no hsl hn he hl2 (fun _ => by omega) (fun M u' hM hr => m_go122 hsl hn he hl2 (by omega) hp hs hM hr (fun y => by omega) (fun _ y => absurd hz y) (fun _ M1 h1 g1 => ⟨fun _ => q M1 h1 g1, fun y => absurd rfl y⟩))
/-- the last one that waits is another -/
theorem zQs.top {md : Int} {T : zTb} {m : Nat} {B : Int → Int} {n bs e : Nat} {C W : List Int} {op v w : Int} {M : zM} (hr : zQs md T m B n bs e C (v :: W) op M) : zSm zPmq M (zwr M 194 (W.length : Int) w) ∧ zQs md T m B n bs e C (w :: W) op (zwr M 194 (W.length : Int) w) := by
  obtain ⟨a, b, c, d, f⟩ := hr
  have sM : zSm zPmq M (zwr M 194 (W.length : Int) w) := (zSm.refl _ M).wr (Or.inr (Or.inr rfl))
  refine ⟨sM, a.fr (fun a k p => by rw [zwr_i, if_neg (by omega)]), ⟨?_, zSg_eq (fun j => by rw [zwr_o _ (by decide)]) b.2⟩, ⟨?_, zwr_s _ _ _ _, zSk_wr c.2.2 (by omega)⟩, ?_, fun g => (f g).fr sM⟩
  · rw [zwr_o _ (by decide)]; exact b.1
  · rw [zwr_o _ (by decide), c.1]; simp only [List.length_cons]
  · rw [zwr_o _ (by decide), zwr_o _ (by decide), zwr_o _ (by decide)]; exact d
/-- the first sum of two has ended: a comma -/
theorem m_comma {G : zG} {h sl : Nat} (hsl : 2 ≤ sl) {u : Nat × Nat × Nat × Nat} {l1 : Int} {Q : Int → zM → Prop} {M0 : zM} {md : Int} {T : zTb} {m : Nat} {B : Int → Int} {n bs e : Nat} {C P W : List Int} {op b : Int} (hn : n ≤ 1600) (he : e ≤ n) (hp : zgP B n e = none) (hs : zgS B n e = none) (hP : ∀ x ∈ P, 1 ≤ x ∧ x ≤ 4) (hb : b = 21 ∨ b = 22) (hW : bs ≤ W.length) (hl : C.length + P.length + W.length + 1 ≤ e) (q : zsg B n e 44 = true → zAP G h sl u l1 Q M0 md T m B n bs (zto B n e) (C ++ P) ((b + 2) :: W) op) (qf : ¬ zsg B n e 44 = true → zFL Q M0 1 (zfr B n e : Nat)) : zAF G h sl u l1 Q M0 md T m B n bs e C (P ++ (b :: W)) op := by
  have hl2 : (P ++ (b :: W)).length ≤ 1700 := by simp only [List.length_append, List.length_cons]; omega
  have hz := zbr_P (bs := bs) (b := b) (by omega) hW P hP
  refine zAF.no hsl hn he hl2 (fun _ => by omega) (fun M u' hM hr => m_go122 hsl hn he hl2 (by omega) hp hs hM hr (fun _ M1 h1 g1 e1 => ?_) (fun y => by omega) (fun y => by omega))
  refine B_Md_qGoesOn_326 hsl (m_asksSign hsl hn he g1.1 (by decide) (by decide) (fun c M2 h2 g2 => ⟨fun _ => ?_, fun y => absurd g2.1.2.2 y⟩) (fun c M2 h2 g2 => ⟨fun y => absurd (by rw [g2.1] at y; exact y) (by decide), fun _ => (qf c).G hsl (by decide) (h1.trans (zPmt_q h2)) g2 ((g1.c9 (by omega)).mt h2)⟩))
  have hr2 := g1.mv h2 g2
  refine m_qDropsToBracket hsl (W := b :: W) ⟨by simp only [List.length_cons]; omega, Or.inr ⟨b, W, rfl, by omega, by omega⟩⟩ hP (by simp only [List.length_cons]; omega) hr2 (fun M3 h3 g3 => ?_)
  obtain ⟨a, bb, c3, d, f⟩ := id g3
  have e92 : M3 125 92 - 1 = (W.length : Int) := by rw [c3.1]; simp only [List.length_cons]; omega
  rw [e92, c3.2.1]
  have ht := g3.top (w := b + 2)
  exact ⟨by unfold zI; omega, by omega, by unfold zI; omega, fun y => absurd y (by decide), fun _ => (q c).s15 hsl (((h1.trans (zPmt_q h2)).trans h3).trans ht.1) ht.2⟩
def zstq (bs : Nat) (W : List Int) : Prop := bs ≤ W.length ∧ (W.length = bs ∨ ∃ b r, W = b :: r ∧ b < 60)
/-- a bracket is closed -/
theorem m_close {G : zG} {h sl : Nat} (hsl : 2 ≤ sl) {u : Nat × Nat × Nat × Nat} {l1 : Int} {Q : Int → zM → Prop} {M0 : zM} {md : Int} {T : zTb} {m : Nat} {B : Int → Int} {n bs e : Nat} {C P os W X : List Int} {op b : Int} (hn : n ≤ 1600) (he : e ≤ n) (hp : zgP B n e = none) (hs : zgS B n e = none) (hP : ∀ x ∈ P, 1 ≤ x ∧ x ≤ 4) (hb : b = 20 ∧ X = [] ∨ b = 23 ∧ X = [5] ∨ b = 24 ∧ X = [6]) (hW : zstq bs W) (hos : ∀ x ∈ os, 60 ≤ x) (h0 : 0 ≤ op ∧ op ≤ 6) (ho : os.length ≤ 6) (hl : C.length + P.length + os.length + W.length + 1 ≤ e) (q : zsg B n e 41 = true → zAF G h sl u l1 Q M0 md T m B n bs (zto B n e) (C ++ P ++ X ++ os) W op) (qf : ¬ zsg B n e 41 = true → zFL Q M0 1 (zfr B n e : Nat)) : zAF G h sl u l1 Q M0 md T m B n bs e C (P ++ (b :: (os ++ W))) (op + os.length + 1) := by
  have hl2 : (P ++ (b :: (os ++ W))).length ≤ 1700 := by simp only [List.length_append, List.length_cons]; omega
  have hbw : bs ≤ W.length := hW.1
  have hz := zbr_P (bs := bs) (b := b) (r := os ++ W) (by omega) (by simp only [List.length_append]; omega) P hP
  by_cases c : zsg B n e 41 = true
  · have hk := zsg_k c
    intro M u' hM hr
    refine B_Md_qGoesOn_0 hsl ⟨fun y => absurd hr.1.1.2.2 y, fun _ => m_look hsl hn he hr.1 (fun M1 h1 g1 => ?_)⟩
    have hr1 := hr.mv (zPwl_mt h1) g1.1
    have hM1 := hM.trans (zPwl_q h1)
    rw [zlk_s (by decide) (by decide)]
    refine ⟨fun y => absurd c y, fun _ => ?_⟩
    have go : zX G (y_Md_qGoesOn, h + 4 + 1, sl) u' 43 [(0, (2, 125))] [] M1 (zQG G (h + 5) sl u l1 Q) := by
      have hmv : zMd B n (zto B n e) (zwr M1 125 2 (M1 125 2 + 1)) := by rw [g1.2]; exact zMd.sg g1 hk.2.1 rfl
      have s2 : zSm zPmt M1 (zwr M1 125 2 (M1 125 2 + 1)) := (zSm.refl _ M1).wr ⟨rfl, by decide⟩
      have hr2 := hr1.mv s2 hmv
      have hfl := zrk_lt (B := B) (n := n) (e := e) (by omega)
      refine B_Md_qGoesOn_43 hsl ⟨by rw [g1.2]; unfold zI; omega, m_qDropsToBracket hsl (W := b :: (os ++ W)) ⟨by simp only [List.length_cons, List.length_append]; omega, Or.inr ⟨b, os ++ W, rfl, by omega, by omega⟩⟩ hP (by simp only [List.length_cons, List.length_append]; omega) hr2 (fun M3 h3 g3 => ?_)⟩
      obtain ⟨a, bb, c3, d, f⟩ := id g3
      have e92 : M3 125 92 - 1 = ((os ++ W).length : Int) := by rw [c3.1]; simp only [List.length_cons]; omega
      have hpop := g3.pop
      have hop := hpop.2.op (v := op + os.length + 1 - 1)
      have e194 : (zwr (zwr M3 125 92 ((os ++ W).length : Int)) 125 93 (op + (os.length : Int) + 1 - 1)) 194 ((os ++ W).length : Int) = b := by rw [zwr_o _ (by decide), zwr_o _ (by decide)]; exact c3.2.1
      have e92' : (zwr (zwr M3 125 92 ((os ++ W).length : Int)) 125 93 (op + (os.length : Int) + 1 - 1)) 125 92 = ((os ++ W).length : Int) := by rw [zwr_k _ (by decide), zwr_s]
      have e93 : (zwr M3 125 92 ((os ++ W).length : Int)) 125 93 = op + (os.length : Int) + 1 := by rw [zwr_k _ (by decide)]; exact d.1
      rw [e92, e93, e92', e194]
      have z4 := (((hM1.trans (zPmt_q s2)).trans h3).trans hpop.1).trans hop.1
      have fin : ∀ M5, zSm zPmq M0 M5 → zQs md T m B n bs (zto B n e) (C ++ P ++ X) (os ++ W) (op + os.length) M5 → zX G (y_Md_qGoesOn, h + 4 + 1, sl) u' 115 [(0, (2, 125))] [] M5 (zQG G (h + 5) sl u l1 Q) := fun M5 h5 g5 => by
        have hX : X.length ≤ 1 := by
          rcases hb with a | a | a
          · rw [a.2]; decide
          · rw [a.2]; decide
          · rw [a.2]; decide
        exact B_Md_qGoesOn_115 hsl (m_qEndsPart hsl hW h0 hos (by simp only [List.length_append]; omega) g5 (fun M6 h6 g6 => q c M6 u' (h5.trans h6) g6))
      have g4 : zQs md T m B n bs (zto B n e) (C ++ P) (os ++ W) (op + os.length) (zwr (zwr M3 125 92 ((os ++ W).length : Int)) 125 93 (op + (os.length : Int) + 1 - 1)) := by
        have := hop.2
        rw [show op + (os.length : Int) + 1 - 1 = op + (os.length : Int) from by omega] at this ⊢
        exact this
      simp only [List.length_append] at hl ⊢
      refine ⟨by unfold zI; omega, by unfold zI; omega, by omega, fun y => ?_, fun y => ⟨fun y2 => ?_, fun y2 => ?_⟩⟩
      · rcases hb with a | a | a
        · simp only [List.length_append] at z4 g4
          exact fin _ z4 (by rw [a.2, List.append_nil]; exact g4)
        · omega
        · omega
      · rcases hb with a | a | a
        · omega
        · omega
        · simp only [List.length_append] at z4 g4
          exact m_qCode hsl g4 (by simp only [List.length_append]; omega) (fun M5 h5 g5 => fin M5 (z4.trans h5) (by rw [a.2]; exact g5))
      · rcases hb with a | a | a
        · omega
        · simp only [List.length_append] at z4 g4
          exact m_qCode hsl g4 (by simp only [List.length_append]; omega) (fun M5 h5 g5 => fin M5 (z4.trans h5) (by rw [a.2]; exact g5))
        · omega
    refine m_qBracket hsl hr1 hl2 ⟨fun _ => go, fun c1 => m_qBracket hsl hr1 hl2 ⟨fun _ => go, fun c2 => m_qBracket hsl hr1 hl2 ⟨fun c3 => ?_, fun _ => go⟩⟩⟩
    rw [hz] at c1 c2 c3
    omega
  · refine zAF.no hsl hn he hl2 (fun y => absurd y c) (fun M u' hM hr => m_go122 hsl hn he hl2 (by omega) hp hs hM hr (fun y => by omega) (fun _ _ M1 h1 g1 h9 => (qf c).G hsl (by decide) h1 g1 h9) (fun y => by omega))
