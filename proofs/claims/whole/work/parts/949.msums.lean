/-! PARSER, the Model's machine: a sum, as a call. -/
theorem m_sums53 {G : zG} {h sl : Nat} (hsl : 2 ≤ sl) {u : Nat × Nat × Nat × Nat} {l1 : Int} {Q : Int → zM → Prop} {M0 : zM} {md : Int} {T : zTb} {m : Nat} {B : Int → Int} {n bs e : Nat} {W : List Int} {op : Int} (h1 : l1 = (bs : Int)) : ∀ (P C : List Int) (M : zM), C.length + P.length + W.length < 1699 → zSm zPmq M0 M → zQs md T m B n W.length e C (P ++ W) op M → (∀ M', zSm zPmq M0 M' → zQs md T m B n bs e (C ++ P) W op M' → Q 0 M') → zX G (y_Md_qSums, h + 1 + 1, sl) u 53 [(0, (2, 125)), (1, (0, l1))] [] M Q
  | [], C, M, hl, hM, hr, q => by
    have hr : zQs md T m B n W.length e C W op M := hr
    have hb := hr.base (v := l1) h1
    have hr2 := hr
    obtain ⟨a, b, c, d, f⟩ := hr2
    refine B_Md_qSums_53 hsl ⟨fun y => absurd a.1.2.2 y, fun _ => ⟨fun _ => q _ (hM.trans hb.1) (by rw [List.append_nil]; exact hb.2), fun y => absurd (by rw [c.1, d.2.1]; omega) y⟩⟩
  | x :: P, C, M, hl, hM, hr, q => by
    have hr : zQs md T m B n W.length e C (x :: (P ++ W)) op M := hr
    simp only [List.length_cons] at hl
    have hr2 := hr
    obtain ⟨a, b, c, d, f⟩ := hr2
    simp only [List.length_cons, List.length_append] at c
    refine B_Md_qSums_53 hsl ⟨fun y => absurd a.1.2.2 y, fun _ => ⟨fun y => absurd y (by rw [c.1, d.2.1]; omega), fun _ => m_qDrops hsl hr (by simp only [List.length_append]; omega) (fun M' hM' h' => ?_)⟩⟩
    exact m_sums53 hsl h1 P (C ++ [x]) M' (by simp only [List.length_append, List.length_cons, List.length_nil]; omega) (hM.trans hM') h' (fun M2 hM2 h2 => q M2 hM2 (by simpa only [List.append_assoc, List.cons_append, List.nil_append] using h2))
theorem m_qSums {G : zG} {h sl : Nat} (hsl : 2 ≤ sl) {Q : Int → zM → Prop} {md : Int} {T : zTb} {m : Nat} {B : Int → Int} {n bs e k : Nat} {C W : List Int} {op : Int} {M : zM} (hmd : md = 0 ∨ md = 1 ∨ md = 2) (hn : n ≤ 1600) (hm : m ≤ 8) (hk : k ≤ 6) (hop : op = 6 - (k : Int)) (he : e ≤ n) (hW : ∀ x : Int, 1 ≤ x → x ≤ 4 → ¬ W.head? = some x) (hl : C.length + W.length ≤ e) (hr : zQs md T m B n bs e C W op M) (qo : ∀ e' D, zsumK md T m B n k e = .inr (e', D) → ∀ M', zSm zPmq M M' → zQs md T m B n bs e' (C ++ D) W op M' → Q 0 M') (qn : ∀ f p, zsumK md T m B n k e = .inl (f, p) → ∀ M', zSm zPmq M M' → zMF f p M' → zc9 M' → Q 0 M') : zCt G (h + 6) sl 0 0 y_Md_qSums [(2, 125)] M Q := by
  have hr2 := hr
  obtain ⟨a, b, c, d, f⟩ := hr2
  refine E_Md_qSums hsl ?_
  rw [c.1, d.2.1]
  have hb := hr.base (v := (W.length : Int)) rfl
  have hq := m_part (G := G) (h := h) (u := (0, 0, 0, 0)) (l1 := (bs : Int)) (Q := Q) (M0 := M) (T := T) (B := B) (bs := W.length) hsl hmd hn hm k hk
  rw [← hop] at hq
  have ap : zAP G h sl (0, 0, 0, 0) (bs : Int) Q M md T m B n W.length e C W op := by
    refine m_sum hsl hn (by omega) hq (zpart_gd (T := T) (B := B) (md := md) (n := n) hm k) he hW ⟨Nat.le_refl _, Or.inl rfl⟩ hl (fun e' D hz P2 C2 hP2 hc2 hp2 hs2 he2 hl2 => ?_) (fun fz p hz M' hM' hx h9 => qn fz p hz M' hM' hx h9)
    have hlen : C2.length + P2.length = C.length + D.length := by
      have := congrArg List.length hc2
      simp only [List.length_append] at this
      exact this
    refine m_goEnd hsl hn he2 hp2 hs2 hP2 rfl (by omega) (fun M1 h1 g1 => B_Md_qSums_15 hsl ⟨fun _ => ?_, fun y => absurd rfl y⟩)
    exact m_sums53 (h := h + 4) hsl rfl P2 C2 M1 (by omega) h1 g1 (fun M' hM' h' => qo e' D hz M' hM' (by rw [← hc2]; exact h'))
  exact ap.s15 hsl hb.1 hb.2
/-! PARSER, the Model's machine: tests. -/
theorem m_qHasSqL {G : zG} {h sl : Nat} (hsl : 2 ≤ sl) {M : zM} {W : List Int} {Q : Int → zM → Prop} (h92 : M 125 92 = (W.length : Int)) (hl : W.length ≤ 1700) (hk : ∀ i : Nat, i < W.length → M 194 (i : Int) = W.getD (W.length - 1 - i) 0) (q1 : 25 ∈ W → Q 1 M) (q0 : 25 ∉ W → Q 0 M) : ∀ (d i : Nat) u, d + i = W.length → (∀ j : Nat, j < i → W.getD (W.length - 1 - j) 0 ≠ 25) → zX G (y_Md_qHasSquare, h, sl) u 2 [(0, (2, 125)), (1, (0, (i : Int)))] [] M Q
  | 0, i, u, ei, hi => by
    refine B_Md_qHasSquare_2 hsl ⟨fun _ => q0 (fun hm => ?_), fun y => absurd (by omega) y⟩
    obtain ⟨j, hj, ej⟩ := List.getElem_of_mem hm
    refine hi (W.length - 1 - j) (by omega) ?_
    rw [show W.length - 1 - (W.length - 1 - j) = j from by omega, List.getD_eq_getElem?_getD, List.getElem?_eq_getElem hj]
    exact ej
  | d + 1, i, u, ei, hi => by
    refine B_Md_qHasSquare_2 hsl ⟨fun y => absurd y (by omega), fun _ => ⟨by omega, fun g => ⟨by unfold zI; omega, ?_⟩, fun g => q1 ?_⟩⟩
    · rw [hk i (by omega)] at g
      have := m_qHasSqL (G := G) (h := h) hsl h92 hl hk q1 q0 d (i + 1) u (by omega) (fun j hj => by
        by_cases c : j = i
        · rw [c]; exact g
        · exact hi j (by omega))
      rw [zcs] at this
      exact this
    · rw [hk i (by omega)] at g
      have g := Classical.byContradiction g
      rw [List.getD_eq_getElem?_getD, List.getElem?_eq_getElem (show W.length - 1 - i < W.length by omega)] at g
      have g : W[W.length - 1 - i]'(by omega) = 25 := g
      rw [← g]
      exact List.getElem_mem _
theorem zSk_get {M : zM} {s : Int} : ∀ {W : List Int}, zSk M s W → ∀ i : Nat, i < W.length → M s (i : Int) = W.getD (W.length - 1 - i) 0
  | [], _, i, hi => absurd hi (by simp)
  | x :: r, h, i, hi => by
    simp only [List.length_cons] at hi ⊢
    by_cases c : i = r.length
    · rw [c, h.1, show r.length + 1 - 1 - r.length = 0 from by omega]; rfl
    · rw [zSk_get h.2 i (by omega), show r.length + 1 - 1 - i = (r.length - 1 - i) + 1 from by omega]; rfl
theorem m_qHasSquare {G : zG} {h sl : Nat} (hsl : 2 ≤ sl) {md : Int} {T : zTb} {m : Nat} {B : Int → Int} {n bs e : Nat} {C W : List Int} {op : Int} {M : zM} {Q : Int → zM → Prop} (hr : zQs md T m B n bs e C W op M) (hl : W.length ≤ 1700) (q1 : 25 ∈ W → Q 1 M) (q0 : 25 ∉ W → Q 0 M) : zCt G h sl 0 0 y_Md_qHasSquare [(2, 125)] M Q :=
  E_Md_qHasSquare hsl (m_qHasSqL hsl hr.2.2.1.1 hl (zSk_get hr.2.2.1.2) q1 q0 W.length 0 _ (by omega) (fun j hj => absurd hj (by omega)))
theorem m_dnotL {G : zG} {h sl : Nat} (hsl : 2 ≤ sl) {md : Int} {T : zTb} {m : Nat} {B : Int → Int} {n bs e : Nat} {W : List Int} {op0 : Int} {M0 : zM} {Q : Int → zM → Prop} (hW : ¬ W.head? = some 12) (h0 : 0 ≤ op0 ∧ op0 ≤ 6) : ∀ (P C : List Int) (M : zM) u, (∀ x ∈ P, x = 12) → C.length + P.length + W.length < 1699 → zSm zPmq M0 M → zQs md T m B n bs e C (P ++ W) (op0 + P.length) M → (∀ M', zSm zPmq M0 M' → zQs md T m B n bs e (C ++ P) W op0 M' → Q 0 M') → zX G (y_Md_qDropsNots, h + 1 + 1, sl) u 0 [(0, (2, 125))] [] M Q
  | [], C, M, u, hP, hl, hM, hr, q => by
    have q1 := q M hM (by rw [List.append_nil]; simpa using hr)
    have hr : zQs md T m B n bs e C W (op0 + (0 : Nat)) M := hr
    exact B_Md_qDropsNots_0 hsl ⟨fun y => absurd hr.1.1.2.2 y, fun _ => m_qIsOn hsl hr (by omega) (fun y => absurd y hW) (fun _ => ⟨fun _ => q1, fun y => absurd rfl y⟩)⟩
  | x :: P, C, M, u, hP, hl, hM, hr, q => by
    have hx := hP x (List.mem_cons_self ..)
    have hr : zQs md T m B n bs e C (x :: (P ++ W)) (op0 + ((P.length + 1 : Nat) : Int)) M := hr
    simp only [List.length_cons] at hl
    have ho := hr.op (v := op0 + ((P.length + 1 : Nat) : Int) - 1)
    refine B_Md_qDropsNots_0 hsl ⟨fun y => absurd hr.1.1.2.2 y, fun _ => m_qIsOn hsl hr (by simp only [List.length_cons, List.length_append]; omega) (fun _ => ⟨fun y => absurd y (by decide), fun _ => ?_⟩) (fun y => absurd (by rw [List.head?_cons, hx]) y)⟩
    rw [hr.2.2.2.1.1]
    refine ⟨by unfold zI; omega, m_qDrops hsl ho.2 (by simp only [List.length_append]; omega) (fun M' hM' h' => ?_)⟩
    exact m_dnotL hsl hW h0 P (C ++ [x]) M' u (fun y hy => hP y (List.mem_cons_of_mem _ hy)) (by simp only [List.length_append, List.length_cons, List.length_nil]; omega) ((hM.trans ho.1).trans hM') (by rw [show op0 + (P.length : Int) = op0 + ((P.length + 1 : Nat) : Int) - 1 from by omega]; exact h') (fun M2 hM2 h2 => q M2 hM2 (by simpa only [List.append_assoc, List.cons_append, List.nil_append] using h2))
theorem m_qDropsNots {G : zG} {h sl : Nat} (hsl : 2 ≤ sl) {md : Int} {T : zTb} {m : Nat} {B : Int → Int} {n bs e : Nat} {P C W : List Int} {op0 : Int} {M : zM} {Q : Int → zM → Prop} (hW : ¬ W.head? = some 12) (h0 : 0 ≤ op0 ∧ op0 ≤ 6) (hP : ∀ x ∈ P, x = 12) (hl : C.length + P.length + W.length < 1699) (hr : zQs md T m B n bs e C (P ++ W) (op0 + P.length) M) (q : ∀ M', zSm zPmq M M' → zQs md T m B n bs e (C ++ P) W op0 M' → Q 0 M') : zCt G (h + 2) sl 0 0 y_Md_qDropsNots [(2, 125)] M Q :=
  zCt.of (by decide +kernel) (Nat.le_of_ble_eq_true rfl) (m_dnotL hsl hW h0 P C M _ hP hl (zSm.refl _ M) hr q)
theorem m_qDropsNotsF {G : zG} {h sl : Nat} (hsl : 2 ≤ sl) {M : zM} {Q : Int → zM → Prop} (hb : ¬ M 125 5 = 0) (q : Q 0 M) : zCt G (h + 1) sl 0 0 y_Md_qDropsNots [(2, 125)] M Q := E_Md_qDropsNots hsl ⟨fun _ => q, fun g => absurd hb g⟩
