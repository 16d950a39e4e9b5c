/-! COLUMNS, the Model: codes kept; arcs. -/
def zPkc (wh : Int) (s : Nat) : Int → Int → Prop := fun a k => zPmq a k ∨ a = 125 ∧ (k = 48 ∨ k = 50) ∨ a = 161 ∧ k = wh ∨ a = 162 ∧ k = wh ∨ a = 163 ∧ (s : Int) ≤ k ∧ k < 1600
theorem zSg_cons {M : zM} {a i : Int} {cs : List Int} : zSg M a i cs → ∀ j : Nat, j < cs.length → M a (i + j) = cs.getD j 0 := by
  intro h j hj
  induction cs generalizing i j with
  | nil => exact absurd hj (by simp)
  | cons x r ih =>
    cases j with
    | zero => rw [show i + ((0 : Nat) : Int) = i from by omega]; exact h.1
    | succ j =>
      simp only [List.length_cons] at hj
      rw [show i + ((j + 1 : Nat) : Int) = i + 1 + (j : Int) from by omega]
      exact ih h.2 j (by omega)
theorem m_reads70 {G : zG} {h sl : Nat} (hsl : 2 ≤ sl) {B : Int → Int} {n e s : Nat} {wh : Int} {D : List Int} {M0 : zM} {Q : Int → zM → Prop} (hw : 0 ≤ wh ∧ wh < 18) (hs : s + D.length ≤ 1600) (q : ∀ M', zSm (zPkc wh s) M0 M' → zMd B n e M' → M' 125 48 = (s : Int) + D.length → M' 161 wh = s → M' 162 wh = (s : Int) + D.length → zSg M' 163 s D → Q 0 M') :
    ∀ (d i : Nat) (M : zM) u, d + i = D.length → zSm (zPkc wh s) M0 M → zMd B n e M → M 125 90 = D.length → M 125 48 = (s : Int) + i → M 161 wh = s → zSg M 193 0 D → zSg M 163 s (D.take i) → zX G (y_Md_reads, h + 1, sl) u 70 [(0, (2, 125)), (1, (0, wh)), (3, (0, (i : Int)))] [] M Q
  | 0, i, M, u, ei, hM, hx, h9, h48, h161, hc, hg => by
    refine B_Md_reads_70 hsl ⟨fun _ => ⟨hw, ?_⟩, fun y => absurd (by omega) y⟩
    have ei : i = D.length := by omega
    rw [ei, List.take_length] at hg
    refine q _ (hM.wr (Or.inr (Or.inr (Or.inr (Or.inl ⟨rfl, rfl⟩))))) (hx.fr (fun a k p => by rw [zwr_i, if_neg (by omega)])) (by rw [zwr_o _ (by decide), h48, ei]) (by rw [zwr_o _ (by decide)]; exact h161) (by rw [zwr_s, h48, ei]) (zSg_eq (fun j => by rw [zwr_o _ (by decide)]) hg)
  | d + 1, i, M, u, ei, hM, hx, h9, h48, h161, hc, hg => by
    have hci := zSg_cons hc i (by omega)
    rw [show (0 : Int) + (i : Int) = (i : Int) from by omega] at hci
    refine B_Md_reads_70 hsl ⟨fun y => absurd y (by omega), fun _ => ⟨by omega, by omega, ?_⟩⟩
    rw [zwr_o (a := 125) _ (by decide), h48, hci]
    refine ⟨by unfold zI; omega, by unfold zI; omega, ?_⟩
    have := m_reads70 (G := G) (h := h) (Q := Q) hsl hw hs q d (i + 1) (zwr (zwr M 163 ((s : Int) + (i : Int)) (D.getD i 0)) 125 48 ((s : Int) + (i : Int) + 1)) u (by omega) ((hM.wr (Or.inr (Or.inr (Or.inr (Or.inr ⟨rfl, by omega⟩))))).wr (Or.inr (Or.inl ⟨rfl, by decide⟩))) (hx.fr (fun a k p => by rw [zwr_i, if_neg (by omega), zwr_i, if_neg (by omega)])) (by rw [zwr_k _ (by decide), zwr_o _ (by decide)]; exact h9) (by rw [zwr_s]; omega) (by rw [zwr_o _ (by decide), zwr_o _ (by decide)]; exact h161) (zSg_eq (fun j => by rw [zwr_o _ (by decide), zwr_o _ (by decide)]) hc) ?_
    · rw [zcs] at this
      exact this
    · have et : D.take (i + 1) = D.take i ++ [D.getD i 0] := by
        rw [List.take_succ, List.getElem?_eq_getElem (show i < D.length by omega), List.getD_eq_getElem?_getD, List.getElem?_eq_getElem (show i < D.length by omega)]
        rfl
      rw [et]
      have hl : (D.take i).length = i := by rw [List.length_take]; omega
      refine zSg_ap (zSg_lo (fun k hk => ?_) hg) ?_
      · rw [hl] at hk
        rw [zwr_o _ (by decide), zwr_k _ (by omega)]
      · rw [hl, zwr_o _ (by decide), zwr_s]
theorem m_reads {G : zG} {h sl : Nat} (hsl : 2 ≤ sl) {T : zTb} {m : Nat} {B : Int → Int} {n e s : Nat} {wh md : Int} {M : zM} {Q : Int → zM → Prop} (hn : n ≤ 1600) (hm : m ≤ 8) (he : e ≤ n) (hx : zMd B n e M) (hN : zNn T m M) (hmd : wh = 8 ∧ md = 1 ∨ ¬ wh = 8 ∧ md = 0) (hw : 0 ≤ wh ∧ wh < 18) (hs : s ≤ e) (h48 : M 125 48 = (s : Int)) (qo : ∀ e' D, (if wh = 8 then ztestK md T m B n 6 e else zsumK md T m B n 6 e) = .inr (e', D) → ∀ M', zSm (zPkc wh s) M M' → zMd B n e' M' → M' 125 48 = (s : Int) + D.length → M' 161 wh = s → M' 162 wh = (s : Int) + D.length → zSg M' 163 s D → Q 0 M') (qn : ∀ f p, (if wh = 8 then ztestK md T m B n 6 e else zsumK md T m B n 6 e) = .inl (f, p) → ∀ M', zSm (zPkc wh s) M M' → zMF f p M' → Q 0 M') : zCt G (h + 9) sl 0 0 y_Md_reads [(2, 125), (0, wh), (0, md)] M Q := by
  refine E_Md_reads hsl ⟨fun _ => ?_, fun y => absurd hx.1.2.2 y⟩
  have s0 : zSm (zPkc wh s) M (zwr (zwr (zwr (zwr (zwr M 125 50 md) 125 90 0) 125 92 0) 125 93 0) 125 94 0) := ((((((zSm.refl _ M).wr (Or.inr (Or.inl ⟨rfl, by decide⟩))).wr (Or.inl (Or.inl ⟨rfl, by decide⟩))).wr (Or.inl (Or.inl ⟨rfl, by decide⟩))).wr (Or.inl (Or.inl ⟨rfl, by decide⟩))).wr (Or.inl (Or.inl ⟨rfl, by decide⟩)))
  have ev : ∀ a k, (zwr (zwr (zwr (zwr (zwr M 125 50 md) 125 90 0) 125 92 0) 125 93 0) 125 94 0) a k = if a = 125 then (if k = 94 then 0 else if k = 93 then 0 else if k = 92 then 0 else if k = 90 then 0 else if k = 50 then md else M a k) else M a k := fun a k => by
    simp only [zwr_i]
    by_cases c : a = 125
    · simp [c]
    · simp [c]
  generalize zwr (zwr (zwr (zwr (zwr M 125 50 md) 125 90 0) 125 92 0) 125 93 0) 125 94 0 = M0 at s0 ev
  have hr : zQs md T m B n 0 e [] [] 0 M0 := by
    refine ⟨hx.fr (fun a k p => ?_), ⟨by rw [ev]; rfl, trivial⟩, ⟨by rw [ev]; rfl, trivial⟩, ⟨by rw [ev]; rfl, by rw [ev]; rfl, by rw [ev]; rfl⟩, fun _ => ⟨by rw [ev]; exact hN.1, fun c a b => by rw [ev]; exact hN.2 c a b⟩⟩
    rw [ev]
    by_cases c : a = 125
    · rw [if_pos c, if_neg (by omega), if_neg (by omega), if_neg (by omega), if_neg (by omega), if_neg (by omega)]
    · rw [if_neg c]
  have e48 : M0 125 48 = (s : Int) := by rw [ev]; exact h48
  have mq : ∀ {M1 M2 : zM}, zSm zPmq M1 M2 → zSm (zPkc wh s) M1 M2 := fun hh => hh.mono (fun a k p => Or.inl p)
  have fin : ∀ (e' : Nat) (D : List Int) (M1 : zM), e' ≤ n → e + D.length ≤ e' → zSm zPmq M0 M1 → zQs md T m B n 0 e' D [] 0 M1 → (if wh = 8 then ztestK md T m B n 6 e else zsumK md T m B n 6 e) = .inr (e', D) → zX G (y_Md_reads, h + 8 + 1, sl) (0, 0, 0, 0) 50 [(0, (2, 125)), (1, (0, wh))] [] M1 Q := fun e' D M1 he' hD h1 g1 hz => by
    have f48 : M1 125 48 = (s : Int) := by rw [h1 _ _ (by unfold zPmq; omega)]; exact e48
    refine B_Md_reads_50 hsl ⟨fun _ => ⟨hw, ?_⟩, fun y => absurd g1.1.1.2.2 y⟩
    rw [f48]
    refine m_reads70 (h := h + 8) (M0 := M) (s := s) (D := D) hsl hw (by omega) (fun M' hM' hx' a b c d => qo e' D hz M' hM' hx' a b c d) D.length 0 _ _ (by omega) ((s0.trans (mq h1)).wr (Or.inr (Or.inr (Or.inl ⟨rfl, rfl⟩)))) (g1.1.fr (fun a k p => by rw [zwr_i, if_neg (by omega)])) (by rw [zwr_o _ (by decide)]; exact g1.2.1.1) (by rw [zwr_o _ (by decide), f48]; omega) (zwr_s _ _ _ _) (zSg_eq (fun j => by rw [zwr_o _ (by decide)]) g1.2.1.2) trivial
  have bad : ∀ (f p : Int) (M1 : zM), f ≠ 0 → zSm zPmq M0 M1 → zMF f p M1 → (if wh = 8 then ztestK md T m B n 6 e else zsumK md T m B n 6 e) = .inl (f, p) → zX G (y_Md_reads, h + 8 + 1, sl) (0, 0, 0, 0) 50 [(0, (2, 125)), (1, (0, wh))] [] M1 Q := fun f p M1 f0 h1 x1 hz => B_Md_reads_50 hsl ⟨fun y => absurd y (by rw [x1.1]; exact f0), fun _ => qn f p hz M1 (s0.trans (mq h1)) x1⟩
  refine ⟨fun c => ?_, fun c => ?_⟩
  · rw [if_neg c] at fin bad
    refine m_qSums (h := h + 2) (T := T) (k := 6) hsl (by omega) hn hm (by omega) (by omega) he (fun x _ _ y => by rw [List.head?_nil] at y; nomatch y) (by simp) hr (fun e' D hz M1 h1 g1 => ?_) (fun f p hz M1 h1 x1 _ => bad f p M1 (zsumK_nz _ _ _ hz) h1 x1 hz)
    have g := zsumK_gd hm he hz
    exact fin e' D M1 g.2.1 g.1 h1 g1 hz
  · have c := Classical.byContradiction c
    rw [if_pos c] at fin bad
    refine m_qTest (h := h) (T := T) hsl (by omega) hn hm he (by simp) hr (fun e' D hz M1 h1 g1 => ?_) (fun f p hz M1 h1 x1 => bad f p M1 (ztestK_nz _ _ _ hz) h1 x1 hz)
    have g := ztestK_gd hm he hz
    exact fin e' D M1 g.2.1 g.1 h1 g1 hz
theorem m_readsF {G : zG} {h sl : Nat} (hsl : 2 ≤ sl) {wh md : Int} {M : zM} {Q : Int → zM → Prop} (hb : ¬ M 125 5 = 0) (q : Q 0 M) : zCt G (h + 1) sl 0 0 y_Md_reads [(2, 125), (0, wh), (0, md)] M Q := E_Md_reads hsl ⟨fun y => absurd y hb, fun _ => q⟩
