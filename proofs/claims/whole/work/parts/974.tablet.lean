/-! TABLET, both sides. -/
theorem zMt.fr {T : zTb} {s : Nat} {B : Int → Int} {n e : Nat} {M M' : zM} (f : ∀ a k, a = 126 ∨ a = 125 ∧ (2 ≤ k ∧ k ≤ 6 ∨ k = 48 ∨ k = 49) ∨ 158 ≤ a ∧ a ≤ 163 → M' a k = M a k) (h : zMt T s B n e M) : zMt T s B n e M' := by
  obtain ⟨a, ⟨b1, b2⟩, ⟨c1, c2, c3⟩, cc, cm⟩ := h
  refine ⟨a.fr (fun a k p => f a k (by omega)), ⟨by rw [f _ _ (by omega)]; exact b1, fun c a b => by rw [f _ _ (by omega)]; exact b2 c a b⟩, ⟨by rw [f _ _ (by omega)]; exact c1, by rw [f _ _ (by omega)]; exact c2, by rw [f _ _ (by omega)]; exact c3⟩, fun c c0 cn => (cc c c0 cn).tr (fun _ => rfl) rfl (fun k _ _ => f _ _ (by omega)) (f _ _ (by omega)) (f _ _ (by omega)) (Nat.le_refl _) (fun k _ _ => f _ _ (by omega)), ?_⟩
  rw [f 161 8 (by omega)]
  rcases cm with x | x
  · exact Or.inl x
  · exact Or.inr ⟨x.1, x.2.tr rfl (f _ _ (by omega)) (f _ _ (by omega)) (Nat.le_refl _) (fun k _ _ => f _ _ (by omega))⟩
def zPtn : Int → Int → Prop := fun a k => zPts a k ∨ a = 125 ∧ (k = 1 ∨ k = 3 ∨ k = 7 ∨ k = 8) ∨ a = 127
def zPtk : Int → Int → Prop := fun a k => zPtn a k ∨ zPsd a k
theorem m_tablet {G : zG} {h sl : Nat} (hsl : 2 ≤ sl) {B Rf : Int → Int} {n : Nat} {M : zM} {Q : Int → zM → Prop} (hn : n ≤ 1600) (hB : ∀ k, 0 ≤ k → k < (n : Int) → 0 ≤ B k) (h1 : M 125 1 = n) (h3 : zAr M 126 n B) (hR : zAr M 127 6 Rf) (hb : 0 ≤ Rf 1 ∧ Rf 1 ≤ 100000)
    (qo : ∀ T', ztab B n = .inr T' → ∀ M', zSm zPtk M M' → zMk T' (zbg T') M' → zNm T' M' → M' 164 17 = 0 → M' 125 66 = 0 → M' 125 62 = 0 → M' 125 7 = 0 → M' 125 8 = -1 → M' 125 1 = 0 → (∀ k, M' 127 k = M 127 k) → Q (T'.1 8 2) M')
    (qn : ∀ f p, ztab B n = .inl (f, p) → ∀ M', zSm zPtn M M' → M' 125 7 = f → M' 125 8 = p → M' 125 1 = 0 → zAr M' 127 6 (zup Rf 1 (Rf 1 + 1)) → Q (-1) M') : zCt G (h + 13) sl 0 0 y_Md_tablet [(2, 125)] M Q := by
  refine E_Md_tablet hsl ?_
  rw [h1]
  generalize eM0 : zwr (zwr (zwr (zwr (zwr (zwr (zwr (zwr (zwr M 125 3 (n : Int)) 125 1 0) 125 2 0) 125 4 (-1)) 125 5 0) 125 6 (-1)) 125 48 0) 158 0 0) 158 1 0 = M0
  have ev : ∀ a k, M0 a k = if a = 158 ∧ k = 1 then 0 else if a = 158 ∧ k = 0 then 0 else if a = 125 ∧ k = 48 then 0 else if a = 125 ∧ k = 6 then -1 else if a = 125 ∧ k = 5 then 0 else if a = 125 ∧ k = 4 then -1 else if a = 125 ∧ k = 2 then 0 else if a = 125 ∧ k = 1 then 0 else if a = 125 ∧ k = 3 then (n : Int) else M a k := fun a k => by
    rw [← eM0]
    simp only [zwr_i]
  have s0 : zSm zPtn M M0 := fun a k p => by
    rw [ev]
    unfold zPtn zPts zPtm at p
    rw [if_neg (by omega), if_neg (by omega), if_neg (by omega), if_neg (by omega), if_neg (by omega), if_neg (by omega), if_neg (by omega), if_neg (by omega), if_neg (by omega)]
  have tn : ∀ {M1 M2 : zM}, zSm zPts M1 M2 → zSm zPtn M1 M2 := fun hh => hh.mono (fun a k p => Or.inl p)
  have nk : ∀ {M1 M2 : zM}, zSm zPtn M1 M2 → zSm zPtk M1 M2 := fun hh => hh.mono (fun a k p => Or.inl p)
  have hT0 : zTok (fun _ _ => 0, fun _ => []) := ⟨Int.le_refl _, by decide, Int.le_refl _, by decide, Int.le_refl _, by decide, Or.inl rfl, fun c a b => by have b : c < 0 := b; omega⟩
  refine m_tab54 (h := h + 12) (M0 := M0) hsl (fun M1 u f1 z1 e49 => ?_) 9 0 M0 _ (by omega) (fun _ _ _ => rfl) (fun k k0 k1 => absurd k1 (by omega))
  have up : ∀ a k, ¬ (a = 161 ∧ 0 ≤ k ∧ k < 9) → ¬ (a = 125 ∧ k = 49) → M1 a k = M0 a k := f1
  have s1 : zSm zPtn M0 M1 := fun a k p => up a k (by unfold zPtn zPts zPtm at p; omega) (by unfold zPtn zPts zPtm at p; omega)
  have z01 := s0.trans s1
  have hx : zMd B n 0 M1 := by
    refine ⟨⟨⟨?_, ?_⟩, h3.fr (fun k => ?_), ?_⟩, ?_, fun y => absurd y.1 (by omega), fun _ => ?_⟩
    · rw [up _ _ (by omega) (by omega), ev]; rfl
    · rw [up _ _ (by omega) (by omega), ev]; rfl
    · rw [up _ _ (by omega) (by omega), s0 _ _ (by unfold zPtn zPts zPtm; omega)]
    · rw [up _ _ (by omega) (by omega), ev]; rfl
    · rw [up _ _ (by omega) (by omega), show M0 125 2 = 0 from by rw [ev]; rfl]
      omega
    · rw [up _ _ (by omega) (by omega), show M0 125 4 = -1 from by rw [ev]; rfl]
      omega
  have hr : zMt (fun _ _ => 0, fun _ => []) 0 B n 0 M1 := by
    refine ⟨hx, ⟨?_, fun c c0 cn => ?_⟩, ⟨?_, e49, ?_⟩, fun c c0 cn => ?_, Or.inl ⟨rfl, z1 8 (by decide) (by decide)⟩⟩
    · rw [up _ _ (by omega) (by omega), ev]; rfl
    · have cn : c < ((0 : Int).toNat : Int) := cn
      omega
    · rw [up _ _ (by omega) (by omega), ev]; rfl
    · rw [up _ _ (by omega) (by omega), ev]; rfl
    · have cn : c < 0 := cn
      omega
  refine m_tabL (h := h) (M0 := M1) hsl hn hB 61 (fun _ _ => 0, fun _ => []) 0 0 M1 u (by decide) hT0 (Nat.zero_le _) (Nat.le_refl _) (zSm.refl _ M1) hr (fun T' hz s' e' M2 u2 hs2 h2 g2 => ?_) (fun f p hz f0 M2 u2 h2 x2 => ?_)
  · have hT' := ztab_ok (show ztab B n = .inr T' from hz)
    have w : ∀ a k, ¬ (a = 125 ∧ (k = 7 ∨ k = 8)) → (zwr (zwr M2 125 7 (M2 125 5)) 125 8 ((zwr M2 125 7 (M2 125 5)) 125 6)) a k = M2 a k := fun a k p => by rw [zwr_i, if_neg (by omega), zwr_i, if_neg (by omega)]
    have w7 : (zwr (zwr M2 125 7 (M2 125 5)) 125 8 ((zwr M2 125 7 (M2 125 5)) 125 6)) 125 7 = 0 := by rw [zwr_k _ (by decide), zwr_s]; exact g2.1.1.2.2
    have w8 : (zwr (zwr M2 125 7 (M2 125 5)) 125 8 ((zwr M2 125 7 (M2 125 5)) 125 6)) 125 8 = -1 := by rw [zwr_s, zwr_k _ (by decide)]; exact g2.1.1.1.2
    have s3 : zSm zPtn M (zwr (zwr M2 125 7 (M2 125 5)) 125 8 ((zwr M2 125 7 (M2 125 5)) 125 6)) := ((z01.trans (tn h2)).wr (Or.inr (Or.inl ⟨rfl, by decide⟩))).wr (Or.inr (Or.inl ⟨rfl, by decide⟩))
    refine B_Md_tablet_100 hsl ?_
    generalize zwr (zwr M2 125 7 (M2 125 5)) 125 8 ((zwr M2 125 7 (M2 125 5)) 125 6) = M3 at w w7 w8 s3
    refine ⟨fun _ => m_stands (h := h + 5) hsl hT' hs2 (g2.fr (fun a k p => w a k (by omega))) (fun M4 h4 k4 n4 a1 a2 a3 => ?_), fun y => absurd (by rw [w _ _ (by omega)]; exact g2.1.1.2.2) y⟩
    have u4 : ∀ a k, ¬ zPsd a k → M4 a k = M3 a k := fun a k p => h4 a k p
    have e4 : M4 125 49 = T'.1 8 2 := by rw [u4 _ _ (by unfold zPsd zPL zPG; omega), w _ _ (by omega)]; exact g2.2.2.1.2.1
    rw [e4]
    have l3 : ∀ a k, a = 125 ∧ k = 1 ∨ a = 127 → M3 a k = M0 a k := fun a k p => by rw [w _ _ (by omega), h2 _ _ (by unfold zPts zPtm; omega), up _ _ (by omega) (by omega)]
    refine qo T' hz M4 ((nk s3).trans (h4.mono (fun a k p => Or.inr p))) k4 n4 a1 a2 a3 ?_ ?_ ?_ (fun k => ?_)
    · rw [u4 _ _ (by unfold zPsd zPL zPG; omega)]; exact w7
    · rw [u4 _ _ (by unfold zPsd zPL zPG; omega)]; exact w8
    · rw [u4 _ _ (by unfold zPsd zPL zPG; omega), l3 _ _ (by omega), ev]; rfl
    · rw [u4 _ _ (by unfold zPsd zPL zPG; omega), l3 _ _ (by omega), ev, if_neg (by omega), if_neg (by omega), if_neg (by omega), if_neg (by omega), if_neg (by omega), if_neg (by omega), if_neg (by omega), if_neg (by omega), if_neg (by omega)]
  · have w : ∀ a k, ¬ (a = 125 ∧ (k = 7 ∨ k = 8)) → (zwr (zwr M2 125 7 (M2 125 5)) 125 8 ((zwr M2 125 7 (M2 125 5)) 125 6)) a k = M2 a k := fun a k p => by rw [zwr_i, if_neg (by omega), zwr_i, if_neg (by omega)]
    have w7 : (zwr (zwr M2 125 7 (M2 125 5)) 125 8 ((zwr M2 125 7 (M2 125 5)) 125 6)) 125 7 = f := by rw [zwr_k _ (by decide), zwr_s]; exact x2.1
    have w8 : (zwr (zwr M2 125 7 (M2 125 5)) 125 8 ((zwr M2 125 7 (M2 125 5)) 125 6)) 125 8 = p := by rw [zwr_s, zwr_k _ (by decide)]; exact x2.2
    have s3 : zSm zPtn M (zwr (zwr M2 125 7 (M2 125 5)) 125 8 ((zwr M2 125 7 (M2 125 5)) 125 6)) := ((z01.trans (tn h2)).wr (Or.inr (Or.inl ⟨rfl, by decide⟩))).wr (Or.inr (Or.inl ⟨rfl, by decide⟩))
    refine B_Md_tablet_100 hsl ?_
    generalize zwr (zwr M2 125 7 (M2 125 5)) 125 8 ((zwr M2 125 7 (M2 125 5)) 125 6) = M3 at w w7 w8 s3
    have l3 : ∀ a k, a = 125 ∧ k = 1 ∨ a = 127 → M3 a k = M0 a k := fun a k p => by rw [w _ _ (by omega), h2 _ _ (by unfold zPts zPtm; omega), up _ _ (by omega) (by omega)]
    have e127 : ∀ k, M3 127 k = M 127 k := fun k => by rw [l3 _ _ (by omega), ev, if_neg (by omega), if_neg (by omega), if_neg (by omega), if_neg (by omega), if_neg (by omega), if_neg (by omega), if_neg (by omega), if_neg (by omega), if_neg (by omega)]
    refine ⟨fun y => absurd y (by rw [w _ _ (by omega), x2.1]; exact f0), fun _ => E_Md_refuses hsl ⟨by decide, ?_⟩⟩
    have hr1 := hR 1 (by decide) (by decide)
    rw [e127, hr1]
    refine ⟨by unfold zI; omega, qn f p hz _ (s3.wr (Or.inr (Or.inr rfl))) (by rw [zwr_o _ (by decide)]; exact w7) (by rw [zwr_o _ (by decide)]; exact w8) ?_ (fun k k0 k6 => ?_)⟩
    · rw [zwr_o _ (by decide), l3 _ _ (by omega), ev]; rfl
    · by_cases c : k = 1
      · rw [c, zwr_s, zup_s]
      · rw [zwr_k _ c, zup_o _ _ c, e127]; exact hR k k0 k6
def zPtf (t : Int) : Int → Int → Prop := fun a k => zPrt (181 - t) a k ∨ a = 1 ∧ (k = 14 ∨ k = 15) ∨ a = 2 ∧ k = 1 ∨ a = 78
def zPtg (t : Int) : Int → Int → Prop := fun a k => zPtf t a k ∨ a = 1 ∧ (k = 11 ∨ k = 12) ∨ a = 4 ∨ a = 5 ∨ 8 ≤ a ∧ a ≤ 17 ∨ a = 18 ∧ (k = 4 ∨ k = 6) ∨ a = 63 ∧ (k = 8 ∨ k = 14 ∨ k = 15 ∨ k = 16)
theorem c_tablet {G : zG} {h sl : Nat} (hsl : 1 ≤ sl) {T : zTb} {L : Int → Int} {t : Int} {B Rf : Int → Int} {n : Nat} {M : zM} {Q : Int → zM → Prop} (hP : zPu T L) (hC : zCk T L t M) (hsp : M 1 12 = 181 - t) (hn : n ≤ 1600) (h2 : M 2 1 = n) (h3 : zAr M 3 n B) (hR : zAr M 78 6 Rf) (hb : 0 ≤ Rf 1 ∧ Rf 1 ≤ 100000)
    (qo : ∀ T', ztab B n = .inr T' → ∀ M', zSm (zPtg t) M M' → zCk T' (zbg T') (181 - t) M' → M' 1 12 = t → M' 1 14 = 0 → M' 1 15 = -1 → M' 2 1 = 0 → M' 18 4 = 0 → M' 18 6 = 0 → M' 63 8 = 0 → M' 63 14 = 0 → M' 63 15 = 0 → M' 63 16 = -1 → (∀ k, M' 78 k = M 78 k) → Q (T'.1 8 2) M')
    (qn : ∀ f p, ztab B n = .inl (f, p) → ∀ M', zSm (zPtf t) M M' → zCk T L t M' → M' 1 14 = f → M' 1 15 = p → M' 2 1 = 0 → zAr M' 78 6 (zup Rf 1 (Rf 1 + 1)) → Q (-1) M') : zCt G (h + 39) sl 0 0 y_Zt_tablet [(2, 1)] M Q := by
  have ht := hC.1
  obtain ⟨t', et⟩ : ∃ t', t' = 181 - t := ⟨_, rfl⟩
  have ht' : t' = 79 ∨ t' = 102 := by omega
  have tk : zK t' = (8, 0) := by rcases ht' with a | a <;> rw [a] <;> decide
  refine E_Zt_tablet hsl ?_
  rw [hsp, ← et]
  have nf : ∀ (M2 : zM) (f p : Int), zSm (zPrt t') M M2 → M2 72 3 = f → M2 72 4 = p → ∀ M5, M5 = zwr (zwr (zwr M2 1 14 (M2 72 3)) 1 15 ((zwr M2 1 14 (M2 72 3)) 72 4)) 2 1 0 → zSm (zPtf t) M M5 ∧ M5 1 14 = f ∧ M5 1 15 = p ∧ M5 2 1 = 0 ∧ ∀ a k, ¬ (a = 1 ∧ (k = 14 ∨ k = 15)) → ¬ (a = 2 ∧ k = 1) → M5 a k = M2 a k := fun M2 f p hM ef ep M5 e5 => by
    rw [e5]
    have hM : zSm (zPtf t) M M2 := hM.mono (fun a k p => Or.inl (by rw [← et]; exact p))
    refine ⟨((hM.wr (Or.inr (Or.inl ⟨rfl, Or.inl rfl⟩))).wr (Or.inr (Or.inl ⟨rfl, Or.inr rfl⟩))).wr (Or.inr (Or.inr (Or.inl ⟨rfl, rfl⟩))), ?_, ?_, zwr_s _ _ _ _, fun a k p1 p2 => by rw [zwr_i, if_neg p2, zwr_i, if_neg (by omega), zwr_i, if_neg (by omega)]⟩
    · rw [zwr_o _ (by decide), zwr_k _ (by decide), zwr_s, ef]
    · rw [zwr_o _ (by decide), zwr_s, zwr_o _ (by decide), ep]
  refine c_readTablet (h := h) hsl hn ht' h2 h3 (fun T' hz M2 hM2 c2 e3 e4 => E_Zt_noteFault hsl ⟨fun _ => ?_, fun y => absurd (by decide) y⟩) (fun f p hz M2 hM2 e3 e4 => E_Zt_noteFault hsl ⟨fun y => absurd rfl y, fun _ => ?_⟩)
  · have g5 := nf M2 0 (-1) hM2 e3 e4 _ rfl
    generalize zwr (zwr (zwr M2 1 14 (M2 72 3)) 1 15 ((zwr M2 1 14 (M2 72 3)) 72 4)) 2 1 0 = M5 at g5
    obtain ⟨s5, v14, v15, v21, u5⟩ := g5
    have e11 : M5 1 11 = t := by rw [u5 _ _ (by omega) (by omega), hM2 _ _ (by unfold zPrt; omega)]; exact hC.2.1
    have e12 : M5 1 12 = t' := by rw [u5 _ _ (by omega) (by omega), hM2 _ _ (by unfold zPrt; omega), hsp]; omega
    rw [e11, e12]
    have hT' := ztab_ok hz
    have hb' := zbg_ok hT'
    have v6 : ∀ a k, ¬ (a = 1 ∧ (k = 11 ∨ k = 12)) → (zwr (zwr M5 1 11 t') 1 12 t) a k = M5 a k := fun a k p => by rw [zwr_i, if_neg (by omega), zwr_i, if_neg (by omega)]
    have v611 : (zwr (zwr M5 1 11 t') 1 12 t) 1 11 = t' := by rw [zwr_k _ (by decide), zwr_s]
    have v612 : (zwr (zwr M5 1 11 t') 1 12 t) 1 12 = t := zwr_s _ _ _ _
    generalize zwr (zwr M5 1 11 t') 1 12 t = M6 at v6 v611 v612
    have c6 : zTc T' M6 t' := c2.frG hT' (fun a k p1 p2 _ _ => by rw [v6 _ _ (by omega), u5 _ _ (by omega) (by omega)])
    refine E_Zt_startAgain hsl ⟨by rw [v611]; exact tk, ?_⟩
    rw [v611]
    refine c_begin (h := h + 34) hsl tk (by omega) (by decide) hT' c6 (fun M7 h7 l7 => ?_)
    have c7 := c6.fr (by omega) h7
    have u7 : ∀ a k, ¬ zPC t' 4 a k → M7 a k = M6 a k := fun a k p => h7 a k p
    rw [show M7 1 11 = t' from by rw [u7 _ _ (by unfold zPC zPLn; omega)]; exact v611]
    refine c_coBegin (h := h + 34) hsl (Or.inl rfl) (by decide) (Or.inl (by decide)) hT' l7 (fun M8 h8 o8 => ?_)
    have l8 : zLc (T'.1 8 0) (zbg T') M8 4 := l7.fr (h8 _ _ (by unfold zPLn; omega)) (h8 _ _ (by unfold zPLn; omega)) (fun j => h8 _ _ (by unfold zPLn; omega))
    rw [show M8 1 11 = t' from by rw [h8 _ _ (by unfold zPLn; omega), u7 _ _ (by unfold zPC zPLn; omega)]; exact v611]
    refine c_coBegin (h := h + 34) hsl (Or.inr rfl) (by decide) (Or.inl (by decide)) hT' l8 (fun M9 h9 o9 => ?_)
    refine E_History_forget hsl (E_Piece_forget hsl (E_Piece_changed hsl ?_))
    generalize eM : zwr (zwr (zwr (zwr (zwr (zwr M9 18 4 0) 18 6 0) 63 8 0) 63 14 0) 63 15 0) 63 16 (-1) = M10
    have w : ∀ a k, ¬ (a = 18 ∧ (k = 4 ∨ k = 6)) → ¬ (a = 63 ∧ (k = 8 ∨ k = 14 ∨ k = 15 ∨ k = 16)) → M10 a k = M9 a k := fun a k p1 p2 => by rw [← eM, zwr_i, if_neg (by omega), zwr_i, if_neg (by omega), zwr_i, if_neg (by omega), zwr_i, if_neg (by omega), zwr_i, if_neg (by omega), zwr_i, if_neg (by omega)]
    have lo : ∀ a k, ¬ (a = 18 ∧ (k = 4 ∨ k = 6)) → ¬ (a = 63 ∧ (k = 8 ∨ k = 14 ∨ k = 15 ∨ k = 16)) → ¬ (8 ≤ a ∧ a ≤ 17) → ¬ zPC t' 4 a k → M10 a k = M6 a k := fun a k p1 p2 p3 p4 => by rw [w a k p1 p2, h9 a k (by unfold zPLn; omega), h8 a k (by unfold zPLn; omega), u7 a k p4]
    have e111 : M10 1 11 = t' := by rw [lo _ _ (by omega) (by omega) (by omega) (by unfold zPC zPLn; omega)]; exact v611
    have c10 : zTc T' M10 t' := c7.frG hT' (fun a k p1 p2 _ _ => by rw [w _ _ (by omega) (by omega), h9 _ _ (by unfold zPLn; omega), h8 _ _ (by unfold zPLn; omega)])
    rw [e111]
    refine ⟨tk, ?_⟩
    rw [c10.1.2.1]
    have o89 : zCo T' (zbg T') 1 M9 8 t' := o8.fr (fun a k p => h9 a k (by unfold zdCo at p; unfold zPLn; omega))
    have fro : ∀ {o : Int}, o = 8 ∨ o = 13 → zCo T' (zbg T') 1 M9 o t' → zCo T' (zbg T') 1 M10 o t' := fun ho hh => hh.fr (fun a k p => w a k (by unfold zdCo at p; omega) (by unfold zdCo at p; omega))
    have ck : zCk T' (zbg T') t' M10 := ⟨ht', e111, c10, (l8.fr (h9 _ _ (by unfold zPLn; omega)) (h9 _ _ (by unfold zPLn; omega)) (fun j => h9 _ _ (by unfold zPLn; omega))).fr (w _ _ (by omega) (by omega)) (w _ _ (by omega) (by omega)) (fun j => w _ _ (by omega) (by omega)), ⟨1, by rw [hb'.1]; decide, fro (Or.inl rfl) o89⟩, ⟨1, fro (Or.inr rfl) o9⟩⟩
    have z1 : ∀ b : Int, b = t' → t' ≤ b ∧ b ≤ t' + 22 := fun b hb => by omega
    have z2 : ∀ b : Int, b = t' + 4 → t' ≤ b ∧ b ≤ t' + 22 := fun b hb => by omega
    have fz : zSm (zPtg t) M M10 := fun a k p => by
      have p0 : ¬ zPtf t a k := fun y => p (Or.inl y)
      have p1 : ¬ (a = 1 ∧ (k = 11 ∨ k = 12)) := fun y => p (Or.inr (Or.inl y))
      have p4 : ¬ a = 4 := fun y => p (Or.inr (Or.inr (Or.inl y)))
      have p5 : ¬ a = 5 := fun y => p (Or.inr (Or.inr (Or.inr (Or.inl y))))
      have p8 : ¬ (8 ≤ a ∧ a ≤ 17) := fun y => p (Or.inr (Or.inr (Or.inr (Or.inr (Or.inl y)))))
      have p18 : ¬ (a = 18 ∧ (k = 4 ∨ k = 6)) := fun y => p (Or.inr (Or.inr (Or.inr (Or.inr (Or.inr (Or.inl y))))))
      have p63 : ¬ (a = 63 ∧ (k = 8 ∨ k = 14 ∨ k = 15 ∨ k = 16)) := fun y => p (Or.inr (Or.inr (Or.inr (Or.inr (Or.inr (Or.inr y))))))
      have q1 : ¬ (t' ≤ a ∧ a ≤ t' + 22) := fun y => p0 (Or.inl (Or.inr (by rw [← et]; exact y)))
      have q2 : ¬ zPC t' 4 a k := fun y => by
        rcases y with (⟨y, _⟩ | y) | ⟨y, _⟩ | y
        · exact p4 y
        · exact p5 y
        · exact q1 (z1 a y)
        · exact q1 (z2 a y)
      rw [lo a k p18 p63 p8 q2, v6 a k p1, s5 a k p0]
    have e6 : ∀ a k, a = 1 ∧ (k = 14 ∨ k = 15) ∨ a = 2 ∧ k = 1 → M10 a k = M5 a k := fun a k p => by rw [lo a k (by omega) (by omega) (by omega) (by unfold zPC zPLn; omega), v6 a k (by omega)]
    rw [et] at ck
    refine qo T' hz M10 fz ck ?_ ?_ ?_ ?_ ?_ ?_ ?_ ?_ ?_ ?_ (fun k => ?_)
    · rw [lo _ _ (by omega) (by omega) (by omega) (by unfold zPC zPLn; omega)]; exact v612
    · rw [e6 _ _ (by omega)]; exact v14
    · rw [e6 _ _ (by omega)]; exact v15
    · rw [e6 _ _ (by omega)]; exact v21
    · rw [← eM]; simp [zwr]
    · rw [← eM]; simp [zwr]
    · rw [← eM]; simp [zwr]
    · rw [← eM]; simp [zwr]
    · rw [← eM]; simp [zwr]
    · rw [← eM]; simp [zwr]
    · rw [lo _ _ (by omega) (by omega) (by omega) (by unfold zPC zPLn; omega), v6 _ _ (by omega), u5 _ _ (by omega) (by omega), hM2 _ _ (by unfold zPrt; omega)]
  · have g5 := nf M2 f p hM2 e3 e4 _ rfl
    generalize zwr (zwr (zwr M2 1 14 (M2 72 3)) 1 15 ((zwr M2 1 14 (M2 72 3)) 72 4)) 2 1 0 = M5 at g5
    obtain ⟨s5, v14, v15, v21, u5⟩ := g5
    have e78 : ∀ k, M5 78 k = M 78 k := fun k => by rw [u5 _ _ (by omega) (by omega), hM2 _ _ (by unfold zPrt; omega)]
    have hr1 := hR 1 (by decide) (by decide)
    refine E_Zt_none hsl ⟨by decide, ?_⟩
    rw [e78, hr1]
    have w : ∀ a k, a ≠ 78 → (zwr M5 78 1 (Rf 1 + 1)) a k = M5 a k := fun a k p => zwr_o _ p
    refine ⟨by unfold zI; omega, qn f p hz _ (s5.wr (Or.inr (Or.inr (Or.inr rfl)))) (hC.fr hP.1 (fun a k p => ?_)) (by rw [w _ _ (by decide)]; exact v14) (by rw [w _ _ (by decide)]; exact v15) (by rw [w _ _ (by decide)]; exact v21) (fun k k0 k6 => ?_)⟩
    · rw [w a k (by unfold zdCk at p; omega), s5 a k (by unfold zdCk at p; unfold zPtf zPrt; omega)]
    · by_cases c : k = 1
      · rw [c, zwr_s, zup_s]
      · rw [zwr_k _ c, zup_o _ _ c, e78]; exact hR k k0 k6
