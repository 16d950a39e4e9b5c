/-! A TABLET is read, the class. -/
theorem zTok_stm {T : zTb} (h : zTok T) (h60 : T.1 8 2 < 60) : zTok (zset T 8 2 (T.1 8 2 + 1)) := by
  obtain ⟨h0, h8, sl0, sl1, st0, st1, mk, cl⟩ := h
  have ne : ∀ a b, ¬ (a = 8 ∧ b = 2) → (zset T 8 2 (T.1 8 2 + 1)).1 a b = T.1 a b := fun a b p => if_neg p
  have n1 : (zset T 8 2 (T.1 8 2 + 1)).1 8 2 = T.1 8 2 + 1 := zset_s _ _ _ _
  refine ⟨by rw [ne _ _ (by decide)]; exact h0, by rw [ne _ _ (by decide)]; exact h8, by rw [ne _ _ (by decide)]; exact sl0, by rw [ne _ _ (by decide)]; exact sl1, by rw [n1]; omega, by rw [n1]; omega, by rw [ne _ _ (by decide), ne _ _ (by decide)]; exact mk, fun c a b => ?_⟩
  rw [ne _ _ (by decide)] at b
  exact zTok1_eq (fun k => ne _ _ (by omega)) rfl (cl c a b)
theorem zRt_stm {T : zTb} {t : Int} {C : List Int} {B : Int → Int} {n e : Nat} {M : zM} (hT : zTok T) (h : zRt T t C B n e M) : zRt (zset T 8 2 (T.1 8 2 + 1)) t C B n e (zwr M t 3 (M t 3 + 1)) := by
  obtain ⟨a, ⟨b1, b2, b3, b4⟩, ht, ⟨d1, d2⟩, ⟨⟨x2, x3, x4, x5, x6⟩, cc, cm⟩⟩ := h
  have h8 := hT.2.1
  have w : ∀ a k, ¬ (a = t ∧ k = 3) → (zwr M t 3 (M t 3 + 1)) a k = M a k := fun a k p => by rw [zwr_i, if_neg p]
  have w3 : (zwr M t 3 (M t 3 + 1)) t 3 = T.1 8 2 + 1 := by rw [zwr_s, x3]
  generalize zwr M t 3 (M t 3 + 1) = M4 at w w3
  have ne : ∀ a b, ¬ (a = 8 ∧ b = 2) → (zset T 8 2 (T.1 8 2 + 1)).1 a b = T.1 a b := fun a b p => if_neg p
  have n1 : (zset T 8 2 (T.1 8 2 + 1)).1 8 2 = T.1 8 2 + 1 := zset_s _ _ _ _
  refine ⟨a.fr (fun a k p => w a k (by omega)), ⟨by rw [w _ _ (by omega)]; exact b1, by rw [w _ _ (by omega)]; exact b2, by rw [w _ _ (by omega)]; exact b3, by rw [w _ _ (by omega)]; exact b4⟩, ht, ⟨by rw [w _ _ (by omega)]; exact d1, zSeg_eq (fun j => w _ _ (by omega)) d2⟩, ⟨by rw [w _ _ (by omega), ne _ _ (by decide)]; exact x2, by rw [w3, n1], by rw [w _ _ (by omega), ne _ _ (by decide)]; exact x4, by rw [w _ _ (by omega), ne _ _ (by decide)]; exact x5, by rw [w _ _ (by omega)]; exact x6⟩, fun c c0 cn => ?_, fun q => ?_⟩
  · rw [ne _ _ (by decide)] at cn
    exact (cc c c0 cn).tr (fun k => ne _ _ (by omega)) rfl (fun k => w _ _ (by omega)) (fun k => w _ _ (by omega)) (by rw [w _ _ (by omega)]; exact Int.le_refl _) (fun k _ _ => w _ _ (by omega))
  · rw [ne _ _ (by decide)] at q
    rw [w t 6 (by omega), w t 7 (by omega)]
    exact (cm q).tr rfl (by rw [w _ _ (by omega)]; exact Int.le_refl _) (fun k _ _ => w _ _ (by omega))
theorem c_readL {G : zG} {h sl : Nat} (hsl : 1 ≤ sl) {t : Int} {B : Int → Int} {n : Nat} {M0 : zM} {Q : Int → zM → Prop} (hn : n ≤ 1600) :
    ∀ (d i : Nat) (T : zTb) (C : List Int) (e : Nat) (M : zM) (u : Nat × Nat × Nat × Nat), d + i = 61 → T.1 8 2 = (i : Int) → zTok T → e ≤ n → C.length ≤ e → zSm (zPrt t) M0 M → zRt T t C B n e M → (∀ T', ztabd B n d T C.length e = .inr T' → ∀ M', zSm (zPrt t) M0 M' → zTc T' M' t → M' 72 3 = 0 → M' 72 4 = -1 → Q 1 M') → (∀ f p, ztabd B n d T C.length e = .inl (f, p) → ∀ M', zSm (zPrt t) M0 M' → M' 72 3 = f → M' 72 4 = p → Q 0 M') → zX G (y_Reader_readTablet, h + 37 + 1, sl) u 28 [(0, (2, 72)), (1, (2, t)), (2, (0, (i : Int)))] [] M Q
  | 0, i, T, C, e, M, u, ei, e2, hT, he, hs, hM, hr, qo, qn => by
    have := hT.2.2.2.2.2.1
    omega
  | d + 1, i, T, C, e, M, u, ei, e2, hT, he, hs, hM, hr, qo, qn => by
    have st1 := hT.2.2.2.2.2.1
    have ez : ztabd B n (d + 1) T C.length e = if zkd B n e = 0 then (.inr T : zRs zTb) else if T.1 8 2 = 60 then .inl (5, (zfr B n e : Nat)) else zbd (zstat B n T C.length e) (fun r => zbd (zsgn B n r.2.2 59) (fun e2 => ztabd B n d (zset r.1 8 2 (r.1.1 8 2 + 1)) r.2.1 e2)) := rfl
    rw [ez] at qo qn
    refine B_Reader_readTablet_28 hsl ⟨fun y => absurd y (by omega), fun _ => ?_⟩
    rw [hr.1.2.2.1, hr.1.2.1]
    refine ⟨fun c => ?_, fun c => ⟨fun c2 => ?_, fun c2 => ?_⟩⟩
    · rw [if_pos c] at qo
      exact qo T rfl M hM hr.2.2.2.2 hr.1.1.2.2 hr.1.1.1.2
    · rw [if_neg c, if_neg (by omega)] at qo qn
      refine c_statement (h := h) hsl hn hT he hs hr (fun T1 C1 e1 hz M1 h1 g1 => ⟨fun y => absurd y (by decide), fun _ => ?_⟩) (fun f p hz M1 h1 x1 => ⟨fun _ => ?_, fun y => absurd rfl y⟩)
      · rw [hz] at qo qn
        rw [zbd_ok] at qo qn
        have ok := zstat_ok hT he hs hz
        have hsz : zsgn B n e1 59 = if zsg B n e1 59 = true then .inr (zto B n e1) else .inl (1, (zfr B n e1 : Nat)) := rfl
        refine c_takeSign (h := h + 35) hsl hn ok.2.2.2.2 g1.1 (fun c3 M2 h2 g2 => ⟨fun _ => ?_, fun y => absurd (by decide) y⟩) (fun c3 M2 h2 x2 => ⟨fun y => absurd rfl y, fun _ => ?_⟩)
        · have hb := zsg_e ok.2.2.2.2 c3
          have g2 := g1.mv ok.1 h2 g2
          have g3 := zRt_stm ok.1 g2
          have e3 : M2 t 3 = T.1 8 2 := by rw [g2.2.2.2.2.1.2.1]; exact ok.2.1
          have qo := qo
          have qn := qn
          rw [show zsgn B n (T1, C1.length, e1).2.2 59 = .inr (zto B n e1) from hsz.trans (if_pos c3), zbd_ok] at qo qn
          refine ⟨g1.tk, by unfold zI; omega, by unfold zI; omega, ?_⟩
          have := c_readL (G := G) (h := h) (t := t) (M0 := M0) (Q := Q) hsl hn d (i + 1) (zset T1 8 2 (T1.1 8 2 + 1)) C1 (zto B n e1) (zwr M2 t 3 (M2 t 3 + 1)) u (by omega) ((zset_s _ _ _ _).trans (by rw [ok.2.1]; omega)) (zTok_stm ok.1 (by rw [ok.2.1]; omega)) hb.2 (by have := ok.2.2.1; omega) (((hM.trans h1).trans (zPrs_rt h2)).wr (Or.inr ⟨by omega, by omega⟩)) g3 qo qn
          rw [zcs] at this
          exact this
        · rw [show zsgn B n (T1, C1.length, e1).2.2 59 = .inl (1, (zfr B n e1 : Nat)) from hsz.trans (if_neg c3), zbd_no] at qn
          exact qn _ _ rfl M2 ((hM.trans h1).trans (zPrs_rt h2)) x2.1 x2.2
      · rw [hz] at qn
        exact qn f p rfl M1 (hM.trans h1) x1.1 x1.2
    · rw [if_neg c, if_pos (by omega)] at qn
      exact c_refuse0 hsl hr.1.1.2.2 (fun M1 h1 x1 => qn _ _ rfl M1 (hM.trans (zPrs_rt h1)) x1.1 x1.2)
theorem c_readTablet {G : zG} {h sl : Nat} (hsl : 1 ≤ sl) {t : Int} {B : Int → Int} {n : Nat} {M : zM} {Q : Int → zM → Prop} (hn : n ≤ 1600) (ht : t = 79 ∨ t = 102) (h2 : M 2 1 = n) (h3 : zAr M 3 n B) (qo : ∀ T', ztab B n = .inr T' → ∀ M', zSm (zPrt t) M M' → zTc T' M' t → M' 72 3 = 0 → M' 72 4 = -1 → Q 1 M') (qn : ∀ f p, ztab B n = .inl (f, p) → ∀ M', zSm (zPrt t) M M' → M' 72 3 = f → M' 72 4 = p → Q 0 M') : zCt G (h + 38) sl 0 0 y_Reader_readTablet [(2, 72), (2, t)] M Q := by
  have tk : zK t = (8, 0) := by rcases ht with a | a <;> rw [a] <;> decide
  refine E_Reader_readTablet hsl ⟨tk, E_Tablet_clear hsl ⟨tk, ?_⟩⟩
  generalize eM : zwr (zwr (zwr (zwr (zwr (zwr (zwr (zwr M t 2 0) t 3 0) t 4 0) t 5 0) (t + 2) 2 0) 72 5 t) 72 6 (t + 2)) 72 7 0 = M1
  have s1 : zSm (zPrt t) M M1 := by
    rw [← eM]
    exact ((((((((zSm.refl _ M).wr (Or.inr ⟨by omega, by omega⟩)).wr (Or.inr ⟨by omega, by omega⟩)).wr (Or.inr ⟨by omega, by omega⟩)).wr (Or.inr ⟨by omega, by omega⟩)).wr (Or.inr ⟨by omega, by omega⟩)).wr (Or.inl ⟨rfl, by decide⟩)).wr (Or.inl ⟨rfl, by decide⟩)).wr (Or.inl ⟨rfl, by decide⟩)
  have v5 : M1 72 5 = t := by rw [← eM, zwr_k _ (by decide), zwr_k _ (by decide), zwr_s]
  have v6 : M1 72 6 = t + 2 := by rw [← eM, zwr_k _ (by decide), zwr_s]
  have v7 : M1 72 7 = 0 := by rw [← eM, zwr_s]
  have vt : ∀ k, 2 ≤ k → k ≤ 5 → M1 t k = 0 := fun k k2 k5 => by
    rw [← eM, zwr_o _ (by omega), zwr_o _ (by omega), zwr_o _ (by omega), zwr_o _ (by omega)]
    have : k = 2 ∨ k = 3 ∨ k = 4 ∨ k = 5 := by omega
    rcases this with rfl | rfl | rfl | rfl <;> simp [zwr]
  have vc : M1 (t + 2) 2 = 0 := by rw [← eM, zwr_o _ (by omega), zwr_o _ (by omega), zwr_o _ (by omega), zwr_s]
  refine c_start (h := h + 35) hsl hn (by rw [s1 _ _ (by unfold zPrt; omega)]; exact h2) (h3.fr (fun k => s1 _ _ (by unfold zPrt; omega))) (fun M2 hM2 e8 g2 => ?_)
  have up : ∀ a k, ¬ (a = 72 ∧ (k = 3 ∨ k = 4 ∨ 8 ≤ k ∧ k ≤ 11)) → M2 a k = M1 a k := fun a k p => hM2 a k (by unfold zPst; omega)
  have hr : zRt (fun _ _ => 0, fun _ => []) t [] B n 0 M2 := by
    refine ⟨g2, ⟨by rw [up _ _ (by omega)]; exact v5, by rw [up _ _ (by omega)]; exact v6, by rw [up _ _ (by omega)]; exact v7, e8⟩, ht, ⟨by rw [up _ _ (by omega)]; exact vc, trivial⟩, ⟨by rw [up _ _ (by omega)]; exact vt 2 (by decide) (by decide), by rw [up _ _ (by omega)]; exact vt 3 (by decide) (by decide), by rw [up _ _ (by omega)]; exact vt 4 (by decide) (by decide), by rw [up _ _ (by omega)]; exact vt 5 (by decide) (by decide), by rw [up _ _ (by omega), vc]; decide⟩, fun c c0 cn => ?_, fun q => ?_⟩
    · have cn : c < 0 := cn
      omega
    · have q : (0 : Int) = 1 := q
      omega
  have hT : zTok (fun _ _ => 0, fun _ => []) := ⟨Int.le_refl _, by decide, Int.le_refl _, by decide, Int.le_refl _, by decide, Or.inl rfl, fun c a b => by have b : c < 0 := b; omega⟩
  exact c_readL (h := h) hsl hn 61 0 (fun _ _ => 0, fun _ => []) [] 0 M2 _ (by omega) rfl hT (Nat.zero_le _) (Nat.le_refl _) (s1.trans (hM2.mono (fun a k p => by unfold zPst at p; unfold zPrt; omega))) hr (fun T' hz M' hM' => qo T' hz M' hM') (fun f p hz M' hM' => qn f p hz M' hM')
