/-! A STATEMENT, the class. -/
/-- behind a column's words: its count goes up -/
theorem c_stat235 {G : zG} {h sl : Nat} (hsl : 1 ≤ sl) {T : zTb} {t so : Int} {C D : List Int} {f : Int → Int} {B : Int → Int} {n e e' : Nat} {M0 M M' : zM} {Q : Int → zM → Prop} (hT : zTok T) (h8 : T.1 8 0 < 8) (h : zRt T t C B n e M) (hr : zRd B n e' M') (h5 : M' 72 5 = t ∧ M' 72 6 = t + 2 ∧ M' 72 7 = 0 ∧ M' 72 8 = 0) (fr : ∀ a k, a = t ∧ 2 ≤ k ∧ k ≤ 7 ∨ t + 7 ≤ a ∧ a < t + 7 + 2 * T.1 8 0 → M' a k = M a k)
    (hC : M' (t + 2) 2 = ((C ++ D).length : Nat) ∧ zSeg false M' (t + 3) 0 (C ++ D)) (hle : (C ++ D).length ≤ 1600) (hf : M' (t + 7 + 2 * T.1 8 0) 1 = f 0 ∧ M' (t + 7 + 2 * T.1 8 0) 2 = f 1 ∧ M' (t + 7 + 2 * T.1 8 0) 3 = f 2 ∧ M' (t + 7 + 2 * T.1 8 0) 4 = f 3 ∧ M' (t + 7 + 2 * T.1 8 0) 5 = f 4 ∧ M' (t + 7 + 2 * T.1 8 0) 6 = f 5 ∧ M' (t + 7 + 2 * T.1 8 0) 7 = f 6 ∧ M' (t + 7 + 2 * T.1 8 0) 8 = f 7)
    (hcd : 2 ≤ f 0 → M' (t + 7 + 2 * T.1 8 0) 9 = (C.length : Nat) ∧ M' (t + 7 + 2 * T.1 8 0) 10 = ((C ++ D).length : Nat)) (hl : ∀ k, 0 ≤ k → k < 6 → M' (t + 7 + 2 * T.1 8 0 + 1) k = f (10 + k)) (hM : zSm (zPrt t) M0 M')
    (q : ∀ M2, zSm (zPrt t) M0 M2 → zRt (zset (zadd T (T.1 8 0) f D) 8 0 (T.1 8 0 + 1)) t (C ++ D) B n e' M2 → Q 1 M2) : zK (M' 72 5) = (8, 0) ∧ zI (M' (M' 72 5) 2 + 1) ∧ Q 1 (zwr M' (M' 72 5) 2 (M' (M' 72 5) 2 + 1)) := by
  have hz := zRt_new hT h8 h hr h5 fr hC hle hf hcd hl
  have h0 := hT.1
  have e2 : M' t 2 = T.1 8 0 := by rw [fr t 2 (by omega)]; exact h.2.2.2.2.1.1
  rw [h5.1]
  exact ⟨h.tk, by unfold zI; omega, q _ (hM.wr (Or.inr ⟨by omega, by omega⟩)) hz⟩
theorem c_statement {G : zG} {h sl : Nat} (hsl : 1 ≤ sl) {T : zTb} {t : Int} {C : List Int} {B : Int → Int} {n e : Nat} {M : zM} {Q : Int → zM → Prop} (hn : n ≤ 1600) (hT : zTok T) (he : e ≤ n) (hs : C.length ≤ e) (hr : zRt T t C B n e M)
    (qo : ∀ T' C' e', zstat B n T C.length e = .inr (T', List.length C', e') → ∀ M', zSm (zPrt t) M M' → zRt T' t C' B n e' M' → Q 1 M') (qn : ∀ f p, zstat B n T C.length e = .inl (f, p) → ∀ M', zSm (zPrt t) M M' → zRF f p M' → Q 0 M') : zCt G (h + 37) sl 0 0 y_Reader_statement [(2, 72)] M Q := by
  have h0 := hT.1
  have hm8 := hT.2.1
  have hc := hr.co
  have tk := hr.tk
  have ht := hr.2.2.1
  have em : (((T.1 8 0).toNat : Nat) : Int) = T.1 8 0 := by omega
  have hf10 : M 72 10 = (zfr B n e : Nat) := hr.1.2.1
  unfold zstat at qo qn
  refine E_Reader_statement hsl (c_tryW (h := h + 31) hsl hn he hr.1 zr_slip (fun c1 M2 h2 g2 => ⟨fun y => absurd y (by decide), fun _ => ?_⟩) (fun c1 => ⟨fun _ => ?_, fun y => absurd rfl y⟩))
  · -- slip
    rw [if_pos c1] at qo qn
    have r2 := hr.mv hT h2 g2
    have e25 := r2.2.1.1
    have hb := zwrd_e he c1
    refine c_number (h := h + 34) hsl hn hb.2 g2 (fun e' v hz M3 h3 g3 => ?_) (fun f p hz M3 h3 x3 => ?_)
    · rw [hz] at qo
      rw [e25]
      have r3 := r2.mv hT h3 g3
      refine ⟨tk, fun y => absurd (by rw [zwr_o _ (by omega)]; exact g3.1.2.2) y, fun _ => ?_⟩
      refine qo (zset T 8 1 v) C e' rfl _ (((zPrs_rt h2).trans (zPrs_rt h3)).wr (Or.inr ⟨by omega, by omega⟩)) ?_
      obtain ⟨a, ⟨b1, b2, b3, b4⟩, _, ⟨d1, d2⟩, ⟨⟨x2, x3, x4, x5, x6⟩, cc, cm⟩⟩ := r3
      have w : ∀ a k, ¬ (a = t ∧ k = 4) → (zwr M3 t 4 v) a k = M3 a k := fun a k p => by rw [zwr_i, if_neg p]
      have w4 : (zwr M3 t 4 v) t 4 = v := zwr_s _ _ _ _
      generalize zwr M3 t 4 v = M4 at w w4
      have ne : ∀ a b, ¬ (a = 8 ∧ b = 1) → (zset T 8 1 v).1 a b = T.1 a b := fun a b p => if_neg p
      have n1 : (zset T 8 1 v).1 8 1 = v := zset_s _ _ _ _
      refine ⟨a.fr (fun a k p => w a k (by omega)), ⟨by rw [w _ _ (by omega)]; exact b1, by rw [w _ _ (by omega)]; exact b2, by rw [w _ _ (by omega)]; exact b3, by rw [w _ _ (by omega)]; exact b4⟩, ht, ⟨by rw [w _ _ (by omega)]; exact d1, zSeg_eq (fun j => w _ _ (by omega)) d2⟩, ⟨by rw [w _ _ (by omega), ne _ _ (by decide)]; exact x2, by rw [w _ _ (by omega), ne _ _ (by decide)]; exact x3, by rw [w4, n1], by rw [w _ _ (by omega), ne _ _ (by decide)]; exact x5, by rw [w _ _ (by omega)]; exact x6⟩, fun c c0 cn => ?_, fun q => ?_⟩
      · rw [ne _ _ (by decide)] at cn
        exact (cc c c0 cn).tr (fun k => ne _ _ (by omega)) rfl (fun k => w _ _ (by omega)) (fun k => w _ _ (by omega)) (by rw [w _ _ (by omega)]; exact Int.le_refl _) (fun k _ _ => w _ _ (by omega))
      · rw [ne _ _ (by decide)] at q
        rw [w t 6 (by omega), w t 7 (by omega)]
        exact (cm q).tr rfl (by rw [w _ _ (by omega)]; exact Int.le_refl _) (fun k _ _ => w _ _ (by omega))
    · rw [hz] at qn
      rw [e25]
      have x1 : zRF f p (zwr M3 t 4 (-1)) := ⟨by rw [zwr_o _ (by omega)]; exact x3.1, by rw [zwr_o _ (by omega)]; exact x3.2⟩
      refine ⟨tk, fun _ => qn f p rfl _ (((zPrs_rt h2).trans (zPrs_rt h3)).wr (Or.inr ⟨by omega, by omega⟩)) x1, fun y => absurd (by rw [x1.1]; exact znum_no hz) y⟩
  rw [if_neg c1] at qo qn
  refine c_tryW (h := h + 31) hsl hn he hr.1 zr_marks (fun c2 M5 h5 g5 => ⟨fun y => absurd y (by decide), fun _ => ?_⟩) (fun c2 => ⟨fun _ => ?_, fun y => absurd rfl y⟩)
  · -- marks
    rw [if_pos c2] at qo qn
    have r5 := hr.mv hT h5 g5
    have hb := zwrd_e he c2
    obtain ⟨a, ⟨b1, b2, b3, b4⟩, _, ⟨d1, d2⟩, ⟨⟨x2, x3, x4, x5, x6⟩, cc, cm⟩⟩ := r5
    rw [b1, x5]
    refine ⟨tk, fun c3 => ?_, fun c3 => ?_⟩
    · rw [if_pos c3] at qo qn
      have w5 : (zwr M5 t 5 1) 72 5 = t := by rw [zwr_o _ (by omega)]; exact b1
      have w6 : (zwr M5 t 5 1) 72 6 = t + 2 := by rw [zwr_o _ (by omega)]; exact b2
      have w2 : (zwr M5 t 5 1) (t + 2) 2 = (C.length : Nat) := by rw [zwr_o _ (by omega)]; exact d1
      rw [w5, w6, w2]
      refine ⟨hc.k, tk, ?_⟩
      have w : ∀ a k, ¬ (a = t ∧ (k = 5 ∨ k = 6)) → (zwr (zwr M5 t 5 1) t 6 ((C.length : Nat) : Int)) a k = M5 a k := fun a k p => by rw [zwr_i, if_neg (by omega), zwr_i, if_neg (by omega)]
      have v5 : (zwr (zwr M5 t 5 1) t 6 ((C.length : Nat) : Int)) t 5 = 1 := by rw [zwr_k _ (by decide), zwr_s]
      have v6 : (zwr (zwr M5 t 5 1) t 6 ((C.length : Nat) : Int)) t 6 = (C.length : Nat) := zwr_s _ _ _ _
      have s6 : zSm (zPrt t) M (zwr (zwr M5 t 5 1) t 6 ((C.length : Nat) : Int)) := ((zPrs_rt h5).wr (Or.inr ⟨by omega, by omega⟩)).wr (Or.inr ⟨by omega, by omega⟩)
      generalize zwr (zwr M5 t 5 1) t 6 ((C.length : Nat) : Int) = M6 at w v5 v6 s6
      have hS := c_testK (G := G) (sl := sl) (md := 1) (T := T) (m := (T.1 8 0).toNat) (t := t) (c := t + 2) (B := B) (n := n) (s := 0) hsl hn (by omega) hc 6 (by omega)
      rw [show (6 : Int) - ((6 : Nat) : Int) = 0 from by omega] at hS
      have hr6 : zRp 1 T (T.1 8 0).toNat t (t + 2) B n 0 (zto B n e) C M6 := by
        refine ⟨a.fr (fun a k p => w a k (by omega)), ⟨by rw [w _ _ (by omega)]; exact b2, by rw [w _ _ (by omega)]; exact b3, by rw [w _ _ (by omega)]; exact b4⟩, ⟨by rw [w _ _ (by omega), d1, show ((0 : Nat) : Int) + (C.length : Nat) = (C.length : Nat) from by omega], by rw [show t + 2 + 1 = t + 3 from by omega]; exact zSeg_eq (M := M5) (fun j => w _ _ (by omega)) d2⟩, fun _ => ⟨⟨ht, by rw [w _ _ (by omega)]; exact b1, by rw [w _ _ (by omega), x2, em], fun c k c0 cn k0 k6 => ?_⟩, rfl⟩⟩
        rw [w _ _ (by omega)]
        exact (cc c c0 (by omega)).2.2 k k0 k6
      refine hS (h + 36) (by omega) (zto B n e) C M6 _ hb.2 (by omega) hr6 (fun e' D hz M7 h7 g7 => ?_) (fun f p hz M7 h7 x7 a6 a2 => ?_)
      · rw [hz] at qo
        have gd := ztestK_gd (by omega) hb.2 hz
        have e72 := g7.2.2.1.1
        rw [show ((0 : Nat) : Int) + ((C ++ D).length : Nat) = ((C ++ D).length : Nat) from by omega] at e72
        have e7s : zSeg false M7 (t + 3) 0 (C ++ D) := by
          have := g7.2.2.1.2
          rw [show t + 2 + 1 = t + 3 from by omega] at this
          exact this
        rw [g7.2.1.1, (g7.2.2.2 (by decide)).1.2.1, e72]
        refine ⟨hc.k, tk, ?_⟩
        have hlen : (C ++ D).length ≤ 1600 := by rw [List.length_append]; have := gd.1; have := gd.2.1; omega
        have up : ∀ a k, ¬ (a = t ∧ k = 7) → ¬ zPrp (t + 2) a k → (zwr M7 t 7 (((C ++ D).length : Nat) : Int)) a k = M6 a k := fun a k p1 p2 => by rw [zwr_i, if_neg p1, h7 a k p2]
        have u7 : ∀ a k, ¬ (a = t ∧ k = 7) → (zwr M7 t 7 (((C ++ D).length : Nat) : Int)) a k = M7 a k := fun a k p1 => by rw [zwr_i, if_neg p1]
        have v7 : (zwr M7 t 7 (((C ++ D).length : Nat) : Int)) t 7 = ((C ++ D).length : Nat) := zwr_s _ _ _ _
        have s8 : zSm (zPrt t) M (zwr M7 t 7 (((C ++ D).length : Nat) : Int)) := (s6.trans (zPrp_rt h7)).wr (Or.inr ⟨by omega, by omega⟩)
        refine qo (zset (T.1, fun a => if a = 8 then D else T.2 a) 8 3 1) (C ++ D) e' (by rw [List.length_append]; rfl) _ s8 ?_
        generalize zwr M7 t 7 (((C ++ D).length : Nat) : Int) = M8 at up u7 v7
        have ne : ∀ a b, ¬ (a = 8 ∧ b = 3) → (zset (T.1, fun a => if a = 8 then D else T.2 a) 8 3 1).1 a b = T.1 a b := fun a b p => if_neg p
        have n1 : (zset (T.1, fun a => if a = 8 then D else T.2 a) 8 3 1).1 8 3 = 1 := zset_s _ _ _ _
        have n2 : ∀ a, a ≠ 8 → (zset (T.1, fun a => if a = 8 then D else T.2 a) 8 3 1).2 a = T.2 a := fun a p => zmk_e T D p
        have n3 : (zset (T.1, fun a => if a = 8 then D else T.2 a) 8 3 1).2 8 = D := zmk_d T D
        have sp := zSeg_split e7s
        have same := zSeg_same d2 sp.1
        have g : M5 (t + 2) 2 ≤ M8 (t + 2) 2 := by rw [u7 _ _ (by omega), e72, d1, List.length_append]; omega
        have sm : ∀ k, 0 ≤ k → k < M5 (t + 2) 2 → M8 (t + 3) k = M5 (t + 3) k := fun k k0 kk => by rw [u7 _ _ (by omega)]; exact same k k0 (by omega)
        have upt : ∀ k, 2 ≤ k → k ≤ 4 → M8 t k = M5 t k := fun k k2 k4 => by rw [up _ _ (by omega) (by unfold zPrp; omega), w _ _ (by omega)]
        have upc : ∀ a k, t + 7 ≤ a → M8 a k = M5 a k := fun a k ha => by rw [up _ _ (by omega) (by unfold zPrp; omega), w _ _ (by omega)]
        refine ⟨g7.1.fr (fun a k p => u7 a k (by omega)), ⟨by rw [u7 _ _ (by omega)]; exact (g7.2.2.2 (by decide)).1.2.1, by rw [u7 _ _ (by omega)]; exact g7.2.1.1, by rw [u7 _ _ (by omega)]; exact g7.2.1.2.1, by rw [u7 _ _ (by omega)]; exact g7.2.1.2.2⟩, ht, ⟨by rw [u7 _ _ (by omega)]; exact e72, zSeg_eq (fun j => u7 _ _ (by omega)) e7s⟩, ⟨by rw [upt 2 (by decide) (by decide), ne _ _ (by decide)]; exact x2, by rw [upt 3 (by decide) (by decide), ne _ _ (by decide)]; exact x3, by rw [upt 4 (by decide) (by decide), ne _ _ (by decide)]; exact x4, by rw [n1, up _ _ (by omega) (by unfold zPrp; omega)]; exact v5, by rw [u7 _ _ (by omega), e72]; omega⟩, fun c c0 cn => ?_, fun _ => ?_⟩
        · rw [ne _ _ (by decide)] at cn
          exact (cc c c0 cn).tr (fun k => ne _ _ (by omega)) (n2 _ (by omega)) (fun k => upc _ _ (by omega)) (fun k => upc _ _ (by omega)) g sm
        · unfold zTcC
          rw [n3, v7, up t 6 (by omega) (by unfold zPrp; omega), v6, u7 (t + 2) 2 (by omega), e72]
          refine ⟨by omega, by rw [List.length_append]; omega, Int.le_refl _, ?_⟩
          have := sp.2
          rw [show (0 : Int) + (C.length : Nat) = (C.length : Nat) from by omega] at this
          exact zSeg_eq (fun j => u7 _ _ (by omega)) this
      · rw [hz] at qn
        have e75 : M7 72 5 = t := by rw [h7 _ _ (by unfold zPrp; omega), w _ _ (by omega)]; exact b1
        rw [a6, e75]
        refine ⟨hc.k, tk, qn f p rfl _ ((s6.trans (zPrp_rt h7)).wr (Or.inr ⟨by omega, by omega⟩)) ⟨?_, ?_⟩⟩
        · rw [zwr_o _ (by omega)]; exact x7.1
        · rw [zwr_o _ (by omega)]; exact x7.2
    · rw [if_neg c3] at qn
      rw [hf10]
      exact c_refuse0 hsl a.1.2.2 (fun M6 h6 x6 => qn _ _ rfl M6 ((zPrs_rt h5).trans (zPrs_rt h6)) x6)
  rw [if_neg c2] at qo qn
  refine c_sortHere (h := h + 30) hsl hn he hr.1 (fun c3 => ⟨fun y => absurd rfl y, fun _ => ?_⟩) (fun c3 M8 h8 g8 => ⟨fun _ => ?_, fun y => absurd (Classical.byContradiction y) c3⟩)
  · rw [if_pos c3] at qn
    exact c_unfit0 (h := h + 35) hsl hr.1 (fun M6 h6 x6 => qn _ _ rfl M6 (zPrs_rt h6) x6)
  rw [if_neg c3] at qo qn
  have r8 := hr.mv hT h8 g8
  have e8n : M8 t 2 = T.1 8 0 := r8.2.2.2.2.1.1
  have hso := zsrt_v B n e
  have hb := zto_b (B := B) he
  rw [r8.2.1.1, e8n]
  refine ⟨tk, fun c4 => ⟨⟨h0, c4⟩, ?_⟩, fun c4 => ?_⟩
  · rw [if_neg (by omega)] at qo qn
    have hl := (zs_cols tk h0 c4).2
    generalize el : t + 7 + 2 * T.1 8 0 = l at hl
    generalize eso : zsrt B n e = so at hso c3 qo qn
    refine E_Column_clear hsl ⟨hl, ?_⟩
    have vo : ∀ a k, a ≠ l → (zwr (zwr (zwr (zwr (zwr (zwr (zwr (zwr (zwr (zwr M8 l 1 so) l 2 0) l 3 0) l 4 0) l 5 0) l 6 0) l 7 0) l 8 0) l 9 0) l 10 0) a k = M8 a k := fun a k p => by simp only [zwr_o _ p]
    have vl : ∀ k, 2 ≤ k → k ≤ 10 → (zwr (zwr (zwr (zwr (zwr (zwr (zwr (zwr (zwr (zwr M8 l 1 so) l 2 0) l 3 0) l 4 0) l 5 0) l 6 0) l 7 0) l 8 0) l 9 0) l 10 0) l k = 0 := fun k k2 k10 => by
      have : k = 2 ∨ k = 3 ∨ k = 4 ∨ k = 5 ∨ k = 6 ∨ k = 7 ∨ k = 8 ∨ k = 9 ∨ k = 10 := by omega
      rcases this with rfl | rfl | rfl | rfl | rfl | rfl | rfl | rfl | rfl <;> simp [zwr]
    have v1 : (zwr (zwr (zwr (zwr (zwr (zwr (zwr (zwr (zwr (zwr M8 l 1 so) l 2 0) l 3 0) l 4 0) l 5 0) l 6 0) l 7 0) l 8 0) l 9 0) l 10 0) l 1 = so := by simp [zwr]
    generalize zwr (zwr (zwr (zwr (zwr (zwr (zwr (zwr (zwr (zwr M8 l 1 so) l 2 0) l 3 0) l 4 0) l 5 0) l 6 0) l 7 0) l 8 0) l 9 0) l 10 0 = M12 at vo vl v1
    have s12 : zSm (zPrt t) M M12 := (zPrs_rt h8).trans (fun a k p => vo a k (by unfold zPrt at p; omega))
    have hN12 : zNc T (T.1 8 0).toNat t M12 := by
      have := r8.nc hT
      refine ⟨ht, by rw [vo _ _ (by omega)]; exact this.2.1, by rw [vo _ _ (by omega)]; exact this.2.2.1, fun c k c0 cn k0 k6 => ?_⟩
      rw [vo _ _ (by omega)]
      exact this.2.2.2 c k c0 cn k0 k6
    have g12 : zRd B n (zto B n e) M12 := g8.fr (fun a k p => vo a k (by omega))
    have nmr : ∀ {M1 M2 : zM}, zSm (zPnm l) M1 M2 → zSm (zPrt t) M1 M2 := fun hh => hh.mono (fun a k p => by unfold zPnm at p; unfold zPrt; omega)
    refine c_name (h := h + 31) hsl hn (by omega) hb.2.1 g12 hN12 hl (by omega) (fun e1 hz1 M14 h14 g14 lt14 => ⟨fun _ => ?_, fun y => absurd (by decide) y⟩) (fun f p hz1 M14 h14 x14 => ⟨fun y => absurd rfl y, fun _ => ?_⟩)
    rotate_left
    · rw [hz1] at qn
      exact qn f p rfl M14 (s12.trans (nmr h14)) x14
    rw [hz1] at qo qn
    rw [zbd_ok] at qo qn
    have o1 := znam_ok hb.2.1 hz1
    have hfl := zfr_le B n e
    have hce : C.length ≤ e1 := by have := o1.1; omega
    have s14 := s12.trans (nmr h14)
    have u14 : ∀ a k, 73 ≤ a → a ≠ l + 1 → M14 a k = M12 a k := fun a k p1 p2 => h14 a k (by unfold zPnm; omega)
    have q14 : ∀ k, 5 ≤ k → k ≤ 8 → M14 72 k = M8 72 k := fun k k1 k2 => by rw [h14 _ _ (by unfold zPnm; omega), vo _ _ (by omega)]
    have l14 : ∀ k, 2 ≤ k → k ≤ 10 → M14 l k = 0 := fun k k1 k2 => by rw [u14 _ _ (by omega) (by omega)]; exact vl k k1 k2
    have l141 : M14 l 1 = so := by rw [u14 _ _ (by omega) (by omega)]; exact v1
    have lt14 : ∀ k, 0 ≤ k → k < 6 → M14 (l + 1) k = zlts B n (zto B n e) (10 + k) := fun k k0 k6 => by
      have := lt14 k.toNat (by omega)
      rw [show ((k.toNat : Nat) : Int) = k from by omega] at this
      rw [this]
      unfold zlts
      rw [if_pos (by omega), show 10 + k - 10 = k from by omega]
    have fr14 : ∀ a k, a = t ∧ 2 ≤ k ∧ k ≤ 7 ∨ a = t + 2 ∨ a = t + 3 ∨ t + 7 ≤ a ∧ a < l → M14 a k = M8 a k := fun a k p => by rw [u14 a k (by omega) (by omega), vo a k (by omega)]
    -- the last of it
    have fin : ∀ (f : Int → Int) (D : List Int) (e' : Nat) (M9 : zM), zcdf T (T.1 8 0).toNat B n so (zlts B n (zto B n e)) e1 = .inr (e', f, D) → zRd B n e' M9 → zSm (zPrt t) M14 M9 → (M9 72 5 = t ∧ M9 72 6 = t + 2 ∧ M9 72 7 = 0 ∧ M9 72 8 = 0) → (∀ a k, a = t ∧ 2 ≤ k ∧ k ≤ 7 ∨ t + 7 ≤ a ∧ a < l → M9 a k = M14 a k) → (M9 (t + 2) 2 = ((C ++ D).length : Nat) ∧ zSeg false M9 (t + 3) 0 (C ++ D)) → (M9 l 1 = f 0 ∧ M9 l 2 = f 1 ∧ M9 l 3 = f 2 ∧ M9 l 4 = f 3 ∧ M9 l 5 = f 4 ∧ M9 l 6 = f 5 ∧ M9 l 7 = f 6 ∧ M9 l 8 = f 7) → (2 ≤ f 0 → M9 l 9 = (C.length : Nat) ∧ M9 l 10 = ((C ++ D).length : Nat)) → (∀ k, M9 (l + 1) k = M14 (l + 1) k) → zK (M9 72 5) = (8, 0) ∧ zI (M9 (M9 72 5) 2 + 1) ∧ Q 1 (zwr M9 (M9 72 5) 2 (M9 (M9 72 5) 2 + 1)) := fun f D e' M9 hz hr9 h9 k5 fr9 hC9 hf9 hcd9 hl9 => by
      have ok := zcdf_ok (by omega) ⟨by omega, by omega⟩ o1.2.1 hz
      rw [hz, zbd_ok] at qo
      subst el
      refine c_stat235 (G := G) (h := h) (sl := sl) (so := so) hsl hT c4 r8 hr9 k5 (fun a k p => by rw [fr9 a k (by omega), fr14 a k (by omega)]) hC9 ?_ hf9 hcd9 (fun k k0 k6 => by rw [hl9, lt14 k k0 k6]; exact (ok.2.1 _ (by omega)).symm) (s14.trans h9) (fun M2 hM2 g2 => qo _ (C ++ D) e' (by rw [List.length_append]) M2 hM2 g2)
      rw [List.length_append]
      have := ok.1
      omega
    -- a fault in it
    have bad : ∀ (f p : Int) (M9 : zM), zcdf T (T.1 8 0).toNat B n so (zlts B n (zto B n e)) e1 = .inl (f, p) → zSm (zPrt t) M14 M9 → zRF f p M9 → Q 0 M9 := fun f p M9 hz h9 x9 => by
      rw [hz] at qn
      exact qn f p rfl M9 (s14.trans h9) x9
    have hN14 : zNc T (T.1 8 0).toNat t M14 := by
      have := r8.nc hT
      refine ⟨ht, by rw [q14 5 (by decide) (by decide)]; exact this.2.1, by rw [fr14 _ _ (by omega)]; exact this.2.2.1, fun c k c0 cn k0 k6 => ?_⟩
      rw [fr14 _ _ (by omega)]
      exact this.2.2.2 c k c0 cn k0 k6
    have hC14 : M14 (t + 2) 2 = (C.length : Nat) ∧ zSeg false M14 (t + 3) 0 C := ⟨by rw [fr14 _ _ (by omega)]; exact r8.2.2.2.1.1, zSeg_eq (fun j => fr14 _ _ (by omega)) r8.2.2.2.1.2⟩
    have b14 : M14 72 5 = t ∧ M14 72 6 = t + 2 ∧ M14 72 7 = 0 ∧ M14 72 8 = 0 := ⟨by rw [q14 5 (by decide) (by decide)]; exact r8.2.1.1, by rw [q14 6 (by decide) (by decide)]; exact r8.2.1.2.1, by rw [q14 7 (by decide) (by decide)]; exact r8.2.1.2.2.1, by rw [q14 8 (by decide) (by decide)]; exact r8.2.1.2.2.2⟩
    have hso3 : 0 ≤ so ∧ so ≤ 3 := by omega
    -- the sum behind a ring's words, a sum's
    have sumS : ∀ (X : zRs Nat) (M9 : zM) (F : Nat × List Int → zRs (Nat × (Int → Int) × List Int)) (fl : Int → Int), 2 ≤ so → zCs B n X M9 → zcdf T (T.1 8 0).toNat B n so (zlts B n (zto B n e)) e1 = zbd (zsmc T (T.1 8 0).toNat B n X) F → (∀ r, F r = .inr (r.1, fl, r.2)) → (∀ x, X = .inr x → C.length ≤ x) → zSm (zPrt t) M14 M9 → (∀ a k, a = t ∧ 2 ≤ k ∧ k ≤ 7 ∨ a = t + 2 ∨ a = t + 3 ∨ t + 7 ≤ a ∧ a < l ∨ a = l + 1 → M9 a k = M14 a k) → (∀ k, 5 ≤ k → k ≤ 8 → M9 72 k = M14 72 k) → (M9 l 1 = fl 0 ∧ M9 l 2 = fl 1 ∧ M9 l 3 = fl 2 ∧ M9 l 4 = fl 3 ∧ M9 l 5 = fl 4 ∧ M9 l 6 = fl 5 ∧ M9 l 7 = fl 6 ∧ M9 l 8 = fl 7) → zX G (y_Reader_statement, h + 36 + 1, sl) (0, 0, 0, 0) 235 [(0, (2, 72)), (2, (0, so)), (3, (2, l))] [] M9 Q := fun X M9 F fl h2 hX hz hF hsx h9 f9 q9 l9 => by
      refine B_Reader_statement_235 hsl ?_
      cases X with
      | inl x => exact ⟨fun _ => bad x.1 x.2 M9 hz h9 hX.1, fun y => absurd (by rw [hX.1.1]; exact hX.2) y⟩
      | inr x =>
        refine ⟨fun y => absurd hX.2.1.2.2 y, fun _ => ⟨fun y => absurd y (by omega), fun _ => ?_⟩⟩
        have pso : ∀ {M1 M2 : zM}, zSm (zPso t l) M1 M2 → zSm (zPrt t) M1 M2 := fun hh => hh.mono (fun a k p => by unfold zPso at p; unfold zPrt; omega)
        refine c_sumOf (h := h + 2) (T := T) (m := (T.1 8 0).toNat) (C := C) hsl hn (by omega) hX.1 (hsx x rfl) hl (by omega) hX.2 (by rw [q9 6 (by decide) (by decide)]; exact b14.2.1) (by rw [q9 7 (by decide) (by decide)]; exact b14.2.2.1) ⟨ht, by rw [q9 5 (by decide) (by decide)]; exact hN14.2.1, by rw [f9 _ _ (by omega)]; exact hN14.2.2.1, fun c k c0 cn k0 k6 => by rw [f9 _ _ (by omega)]; exact hN14.2.2.2 c k c0 cn k0 k6⟩ ⟨by rw [f9 _ _ (by omega)]; exact hC14.1, zSeg_eq (fun j => f9 _ _ (by omega)) hC14.2⟩ hc (fun e' D hz2 M10 h10 g10 e108 hC10 e109 e1010 => ⟨fun _ => ?_, fun y => absurd (by decide) y⟩) (fun f p hz2 M10 h10 x10 => ⟨fun y => absurd rfl y, fun _ => bad f p M10 ?_ (h9.trans (pso h10)) x10⟩)
        · have u10 : ∀ a k, ¬ zPso t l a k → M10 a k = M9 a k := fun a k p => h10 a k p
          refine fin fl D e' M10 ?_ g10 (h9.trans (pso h10)) ⟨?_, ?_, ?_, e108⟩ (fun a k p => ?_) hC10 ?_ (fun _ => ⟨e109, e1010⟩) (fun k => ?_)
          · rw [hz]; unfold zsmc; rw [zbd_ok, hz2, zbd_ok, hF]
          · rw [u10 _ _ (by unfold zPso; omega), q9 5 (by decide) (by decide)]; exact b14.1
          · rw [u10 _ _ (by unfold zPso; omega), q9 6 (by decide) (by decide)]; exact b14.2.1
          · rw [u10 _ _ (by unfold zPso; omega), q9 7 (by decide) (by decide)]; exact b14.2.2.1
          · rw [u10 _ _ (by unfold zPso; omega), f9 _ _ (by omega)]
          · have w : ∀ k, 1 ≤ k → k ≤ 8 → M10 l k = M9 l k := fun k k1 k8 => u10 _ _ (by unfold zPso; omega)
            rw [w 1 (by decide) (by decide), w 2 (by decide) (by decide), w 3 (by decide) (by decide), w 4 (by decide) (by decide), w 5 (by decide) (by decide), w 6 (by decide) (by decide), w 7 (by decide) (by decide), w 8 (by decide) (by decide)]
            exact l9
          · rw [u10 _ _ (by unfold zPso; omega), f9 _ _ (by omega)]
        · rw [hz]; unfold zsmc; rw [zbd_ok, hz2, zbd_no]
    -- no sum behind
    have plain : ∀ (X : zRs Nat) (M9 : zM) (fl : Int → Int), so < 2 → fl 0 < 2 → zCs B n X M9 → (∀ x, X = .inl x → zcdf T (T.1 8 0).toNat B n so (zlts B n (zto B n e)) e1 = .inl x) → (∀ e', X = .inr e' → zcdf T (T.1 8 0).toNat B n so (zlts B n (zto B n e)) e1 = .inr (e', fl, []) ∧ (M9 l 1 = fl 0 ∧ M9 l 2 = fl 1 ∧ M9 l 3 = fl 2 ∧ M9 l 4 = fl 3 ∧ M9 l 5 = fl 4 ∧ M9 l 6 = fl 5 ∧ M9 l 7 = fl 6 ∧ M9 l 8 = fl 7)) → zSm (zPrt t) M14 M9 → (∀ a k, a = t ∧ 2 ≤ k ∧ k ≤ 7 ∨ a = t + 2 ∨ a = t + 3 ∨ t + 7 ≤ a ∧ a < l ∨ a = l + 1 → M9 a k = M14 a k) → (∀ k, 5 ≤ k → k ≤ 8 → M9 72 k = M14 72 k) → zX G (y_Reader_statement, h + 36 + 1, sl) (0, 0, 0, 0) 235 [(0, (2, 72)), (2, (0, so)), (3, (2, l))] [] M9 Q := fun X M9 fl h2 hf0 hX hzn hzo h9 f9 q9 => by
      refine B_Reader_statement_235 hsl ?_
      cases X with
      | inl x => exact ⟨fun _ => bad x.1 x.2 M9 (hzn x rfl) h9 hX.1, fun y => absurd (by rw [hX.1.1]; exact hX.2) y⟩
      | inr x =>
        obtain ⟨hz, l9⟩ := hzo x rfl
        refine ⟨fun y => absurd hX.2.1.2.2 y, fun _ => ⟨fun _ => ?_, fun y => absurd h2 y⟩⟩
        refine fin fl [] x M9 hz hX.2 h9 ⟨?_, ?_, ?_, ?_⟩ (fun a k p => f9 a k (by omega)) ?_ l9 (fun y => absurd y (by omega)) (fun k => f9 _ _ (by omega))
        · rw [q9 5 (by decide) (by decide)]; exact b14.1
        · rw [q9 6 (by decide) (by decide)]; exact b14.2.1
        · rw [q9 7 (by decide) (by decide)]; exact b14.2.2.1
        · rw [q9 8 (by decide) (by decide)]; exact b14.2.2.2
        · rw [List.append_nil]
          exact ⟨by rw [f9 _ _ (by omega)]; exact hC14.1, zSeg_eq (fun j => f9 _ _ (by omega)) hC14.2⟩
    have rest : ∀ {M9 : zM}, (∀ a k, ¬ (a = 72 ∧ (k = 3 ∨ k = 4 ∨ 9 ≤ k ∧ k ≤ 11) ∨ a = l ∧ 2 ≤ k ∧ k ≤ 8) → M9 a k = M14 a k) → zSm (zPrt t) M14 M9 ∧ (∀ a k, a = t ∧ 2 ≤ k ∧ k ≤ 7 ∨ a = t + 2 ∨ a = t + 3 ∨ t + 7 ≤ a ∧ a < l ∨ a = l + 1 → M9 a k = M14 a k) ∧ (∀ k, 5 ≤ k → k ≤ 8 → M9 72 k = M14 72 k) := fun hh => ⟨fun a k p => hh a k (by unfold zPrt at p; omega), fun a k p => hh a k (by omega), fun k k1 k2 => hh _ _ (by omega)⟩
    refine ⟨fun c0 => ?_, fun c0 => ?_, fun c0 => ?_, fun c0 => ?_⟩
    · -- a zig
      have ez : ∀ lt, zcdf T (T.1 8 0).toNat B n so lt e1 = zbd (zgY5 B n e1) (fun y => .inr (y.1, zfld 0 (zvl (zgY1 B n e1)) (zvl (zgY2 B n e1)) (zvl (zgY4 B n e1)) y.2 (zvl (zgY3 B n e1)) 0 0 lt, [])) := fun lt => if_pos c0
      refine c_zig (h := h + 29) hsl hn o1.2.1 g14 hl (by omega) (fun M9 h9 x9 f9 => ?_)
      have hh := rest (M9 := M9) (fun a k p => h9 a k (by unfold zPcl; omega))
      cases c5 : zgY5 B n e1 with
      | inl x =>
        rw [c5] at x9
        exact plain (.inl x) M9 (fun _ => 0) (by omega) (by omega) x9 (fun y hy => by rw [ez, c5, zbd_no]; injection hy with hy; rw [hy]) (fun e' hy => by nomatch hy) hh.1 hh.2.1 hh.2.2
      | inr y =>
        rw [c5] at x9
        have hv := f9 y.1 y.2 c5
        refine plain (.inr y.1) M9 (zfld 0 (zvl (zgY1 B n e1)) (zvl (zgY2 B n e1)) (zvl (zgY4 B n e1)) y.2 (zvl (zgY3 B n e1)) 0 0 (zlts B n (zto B n e))) (by omega) (by show (0 : Int) < 2; omega) x9 (fun x hx => by nomatch hx) (fun e' hy => ?_) hh.1 hh.2.1 hh.2.2
        injection hy with hy
        subst hy
        refine ⟨by rw [ez, c5, zbd_ok], ?_⟩
        show M9 l 1 = 0 ∧ M9 l 2 = zvl (zgY1 B n e1) ∧ M9 l 3 = zvl (zgY2 B n e1) ∧ M9 l 4 = zvl (zgY4 B n e1) ∧ M9 l 5 = y.2 ∧ M9 l 6 = zvl (zgY3 B n e1) ∧ M9 l 7 = 0 ∧ M9 l 8 = 0
        refine ⟨by rw [h9 _ _ (by unfold zPcl; omega), l141, c0], hv.1, hv.2.1, hv.2.2.2.1, hv.2.2.2.2, hv.2.2.1, ?_, ?_⟩
        · rw [h9 _ _ (by unfold zPcl; omega)]; exact l14 7 (by decide) (by decide)
        · rw [h9 _ _ (by unfold zPcl; omega)]; exact l14 8 (by decide) (by decide)
    · -- an arc
      have ez : ∀ lt, zcdf T (T.1 8 0).toNat B n so lt e1 = zbd (zaY5 B n e1) (fun y => .inr (y.1, zfld 1 0 (zvl (zaY1 B n e1) - 1) (zvl (zaY2 B n e1)) 0 (zvl (zaY4 B n e1)) y.2 (zvl (zaY3 B n e1)) lt, [])) := fun lt => (if_neg (by omega)).trans (if_pos c0)
      refine c_arc (h := h + 29) hsl hn o1.2.1 g14 hl (by omega) (fun M9 h9 x9 hv => ?_)
      have hh := rest (M9 := M9) (fun a k p => h9 a k (by unfold zPca; omega))
      cases c5 : zaY5 B n e1 with
      | inl x =>
        rw [c5] at x9
        exact plain (.inl x) M9 (fun _ => 0) (by omega) (by omega) x9 (fun y hy => by rw [ez, c5, zbd_no]; injection hy with hy; rw [hy]) (fun e' hy => by nomatch hy) hh.1 hh.2.1 hh.2.2
      | inr y =>
        rw [c5] at x9 hv
        refine plain (.inr y.1) M9 (zfld 1 0 (zvl (zaY1 B n e1) - 1) (zvl (zaY2 B n e1)) 0 (zvl (zaY4 B n e1)) y.2 (zvl (zaY3 B n e1)) (zlts B n (zto B n e))) (by omega) (by show (1 : Int) < 2; omega) x9 (fun x hx => by nomatch hx) (fun e' hy => ?_) hh.1 hh.2.1 hh.2.2
        injection hy with hy
        subst hy
        refine ⟨by rw [ez, c5, zbd_ok], ?_⟩
        show M9 l 1 = 1 ∧ M9 l 2 = 0 ∧ M9 l 3 = zvl (zaY1 B n e1) - 1 ∧ M9 l 4 = zvl (zaY2 B n e1) ∧ M9 l 5 = 0 ∧ M9 l 6 = zvl (zaY4 B n e1) ∧ M9 l 7 = y.2 ∧ M9 l 8 = zvl (zaY3 B n e1)
        refine ⟨by rw [h9 _ _ (by unfold zPca; omega), l141, c0], ?_, hv.1, hv.2.1, ?_, hv.2.2.2.1, hv.2.2.2.2, hv.2.2.1⟩
        · rw [h9 _ _ (by unfold zPca; omega)]; exact l14 2 (by decide) (by decide)
        · rw [h9 _ _ (by unfold zPca; omega)]; exact l14 5 (by decide) (by decide)
    · -- a ring
      have ez : ∀ lt, zcdf T (T.1 8 0).toNat B n so lt e1 = zbd (zsmc T (T.1 8 0).toNat B n (zrY3 B n e1)) (fun r => .inr (r.1, zfld 2 0 (zvl (zrY1 B n e1) - 1) (zvl (zrY2 B n e1)) 0 0 0 0 lt, r.2)) := fun lt => (if_neg (by omega)).trans ((if_neg (by omega)).trans (if_pos c0))
      refine c_ring (h := h + 29) hsl hn o1.2.1 g14 hl (by omega) (fun M9 h9 x9 hv => ?_)
      have hh := rest (M9 := M9) (fun a k p => h9 a k (by unfold zPcr; omega))
      refine sumS (zrY3 B n e1) M9 _ (zfld 2 0 (zvl (zrY1 B n e1) - 1) (zvl (zrY2 B n e1)) 0 0 0 0 (zlts B n (zto B n e))) (by omega) x9 (ez _) (fun r => rfl) (fun x hx => ?_) hh.1 hh.2.1 hh.2.2 ?_
      · obtain ⟨e3, c3, w3, ee⟩ := ztkw_up hx
        obtain ⟨e2, c2⟩ := zbhs_up c3
        have k1 := zbhs_le o1.2.1 c2
        have k2 := zbhs_le2 k1.2 c2 c3
        have k3 := zwrd_e k2.2 w3
        have := o1.1
        omega
      · show M9 l 1 = 2 ∧ M9 l 2 = 0 ∧ M9 l 3 = zvl (zrY1 B n e1) - 1 ∧ M9 l 4 = zvl (zrY2 B n e1) ∧ M9 l 5 = 0 ∧ M9 l 6 = 0 ∧ M9 l 7 = 0 ∧ M9 l 8 = 0
        have w : ∀ k, k = 2 ∨ 5 ≤ k ∧ k ≤ 8 → M9 l k = 0 := fun k hk => by rw [h9 _ _ (by unfold zPcr; omega)]; exact l14 k (by omega) (by omega)
        exact ⟨by rw [h9 _ _ (by unfold zPcr; omega), l141, c0], w 2 (by decide), hv.1, hv.2, w 5 (by decide), w 6 (by decide), w 7 (by decide), w 8 (by decide)⟩
    · -- a sum
      have ez : ∀ lt, zcdf T (T.1 8 0).toNat B n so lt e1 = zbd (zsmc T (T.1 8 0).toNat B n (ztkw B n (.inr e1) zo_is)) (fun r => .inr (r.1, zfld 3 0 0 0 0 0 0 0 lt, r.2)) := fun lt => (if_neg (by omega)).trans ((if_neg (by omega)).trans (if_neg (by omega)))
      have so3 : so = 3 := by omega
      have go : ∀ (M9 : zM), zSm zPrs M14 M9 → zCs B n (ztkw B n (.inr e1) zo_is) M9 → zX G (y_Reader_statement, h + 36 + 1, sl) (0, 0, 0, 0) 235 [(0, (2, 72)), (2, (0, so)), (3, (2, l))] [] M9 Q := fun M9 h9 x9 => by
        have hh := rest (M9 := M9) (fun a k p => h9 a k (by unfold zPrs; omega))
        refine sumS (ztkw B n (.inr e1) zo_is) M9 _ (zfld 3 0 0 0 0 0 0 0 (zlts B n (zto B n e))) (by omega) x9 (ez _) (fun r => rfl) (fun x hx => ?_) hh.1 hh.2.1 hh.2.2 ?_
        · obtain ⟨e3, c3, w3, ee⟩ := ztkw_up hx
          injection c3 with c3
          subst c3
          have k3 := zwrd_e o1.2.1 w3
          have := o1.1
          omega
        · show M9 l 1 = 3 ∧ M9 l 2 = 0 ∧ M9 l 3 = 0 ∧ M9 l 4 = 0 ∧ M9 l 5 = 0 ∧ M9 l 6 = 0 ∧ M9 l 7 = 0 ∧ M9 l 8 = 0
          have w : ∀ k, 2 ≤ k ∧ k ≤ 8 → M9 l k = 0 := fun k hk => by rw [h9 _ _ (by unfold zPrs; omega)]; exact l14 k (by omega) (by omega)
          exact ⟨by rw [h9 _ _ (by unfold zPrs; omega), l141, so3], w 2 (by decide), w 3 (by decide), w 4 (by decide), w 5 (by decide), w 6 (by decide), w 7 (by decide), w 8 (by decide)⟩
      have hz : ztkw B n (.inr e1) zo_is = if zwrd B n e1 zo_is = true then .inr (zto B n e1) else .inl (1, (zfr B n e1 : Nat)) := rfl
      rw [hz] at go
      refine c_takeW (h := h + 31) hsl hn o1.2.1 g14 zr_is (fun c5 M9 h9 g9 => go M9 h9 ?_) (fun c5 M9 h9 x9 => go M9 h9 ?_)
      · rw [if_pos c5]; exact ⟨(zto_b o1.2.1).2.1, g9⟩
      · rw [if_neg c5]; exact ⟨x9, show (1 : Int) ≠ 0 by decide⟩
  · rw [if_pos (by omega)] at qn
    rw [hf10]
    exact c_refuse0 hsl g8.1.2.2 (fun M6 h6 x6 => qn _ _ rfl M6 ((zPrs_rt h8).trans (zPrs_rt h6)) x6)
