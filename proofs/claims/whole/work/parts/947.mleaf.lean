/-! PARSER, the Model's machine: a part without a part in it. -/
theorem m_qWordOf1 {G : zG} {h sl : Nat} (hsl : 2 ≤ sl) {B : Int → Int} {n e : Nat} {md lo hi : Int} {M : zM} {Q : Int → zM → Prop} (hn : n ≤ 1600) (he : e ≤ n) (hx : zMd B n e M) (h50 : M 125 50 = md) (hmd : md = 0 ∨ md = 1 ∨ md = 2) (q : ∀ r M', (((lo ≤ zwh B n e ∧ zwh B n e < hi) ∧ zalw md (zwh B n e)) ∧ r = zwh B n e ∨ ¬ ((lo ≤ zwh B n e ∧ zwh B n e < hi) ∧ zalw md (zwh B n e)) ∧ r = -1) → zSm zPwl M M' → zMe B n e M' → Q r M') : zCt G (h + 3) sl 0 0 y_Md_qWordOf [(2, 125), (0, lo), (0, hi)] M Q :=
  m_qWordOf hsl hn he hx h50 hmd (fun c M' h' g' => q _ M' (Or.inl ⟨c, rfl⟩) h' g') (fun c M' h' g' => q _ M' (Or.inr ⟨c, rfl⟩) h' g')
theorem m_qCodeF {G : zG} {h sl : Nat} (hsl : 2 ≤ sl) {v : Int} {M : zM} {Q : Int → zM → Prop} (hl : 0 ≤ M 125 90 ∧ M 125 90 < 1700) (q : ∀ M', zSm zPmq M M' → M' 125 5 = M 125 5 → M' 125 6 = M 125 6 → M' 125 90 = M 125 90 + 1 → Q 0 M') : zCt G h sl 0 0 y_Md_qCode [(2, 125), (0, v)] M Q := by
  refine E_Md_qCode hsl ?_
  rw [zwr_o (a := 125) _ (by decide)]
  exact ⟨hl, by unfold zI; omega, q _ (((zSm.refl _ M).wr (Or.inr (Or.inl rfl))).wr (Or.inl ⟨rfl, by decide⟩)) (by rw [zwr_k _ (by decide), zwr_o _ (by decide)]) (by rw [zwr_k _ (by decide), zwr_o _ (by decide)]) (zwr_s _ _ _ _)⟩
theorem m_leaf {G : zG} {h sl : Nat} (hsl : 2 ≤ sl) {u u' : Nat × Nat × Nat × Nat} {l1 : Int} {Q : Int → zM → Prop} {M0 M : zM} {md : Int} {T : zTb} {m : Nat} {B : Int → Int} {n bs e : Nat} {C os W : List Int} {op0 : Int} (hmd : md = 0 ∨ md = 1 ∨ md = 2) (hn : n ≤ 1600) (hm : m ≤ 8) (he : e ≤ n) (hl : C.length + os.length + W.length ≤ e) (hos : ∀ x ∈ os, 60 ≤ x) (hW : zstq bs W) (h0 : 0 ≤ op0 ∧ op0 ≤ 6) (hM : zSm zPmq M0 M) (hr : zQs md T m B n bs e C (os ++ W) (op0 + os.length) M)
    (qo : ∀ e' v, (if zkd B n e = 2 then zbd (znum B n e 0 9999) (fun r => (.inr (r.1, [1000 + r.2]) : zRs (Nat × List Int))) else if ztld md T m B n e = -1 then .inl (1, (zfr B n e : Nat)) else .inr (zto B n e, [40 + ztld md T m B n e])) = .inr (e', [v]) → zAF G h sl u l1 Q M0 md T m B n bs e' (C ++ [v] ++ os) W op0)
    (qn : ∀ f p, (if zkd B n e = 2 then zbd (znum B n e 0 9999) (fun r => (.inr (r.1, [1000 + r.2]) : zRs (Nat × List Int))) else if ztld md T m B n e = -1 then .inl (1, (zfr B n e : Nat)) else .inr (zto B n e, [40 + ztld md T m B n e])) = .inl (f, p) → zFL Q M0 f p) : zX G (y_Md_qPartTold, h + 4 + 1, sl) u' 186 [(0, (2, 125))] [] M (zQP G (h + 5) sl u l1 Q) := by
  have zv := zwh_v B n e
  have zv1 : -1 ≤ zwh B n e ∧ zwh B n e ≤ 7 := by
    rcases zv with a | a
    · omega
    · omega
  -- the code, and what waits for it
  have fin : ∀ (v : Int) (M1 : zM) (e' : Nat) u', e' ≤ n → zSm zPmq M0 M1 → zQs md T m B n bs e' C (os ++ W) (op0 + os.length) M1 → zAF G h sl u l1 Q M0 md T m B n bs e' (C ++ [v] ++ os) W op0 → zX G (y_Md_qPartTold, h + 4 + 1, sl) u' 271 [(0, (2, 125))] [(0, v), (2, 125)] M1 (zQP G (h + 5) sl u l1 Q) := fun v M1 e' u' he' h1 g1 q => by
    refine B_Md_qPartTold_271 hsl (m_qCode hsl g1 (by omega) (fun M2 h2 g2 => m_qEndsPart hsl hW h0 hos (by simp only [List.length_append, List.length_cons, List.length_nil]; omega) g2 (fun M3 h3 g3 => q.P hsl ((h1.trans h2).trans h3) g3)))
  -- a number, or nothing that fits
  have num : ∀ (M1 : zM) u' , zSm zPmq M0 M1 → zQs md T m B n bs e C (os ++ W) (op0 + os.length) M1 → (¬ zkd B n e = 2 → ztld md T m B n e = -1) → zX G (y_Md_qPartTold, h + 4 + 1, sl) u' 233 [(0, (2, 125)), (2, (0, -1))] [(0, -1)] M1 (zQP G (h + 5) sl u l1 Q) := fun M1 u' h1 g1 ht => by
    refine B_Md_qPartTold_233 hsl ⟨fun _ => ⟨fun _ => m_number hsl hn he g1.1 (fun e' v hz M2 h2 g2 => ?_) (fun f p hz r M2 r0 r9 h2 g2 => ?_), fun y => absurd rfl y⟩, fun y => absurd rfl y⟩
    · have hz2 := znum_ok hz
      have hb := zto_b (B := B) he
      have g3 := g1.mv h2 g2
      refine ⟨by unfold zI; omega, fin (1000 + v) M2 e' u' (by have := hz2.2.1; omega) (h1.trans (zPmt_q h2)) g3 (qo e' (1000 + v) ?_)⟩
      rw [if_pos hz2.1, hz]
      rfl
    · have e90 : M2 125 90 = (C.length : Int) := by rw [h2 _ _ (by unfold zPmt; omega)]; exact g1.2.1.1
      have f0 := znum_no hz
      refine ⟨by unfold zI; omega, B_Md_qPartTold_271 hsl (m_qCodeF hsl (by omega) (fun M3 h3 a5 a6 a9 => m_qEndsPartF hsl (by rw [a5, g2.1]; exact f0) ?_))⟩
      refine (qn f p ?_).P hsl f0 ((h1.trans (zPmt_q h2)).trans h3) ⟨by rw [a5]; exact g2.1, by rw [a6]; exact g2.2⟩ (by unfold zc9; rw [a9, e90]; omega)
      by_cases c : zkd B n e = 2
      · rw [if_pos c, hz]; rfl
      · rw [if_neg c, if_pos (ht c)]
        unfold znum at hz
        rw [if_pos c] at hz
        injection hz with hz
        rw [hz]
  have kd1 : ∀ k : Int, 0 ≤ k → k ≤ 7 → zwh B n e = k → zkd B n e = 1 := fun k a b c => (zwrd_k ((zwh_k a b).2 c)).1
  refine B_Md_qPartTold_186 hsl ⟨fun _ => m_qWordOf1 (h := h + 1) hsl hn he hr.1 hr.2.2.2.1.2.2 hmd (fun r M1 hc h1 g1 => ?_), fun y => absurd hr.1.1.2.2 y⟩
  have hr1 := hr.mv (zPwl_mt h1) g1.1
  have hM1 := hM.trans (zPwl_q h1)
  rcases hc with ⟨c, er⟩ | ⟨c, er⟩
  · -- a word told
    have k1 := kd1 _ c.1.1 (by omega) rfl
    have et : ztld md T m B n e = zwh B n e := by
      have ca := c.2
      unfold zalw at ca
      rcases hmd with a | a | a
      · rw [ztld_c (Or.inl a)]
        by_cases z0 : zwh B n e = 0
        · rw [if_pos z0, z0]
        · rw [if_neg z0, if_pos ⟨a, by omega⟩]; omega
      · rw [ztld_c (Or.inr a), if_pos (by omega)]; omega
      · rw [a, ztld_2, if_neg (by omega)]
    have hb := zto_b (B := B) he
    refine ⟨fun y => absurd y (by omega), fun _ => m_qAsksWord (k := r) hsl hn he hr1.1 (by omega) er.symm (fun M2 h2 g2 => ?_)⟩
    have hr2 := hr1.mv h2 g2
    have hM2 := hM1.trans (zPmt_q h2)
    refine B_Md_qPartTold_212 hsl ⟨fun _ => B_Md_qPartTold_233 hsl ⟨fun y => absurd y (by omega), fun _ => ⟨by unfold zI; omega, fin (40 + r) M2 (zto B n e) u' hb.2.1 hM2 hr2 (qo _ _ ?_)⟩⟩, fun y => absurd (by omega) y⟩
    rw [if_neg (by omega), if_neg (by omega), et, er]
  · refine ⟨fun _ => ?_, fun y => absurd er y⟩
    subst er
    refine B_Md_qPartTold_212 hsl ⟨fun y => absurd rfl y, fun _ => ?_⟩
    rw [hr1.2.2.2.1.2.2]
    unfold zalw at c
    refine ⟨fun g => num M1 u' hM1 hr1 (fun _ => ?_), fun g => ?_⟩
    · have a : md = 2 := by omega
      rw [a, ztld_2, if_pos (by omega)]
    · have a : md = 0 ∨ md = 1 := by omega
      have tc : ztld md T m B n e = if zcnm T m B n e = -1 then -1 else 8 + zcnm T m B n e := by
        rw [ztld_c a, if_neg (by omega), if_neg (by omega)]
      have hv := zcnm_v T m B n e
      refine m_columnHere hsl hn he hr1.1 (hr1.2.2.2.2 (by omega)) hm (fun c2 M2 h2 g2 => ?_) (fun c2 M2 h2 g2 => ?_)
      · exact num M2 u' (hM1.trans (zPmt_q h2)) (hr1.mv h2 g2.1) (fun _ => by rw [tc, if_pos c2])
      · have hv : 0 ≤ zcnm T m B n e ∧ zcnm T m B n e < m ∧ zkd B n e = 1 := by
          rcases hv with b | b
          · exact absurd b c2
          · exact b
        have hb := zto_b (B := B) he
        refine B_Md_qPartTold_233 hsl ⟨fun _ => ⟨fun y => absurd y c2, fun _ => ⟨by unfold zI; omega, fin (48 + zcnm T m B n e) M2 (zto B n e) u' hb.2.1 (hM1.trans (zPmt_q h2)) (hr1.mv h2 g2) (qo _ _ ?_)⟩⟩, fun y => absurd rfl y⟩
        rw [if_neg (by omega), tc, if_neg c2, if_neg (by omega), show 40 + (8 + zcnm T m B n e) = 48 + zcnm T m B n e from by omega]
