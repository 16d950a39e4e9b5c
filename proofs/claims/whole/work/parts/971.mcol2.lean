/-! A COLUMN, the Model. -/
theorem znam_nz {T : zTb} {m : Nat} {B : Int → Int} {n e : Nat} {f p : Int} (h : znam T m B n e = .inl (f, p)) : f ≠ 0 := by
  unfold znam at h
  by_cases c : zkd B n e = 1 ∧ ¬ zown B n e = true
  · rw [if_pos c] at h
    by_cases c6 : 6 < zto B n e - zfr B n e
    · rw [if_pos c6] at h; exact zinl_nz h (by decide)
    · rw [if_neg c6] at h
      by_cases cc : zcnm T m B n e = -1
      · rw [if_pos cc] at h; nomatch h
      · rw [if_neg cc] at h; exact zinl_nz h (by decide)
  · rw [if_neg c] at h; exact zinl_nz h (by decide)
theorem m_columnTold {G : zG} {h sl : Nat} (hsl : 2 ≤ sl) {T : zTb} {so bg : Int} {s : Nat} {B : Int → Int} {n e : Nat} {M : zM} {Q : Int → zM → Prop} (hn : n ≤ 1600) (hT : zTok T) (h8 : T.1 8 0 < 8) (hso : 0 ≤ so ∧ so ≤ 3) (he : e ≤ n) (hs : s ≤ e) (hr : zMt T s B n e M)
    (qo : ∀ r, zbd (znam T (T.1 8 0).toNat B n e) (fun e1 => zcdf T (T.1 8 0).toNat B n so (zlts B n e) e1) = .inr r → ∀ M', zSm zPtm M M' → zMt (zset (zadd T (T.1 8 0) r.2.1 r.2.2) 8 0 (T.1 8 0 + 1)) (s + r.2.2.length) B n r.1 M' → Q 0 M')
    (qn : ∀ f p, zbd (znam T (T.1 8 0).toNat B n e) (fun e1 => zcdf T (T.1 8 0).toNat B n so (zlts B n e) e1) = .inl (f, p) → f ≠ 0 → ∀ M', zSm zPtm M M' → zMF f p M' → Q 0 M') : zCt G (h + 11) sl 0 0 y_Md_columnTold [(2, 125), (0, so), (0, bg)] M Q := by
  have h0 := hT.1
  obtain ⟨m, em⟩ : ∃ m : Nat, T.1 8 0 = (m : Int) := ⟨(T.1 8 0).toNat, by omega⟩
  have em2 : (T.1 8 0).toNat = m := by omega
  have hm : m < 8 := by omega
  have hr0 := hr
  obtain ⟨hx, hN, ⟨c1, c2, c3⟩, cc, cm⟩ := hr
  rw [em2] at qo qn hN
  have e0 : M 158 0 = (m : Int) := hN.1
  have bad : ∀ (f p r : Int) (M9 : zM) u, zbd (znam T m B n e) (fun e1 => zcdf T m B n so (zlts B n e) e1) = .inl (f, p) → f ≠ 0 → zSm zPtm M M9 → zMF f p M9 → zX G (y_Md_columnTold, h + 10 + 1, sl) u 117 [(0, (2, 125)), (3, (1, r))] [] M9 Q := fun f p r M9 u hz f0 h9 x9 => B_Md_columnTold_117 hsl ⟨fun y => absurd y (by rw [x9.1]; exact f0), fun _ => qn f p hz f0 M9 h9 x9⟩
  refine E_Md_columnTold hsl ⟨fun y => absurd hx.1.2.2 y, fun _ => ⟨fun _ => ⟨fun _ => ?_, fun y => absurd hx.1.2.2 y⟩, fun y => absurd (Classical.byContradiction y) (by rw [e0]; omega)⟩⟩
  refine m_clearL (m := m) hsl hm e0 (fun M1 u h1 z1 => ?_) 7 0 M _ (by omega) (zSm.refl _ M) (fun k k0 k1 => absurd k1 (by omega))
  have t1 : zSm zPtm M M1 := zPxf_tm hm h1
  have x1 : zMd B n e M1 := hx.fr (fun a k p => h1 a k (by unfold zPxf; omega))
  have n1 : zNn T m M1 := ⟨by rw [h1 _ _ (by unfold zPxf; omega)]; exact e0, fun c a b => by rw [h1 _ _ (by unfold zPxf; omega)]; exact hN.2 c a b⟩
  refine B_Md_columnTold_34 hsl ⟨fun _ => ?_, fun y => absurd (by omega) y⟩
  refine m_newName (h := h + 6) hsl hn (by omega) he x1 n1 (fun e1 hz1 M2 h2 x2 => ?_) (fun f p hz1 r M2 h2 x2 => ?_)
  rotate_left
  · -- a fault in the name
    have f0 := znam_nz hz1
    have e02 : M2 158 0 = (m : Int) := by rw [h2 _ _ (by unfold zPmt; omega)]; exact n1.1
    have hz : zbd (znam T m B n e) (fun e1 => zcdf T m B n so (zlts B n e) e1) = .inl (f, p) := by rw [hz1, zbd_no]
    have nf : ∀ {M3 : zM}, zSm (zPxf m) M2 M3 → zMF f p M3 := fun hh => ⟨by rw [hh _ _ (by unfold zPxf; omega)]; exact x2.1, by rw [hh _ _ (by unfold zPxf; omega)]; exact x2.2⟩
    have tf : ∀ {M3 : zM}, zSm (zPxf m) M2 M3 → zSm zPtm M M3 := fun hh => (t1.trans (zPmt_tm h2)).trans (zPxf_tm hm hh)
    refine m_layF (m := m) hsl (by omega) (by decide) e02 (zSm.refl _ M2) (fun M3 h3 => ?_)
    have hb : ¬ M3 125 5 = 0 := by rw [(nf h3).1]; exact f0
    have e03 : M3 158 0 = (m : Int) := by rw [h3 _ _ (by unfold zPxf; omega)]; exact e02
    have go : ∀ {M4 : zM} u, zSm (zPxf m) M3 M4 → zX G (y_Md_columnTold, h + 10 + 1, sl) u 117 [(0, (2, 125)), (3, (1, r))] [] M4 Q := fun u hh => bad f p r _ u hz f0 (tf (h3.trans hh)) (nf (h3.trans hh))
    refine ⟨fun _ => ⟨fun _ => ⟨fun _ => ?_, fun _ => ?_⟩, fun _ => ?_⟩, fun _ => ?_⟩
    · exact m_asksF (h := h + 9) hsl hb (m_readsF (h := h + 9) hsl hb (go _ (zSm.refl _ M3)))
    · exact m_ringF (h := h) hsl (by omega) e03 hb (fun M4 h4 => go _ h4)
    · exact m_arcF (h := h + 5) hsl (by omega) e03 hb (fun M4 h4 => go _ h4)
    · exact m_zigF (h := h + 5) hsl (by omega) e03 hb (fun M4 h4 => go _ h4)
  have o1 := znam_ok he hz1
  rw [hz1, zbd_ok] at qo qn bad
  have e02 : M2 158 0 = (m : Int) := by rw [h2 _ _ (by unfold zPmt; omega)]; exact n1.1
  refine m_laid (m := m) hsl (by omega) (by decide) e02 ?_
  have w4 : ∀ a k, ¬ (a = 160 ∧ k = 7 * (m : Int) + 0) → (zwr M2 160 (7 * (m : Int) + 0) so) a k = M2 a k := fun a k p => by rw [zwr_i, if_neg p]
  have w40 : (zwr M2 160 (7 * (m : Int) + 0) so) 160 (7 * (m : Int) + 0) = so := zwr_s _ _ _ _
  generalize zwr M2 160 (7 * (m : Int) + 0) so = M4 at w4 w40
  have t4 : zSm zPtm M M4 := (t1.trans (zPmt_tm h2)).trans (fun a k p => w4 a k (by unfold zPtm at p; omega))
  have x4 : zMd B n e1 M4 := x2.fr (fun a k p => w4 a k (by omega))
  have z4 : ∀ k, 1 ≤ k → k < 7 → M4 160 (7 * (m : Int) + k) = 0 := fun k k1 k7 => by rw [w4 _ _ (by omega), h2 _ _ (by unfold zPmt; omega)]; exact z1 k (by omega) k7
  have fr4 : ∀ a k, ¬ zPmt a k → ¬ (a = 160 ∧ 7 * (m : Int) ≤ k ∧ k < 7 * (m : Int) + 7) → M4 a k = M a k := fun a k p1 p2 => by rw [w4 a k (by omega), h2 a k p1, h1 a k (by unfold zPxf; omega)]
  have n4 : zNn T m M4 := ⟨by rw [fr4 _ _ (by unfold zPmt; omega) (by omega)]; exact hN.1, fun c a b => by rw [fr4 _ _ (by unfold zPmt; omega) (by omega)]; exact hN.2 c a b⟩
  have h48 : M4 125 48 = (s : Int) := by rw [fr4 _ _ (by unfold zPmt; omega) (by omega)]; exact c3
  have hse : s ≤ e1 := by have := o1.1; omega
  have fin : ∀ (f : Int → Int) (D : List Int) (e' : Nat) (M9 : zM) u, zcdf T m B n so (zlts B n e) e1 = .inr (e', f, D) → zMd B n e' M9 → zSm (zPmr m s) M4 M9 → M9 125 48 = ((s + D.length : Nat) : Int) → (M9 160 (7 * (m : Int) + 0) = f 0 ∧ M9 160 (7 * (m : Int) + 1) = (if f 0 = 1 then f 7 else f 1) ∧ M9 160 (7 * (m : Int) + 2) = (if f 0 = 1 ∨ f 0 = 2 then f 2 + 1 else f 2) ∧ M9 160 (7 * (m : Int) + 3) = f 5 ∧ M9 160 (7 * (m : Int) + 4) = f 3 ∧ M9 160 (7 * (m : Int) + 5) = f 4 ∧ M9 160 (7 * (m : Int) + 6) = f 6) → (2 ≤ f 0 → M9 161 (m : Int) = (s : Int) ∧ M9 162 (m : Int) = ((s + D.length : Nat) : Int) ∧ zSg M9 163 s D) → zX G (y_Md_columnTold, h + 10 + 1, sl) u 117 [(0, (2, 125)), (3, (1, zn27 (zltr B n e) (zto B n e - zfr B n e)))] [] M9 Q := fun f D e' M9 u hz x9 h9 g48 hf hcd => by
    have ok := zcdf_ok (by omega) hso o1.2.1 hz
    have up : ∀ a k, ¬ zPmr m s a k → M9 a k = M4 a k := fun a k p => h9 a k p
    have e9 : M9 158 0 = (m : Int) := by rw [up _ _ (by unfold zPmr zPkc zPmq; omega)]; exact n4.1
    refine B_Md_columnTold_117 hsl ⟨fun _ => ?_, fun y => absurd x9.1.2.2 y⟩
    rw [e9]
    refine ⟨by omega, ?_⟩
    rw [show (zwr M9 159 (m : Int) (zn27 (zltr B n e) (zto B n e - zfr B n e))) 158 0 = (m : Int) from by rw [zwr_o _ (by decide)]; exact e9]
    refine ⟨by unfold zI; omega, ?_⟩
    have t9 : zSm zPtm M (zwr (zwr M9 159 (m : Int) (zn27 (zltr B n e) (zto B n e - zfr B n e))) 158 0 ((m : Int) + 1)) := ((t4.trans (zPmr_tm hm h9)).wr (by unfold zPtm; omega)).wr (by unfold zPtm; omega)
    rw [← em] at hf hcd t9 ⊢
    refine qo (e', f, D) hz _ t9 (zMt_new hT h8 hr0 x9 (fun a k p => ?_) g48 hf hcd (fun T2 hT2 => zNm1_new o1.2.2.2.1 o1.2.2.2.2.1 (fun k k1 k2 => by rw [hT2]; exact ok.2.1 k k1)))
    rw [up _ _ (by unfold zPmr zPkc zPmq; omega), fr4 _ _ (by unfold zPmt; omega) (by omega)]
  have badw : ∀ (f p : Int) (M9 : zM) u, zcdf T m B n so (zlts B n e) e1 = .inl (f, p) → f ≠ 0 → zSm (zPmr m s) M4 M9 → zMF f p M9 → zX G (y_Md_columnTold, h + 10 + 1, sl) u 117 [(0, (2, 125)), (3, (1, zn27 (zltr B n e) (zto B n e - zfr B n e)))] [] M9 Q := fun f p M9 u hz f0 h9 x9 => bad f p _ M9 u hz f0 (t4.trans (zPmr_tm hm h9)) x9
  refine ⟨fun n0 => ⟨fun n1 => ⟨fun n2 => ?_, fun n2 => ?_⟩, fun n1 => ?_⟩, fun n0 => ?_⟩
  · -- a sum
    have so3 : so = 3 := by omega
    have ez : ∀ lt, zcdf T m B n so lt e1 = zbd (zsmc T m B n (ztkw B n (.inr e1) zo_is)) (fun r => .inr (r.1, zfld 3 0 0 0 0 0 0 0 lt, r.2)) := fun lt => (if_neg (by omega)).trans ((if_neg (by omega)).trans (if_neg (by omega)))
    refine m_asksS (h := h + 7) hsl hn (X := .inr e1) ⟨o1.2.1, x4⟩ zo_141 (by decide) (fun M5 h5 x5 => ?_)
    have n5 : zNn T m M5 := ⟨by rw [h5 _ _ (by unfold zPmt; omega)]; exact n4.1, fun c a b => by rw [h5 _ _ (by unfold zPmt; omega)]; exact n4.2 c a b⟩
    have mr5 : zSm (zPmr m s) M4 M5 := h5.mono (fun a k p => by unfold zPmt at p; unfold zPmr zPkc zPmq; omega)
    have mrk : ∀ {M6 : zM}, zSm (zPkc (m : Int) s) M5 M6 → zSm (zPmr m s) M4 M6 := fun hh => mr5.trans (hh.mono (fun a k p => Or.inl p))
    rw [n5.1]
    refine m_readsS (h := h + 1) (s := s) hsl hn hm x5 n5 (fun x c => ?_) (by rw [h5 _ _ (by unfold zPmt; omega)]; exact h48) (fun e' D c M6 h6 g6 a1 a2 a3 a4 => ?_) (fun f p c f0 M6 h6 x6 => badw f p M6 _ (by rw [ez, c, zbd_no]) f0 (mrk h6) x6)
    · obtain ⟨e3, d3, w3, ee⟩ := ztkw_up c
      injection d3 with d3
      subst d3
      have := zwrd_e o1.2.1 w3
      omega
    · have u6 : ∀ j, M6 160 j = M4 160 j := fun j => by rw [h6 _ _ (by unfold zPkc zPmq; omega), h5 _ _ (by unfold zPmt; omega)]
      refine fin (zfld 3 0 0 0 0 0 0 0 (zlts B n e)) D e' M6 _ (by rw [ez, c, zbd_ok]) g6 (mrk h6) (by rw [a1]; omega) ⟨?_, ?_, ?_, ?_, ?_, ?_, ?_⟩ (fun _ => ⟨a2, by rw [a3]; omega, a4⟩)
      · rw [u6, w40, so3]; rfl
      · exact ((u6 _).trans (z4 1 (by decide) (by decide))).trans (if_neg (show ¬ (3 : Int) = 1 by decide)).symm
      · exact ((u6 _).trans (z4 2 (by decide) (by decide))).trans (if_neg (show ¬ ((3 : Int) = 1 ∨ (3 : Int) = 2) by decide)).symm
      · exact (u6 _).trans (z4 3 (by decide) (by decide))
      · exact (u6 _).trans (z4 4 (by decide) (by decide))
      · exact (u6 _).trans (z4 5 (by decide) (by decide))
      · exact (u6 _).trans (z4 6 (by decide) (by decide))
  · -- a ring
    have so2 : so = 2 := Classical.byContradiction n2
    have ez : ∀ lt, zcdf T m B n so lt e1 = zbd (zsmc T m B n (zrY3 B n e1)) (fun r => .inr (r.1, zfld 2 0 (zvl (zrY1 B n e1) - 1) (zvl (zrY2 B n e1)) 0 0 0 0 lt, r.2)) := fun lt => (if_neg (by omega)).trans ((if_neg (by omega)).trans (if_pos so2))
    refine m_ringTold (h := h) (T := T) (s := s) hsl hn hm o1.2.1 x4 n4 hse h48 (fun e' D c M6 h6 g6 a1 a2 a3 a4 a5 a6 => ?_) (fun f p c f0 M6 h6 x6 => badw f p M6 _ (by rw [ez, c, zbd_no]) f0 h6 x6)
    refine fin (zfld 2 0 (zvl (zrY1 B n e1) - 1) (zvl (zrY2 B n e1)) 0 0 0 0 (zlts B n e)) D e' M6 _ (by rw [ez, c, zbd_ok]) g6 h6 (by rw [a1]; omega) ⟨?_, ?_, ?_, ?_, ?_, ?_, ?_⟩ (fun _ => ⟨a2, by rw [a3]; omega, a4⟩)
    · rw [a6 0 (by decide), w40, so2]; rfl
    · exact ((a6 1 (by decide)).trans (z4 1 (by decide) (by decide))).trans (if_neg (show ¬ (2 : Int) = 1 by decide)).symm
    · refine Eq.trans ?_ (if_pos (show (2 : Int) = 1 ∨ (2 : Int) = 2 by decide)).symm
      rw [a5.1]
      show zvl (zrY1 B n e1) = zvl (zrY1 B n e1) - 1 + 1
      omega
    · exact (a6 3 (by decide)).trans (z4 3 (by decide) (by decide))
    · exact a5.2
    · exact (a6 5 (by decide)).trans (z4 5 (by decide) (by decide))
    · exact (a6 6 (by decide)).trans (z4 6 (by decide) (by decide))
  · -- an arc
    have so1 : so = 1 := Classical.byContradiction n1
    have ez : ∀ lt, zcdf T m B n so lt e1 = zbd (zaY5 B n e1) (fun y => .inr (y.1, zfld 1 0 (zvl (zaY1 B n e1) - 1) (zvl (zaY2 B n e1)) 0 (zvl (zaY4 B n e1)) y.2 (zvl (zaY3 B n e1)) lt, [])) := fun lt => (if_neg (by omega)).trans (if_pos so1)
    refine m_arcTold (h := h + 5) hsl hn (by omega) o1.2.1 x4 n4.1 (fun M9 h9 x9 f9 k9 => ?_)
    cases c5 : zaY5 B n e1 with
    | inl x =>
      rw [c5] at x9
      exact badw x.1 x.2 M9 _ (by rw [ez, c5, zbd_no]) x9.2 (zPmz_mr h9) x9.1
    | inr y =>
      rw [c5] at x9 f9
      have hv := f9 y.1 rfl
      refine fin (zfld 1 0 (zvl (zaY1 B n e1) - 1) (zvl (zaY2 B n e1)) 0 (zvl (zaY4 B n e1)) y.2 (zvl (zaY3 B n e1)) (zlts B n e)) [] y.1 M9 _ (by rw [ez, c5, zbd_ok]) x9.2 (zPmz_mr h9) (by rw [h9 _ _ (by unfold zPmz; omega), h48]; rfl) ⟨?_, ?_, ?_, ?_, ?_, ?_, ?_⟩ (fun q => absurd q (show ¬ (2 : Int) ≤ 1 by decide))
      · rw [k9 0 (by decide), w40, so1]; rfl
      · exact hv.1.trans (if_pos (show (1 : Int) = 1 by decide)).symm
      · refine Eq.trans ?_ (if_pos (show (1 : Int) = 1 ∨ (1 : Int) = 2 by decide)).symm
        rw [hv.2.1]
        show zvl (zaY1 B n e1) = zvl (zaY1 B n e1) - 1 + 1
        omega
      · exact hv.2.2.1
      · exact hv.2.2.2.1
      · exact (k9 5 (by decide)).trans (z4 5 (by decide) (by decide))
      · exact hv.2.2.2.2
  · -- a zig
    have so0 : so = 0 := Classical.byContradiction n0
    have ez : ∀ lt, zcdf T m B n so lt e1 = zbd (zgY5 B n e1) (fun y => .inr (y.1, zfld 0 (zvl (zgY1 B n e1)) (zvl (zgY2 B n e1)) (zvl (zgY4 B n e1)) y.2 (zvl (zgY3 B n e1)) 0 0 lt, [])) := fun lt => if_pos so0
    refine m_zigTold (h := h + 5) hsl hn (by omega) o1.2.1 x4 n4.1 (fun M9 h9 x9 f9 k9 => ?_)
    cases c5 : zgY5 B n e1 with
    | inl x =>
      rw [c5] at x9
      exact badw x.1 x.2 M9 _ (by rw [ez, c5, zbd_no]) x9.2 (zPmz_mr h9) x9.1
    | inr y =>
      rw [c5] at x9
      have hv := f9 y.1 y.2 c5
      refine fin (zfld 0 (zvl (zgY1 B n e1)) (zvl (zgY2 B n e1)) (zvl (zgY4 B n e1)) y.2 (zvl (zgY3 B n e1)) 0 0 (zlts B n e)) [] y.1 M9 _ (by rw [ez, c5, zbd_ok]) x9.2 (zPmz_mr h9) (by rw [h9 _ _ (by unfold zPmz; omega), h48]; rfl) ⟨?_, ?_, ?_, ?_, ?_, ?_, ?_⟩ (fun q => absurd q (show ¬ (2 : Int) ≤ 0 by decide))
      · rw [k9 0 (by decide), w40, so0]; rfl
      · exact hv.1.trans (if_neg (show ¬ (0 : Int) = 1 by decide)).symm
      · exact hv.2.1.trans (if_neg (show ¬ ((0 : Int) = 1 ∨ (0 : Int) = 2) by decide)).symm
      · exact hv.2.2.1
      · exact hv.2.2.2.1
      · exact hv.2.2.2.2
      · exact (k9 6 (by decide)).trans (z4 6 (by decide) (by decide))
