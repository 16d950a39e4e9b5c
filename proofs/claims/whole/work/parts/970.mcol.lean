/-! COLUMNS, the Model: behind a fault nothing but fields is laid. -/
def zPxf (m : Nat) : Int → Int → Prop := fun a k => a = 160 ∧ 7 * (m : Int) ≤ k ∧ k < 7 * (m : Int) + 7
theorem m_layF {G : zG} {h sl : Nat} (hsl : 2 ≤ sl) {k v : Int} {m : Nat} {M0 M : zM} {Q : Int → zM → Prop} (hm : m ≤ 8) (hk : 0 ≤ k ∧ k < 7) (h0 : M0 158 0 = (m : Int)) (hM : zSm (zPxf m) M0 M) (q : ∀ M', zSm (zPxf m) M0 M' → Q 0 M') : zCt G h sl 0 0 y_Md_laid [(2, 125), (0, k), (0, v)] M Q :=
  m_laid hsl hm hk (by rw [hM _ _ (by unfold zPxf; omega)]; exact h0) (q _ (hM.wr ⟨rfl, by omega⟩))
theorem m_zigF {G : zG} {h sl : Nat} (hsl : 2 ≤ sl) {m : Nat} {M : zM} {Q : Int → zM → Prop} (hm : m ≤ 8) (h0 : M 158 0 = (m : Int)) (hb : ¬ M 125 5 = 0) (q : ∀ M', zSm (zPxf m) M M' → Q 0 M') : zCt G (h + 5) sl 0 0 y_Md_zigTold [(2, 125)] M Q := by
  have nb : ∀ {M' : zM}, zSm (zPxf m) M M' → ¬ M' 125 5 = 0 := fun hh => by rw [hh _ _ (by unfold zPxf; omega)]; exact hb
  refine E_Md_zigTold hsl (m_toldF (h := h + 2) hsl hb ⟨by unfold zI; omega, m_toldF (h := h + 2) hsl hb ?_⟩)
  refine m_layF hsl hm (by decide) h0 (zSm.refl _ M) (fun M1 h1 => m_layF hsl hm (by decide) h0 h1 (fun M2 h2 => ⟨by unfold zI; omega, m_toldF (h := h + 2) hsl (nb h2) ?_⟩))
  refine m_layF hsl hm (by decide) h0 h2 (fun M3 h3 => m_toldF (h := h + 2) hsl (nb h3) ?_)
  refine m_layF hsl hm (by decide) h0 h3 (fun M4 h4 => m_takesF (h := h + 2) hsl (nb h4) ⟨fun y => absurd rfl y, fun _ => m_asksF (h := h + 3) hsl (nb h4) (B_Md_zigTold_93 hsl ⟨fun _ => m_layF hsl hm (by decide) h0 h4 (fun M5 h5 => q M5 h5), fun y => absurd rfl y⟩)⟩)
theorem m_arcF {G : zG} {h sl : Nat} (hsl : 2 ≤ sl) {m : Nat} {M : zM} {Q : Int → zM → Prop} (hm : m ≤ 8) (h0 : M 158 0 = (m : Int)) (hb : ¬ M 125 5 = 0) (q : ∀ M', zSm (zPxf m) M M' → Q 0 M') : zCt G (h + 5) sl 0 0 y_Md_arcTold [(2, 125)] M Q := by
  have nb : ∀ {M' : zM}, zSm (zPxf m) M M' → ¬ M' 125 5 = 0 := fun hh => by rw [hh _ _ (by unfold zPxf; omega)]; exact hb
  refine E_Md_arcTold hsl (m_toldF (h := h + 2) hsl hb ⟨by unfold zI; omega, m_toldF (h := h + 2) hsl hb ⟨by unfold zI; omega, m_toldF (h := h + 2) hsl hb ?_⟩⟩)
  refine m_layF hsl hm (by decide) h0 (zSm.refl _ M) (fun M1 h1 => m_layF hsl hm (by decide) h0 h1 (fun M2 h2 => m_toldF (h := h + 2) hsl (nb h2) ?_))
  refine m_layF hsl hm (by decide) h0 h2 (fun M3 h3 => m_layF hsl hm (by decide) h0 h3 (fun M4 h4 => ⟨by unfold zI; omega, m_toldF (h := h + 2) hsl (nb h4) ?_⟩))
  exact m_layF hsl hm (by decide) h0 h4 (fun M5 h5 => q M5 h5)
theorem m_ringF {G : zG} {h sl : Nat} (hsl : 2 ≤ sl) {m : Nat} {M : zM} {Q : Int → zM → Prop} (hm : m ≤ 8) (h0 : M 158 0 = (m : Int)) (hb : ¬ M 125 5 = 0) (q : ∀ M', zSm (zPxf m) M M' → Q 0 M') : zCt G (h + 10) sl 0 0 y_Md_ringTold [(2, 125)] M Q := by
  have nb : ∀ {M' : zM}, zSm (zPxf m) M M' → ¬ M' 125 5 = 0 := fun hh => by rw [hh _ _ (by unfold zPxf; omega)]; exact hb
  refine E_Md_ringTold hsl (m_toldF (h := h + 7) hsl hb ?_)
  refine m_layF hsl hm (by decide) h0 (zSm.refl _ M) (fun M1 h1 => ⟨by unfold zI; omega, m_toldF (h := h + 7) hsl (nb h1) ?_⟩)
  exact m_layF hsl hm (by decide) h0 h1 (fun M2 h2 => m_asksF (h := h + 8) hsl (nb h2) (m_readsF (h := h + 8) hsl (nb h2) (q M2 h2)))
/-! the half under way -/
def zTuC (T : zTb) (M : zM) (s : Nat) (c : Int) : Prop := 0 ≤ M 161 c ∧ M 161 c + (T.2 c).length = M 162 c ∧ M 162 c ≤ s ∧ zSg M 163 (M 161 c) (T.2 c)
def zTu1 (T : zTb) (M : zM) (s : Nat) (c : Int) : Prop :=
  M 160 (7 * c + 0) = T.1 c 0 ∧ M 160 (7 * c + 1) = (if T.1 c 0 = 1 then T.1 c 7 else T.1 c 1) ∧ M 160 (7 * c + 2) = (if T.1 c 0 = 1 ∨ T.1 c 0 = 2 then T.1 c 2 + 1 else T.1 c 2) ∧
  M 160 (7 * c + 3) = T.1 c 5 ∧ M 160 (7 * c + 4) = T.1 c 3 ∧ M 160 (7 * c + 5) = T.1 c 4 ∧ M 160 (7 * c + 6) = T.1 c 6 ∧ (2 ≤ T.1 c 0 → zTuC T M s c)
def zMt (T : zTb) (s : Nat) (B : Int → Int) (n e : Nat) (M : zM) : Prop :=
  zMd B n e M ∧ zNn T (T.1 8 0).toNat M ∧ (M 158 1 = T.1 8 1 ∧ M 125 49 = T.1 8 2 ∧ M 125 48 = (s : Nat)) ∧ (∀ c, 0 ≤ c → c < T.1 8 0 → zTu1 T M s c) ∧ (T.1 8 3 = 0 ∧ M 161 8 = -1 ∨ T.1 8 3 = 1 ∧ zTuC T M s 8)
def zPtm : Int → Int → Prop := fun a k => a = 125 ∧ (k = 2 ∨ k = 4 ∨ k = 5 ∨ k = 6 ∨ k = 10 ∨ k = 41 ∨ k = 48 ∨ k = 50 ∨ k = 90 ∨ k = 92 ∨ k = 93 ∨ k = 94) ∨ a = 158 ∧ k < 2 ∨ a = 159 ∧ k < 8 ∨ a = 160 ∧ k < 56 ∨ a = 161 ∧ k < 9 ∨ a = 162 ∧ k < 9 ∨ a = 163 ∧ k < 1600 ∨ a = 193 ∨ a = 194
theorem zPmt_tm {M M' : zM} (h : zSm zPmt M M') : zSm zPtm M M' := h.mono (fun a k p => by unfold zPmt at p; unfold zPtm; omega)
theorem zPxf_tm {m : Nat} (hm : m < 8) {M M' : zM} (h : zSm (zPxf m) M M') : zSm zPtm M M' := h.mono (fun a k p => by unfold zPxf at p; unfold zPtm; omega)
theorem zPmr_tm {m s : Nat} (hm : m < 8) {M M' : zM} (h : zSm (zPmr m s) M M') : zSm zPtm M M' := h.mono (fun a k p => by unfold zPmr zPkc zPmq at p; unfold zPtm; omega)
theorem zPkc_tm {wh : Int} {s : Nat} (hm : wh < 9) {M M' : zM} (h : zSm (zPkc wh s) M M') : zSm zPtm M M' := h.mono (fun a k p => by unfold zPkc zPmq at p; unfold zPtm; omega)
theorem zPmz_mr {m s : Nat} {M M' : zM} (h : zSm (zPmz m) M M') : zSm (zPmr m s) M M' := h.mono (fun a k p => by unfold zPmz at p; unfold zPmr zPkc zPmq; omega)
theorem zSg_mid {M M' : zM} {a : Int} : ∀ {cs : List Int} {i : Int}, (∀ k, i ≤ k → k < i + cs.length → M' a k = M a k) → zSg M a i cs → zSg M' a i cs
  | [], _, _, _ => trivial
  | x :: r, i, e, h => ⟨by rw [e i (by omega) (by simp only [List.length_cons]; omega)]; exact h.1, zSg_mid (fun k h1 h2 => e k (by omega) (by simp only [List.length_cons]; omega)) h.2⟩
theorem zTuC.tr {T T' : zTb} {M M' : zM} {s s' : Nat} {c : Int} (e2 : T'.2 c = T.2 c) (f1 : M' 161 c = M 161 c) (f2 : M' 162 c = M 162 c) (g : s ≤ s') (f3 : ∀ k, 0 ≤ k → k < (s : Int) → M' 163 k = M 163 k) (h : zTuC T M s c) : zTuC T' M' s' c := by
  unfold zTuC at h ⊢
  rw [e2, f1, f2]
  exact ⟨h.1, h.2.1, by omega, zSg_mid (fun k h1 h2 => f3 k (by omega) (by omega)) h.2.2.2⟩
theorem zTu1.tr {T T' : zTb} {M M' : zM} {s s' : Nat} {c : Int} (e1 : ∀ k, T'.1 c k = T.1 c k) (e2 : T'.2 c = T.2 c) (f0 : ∀ k, 0 ≤ k → k < 7 → M' 160 (7 * c + k) = M 160 (7 * c + k)) (f1 : M' 161 c = M 161 c) (f2 : M' 162 c = M 162 c) (g : s ≤ s') (f3 : ∀ k, 0 ≤ k → k < (s : Int) → M' 163 k = M 163 k) (h : zTu1 T M s c) : zTu1 T' M' s' c := by
  unfold zTu1 at h ⊢
  rw [f0 0 (by decide) (by decide), f0 1 (by decide) (by decide), f0 2 (by decide) (by decide), f0 3 (by decide) (by decide), f0 4 (by decide) (by decide), f0 5 (by decide) (by decide), f0 6 (by decide) (by decide)]
  simp only [e1]
  exact ⟨h.1, h.2.1, h.2.2.1, h.2.2.2.1, h.2.2.2.2.1, h.2.2.2.2.2.1, h.2.2.2.2.2.2.1, fun x => (h.2.2.2.2.2.2.2 x).tr e2 f1 f2 g f3⟩
theorem zNm1_eq {T T' : zTb} {c v : Int} (e : ∀ k, T'.1 c k = T.1 c k) (h : zNm1 T c v) : zNm1 T' c v := by
  unfold zNm1 at h ⊢
  simp only [e]
  exact h
theorem zlts_k (B : Int → Int) (n e : Nat) {k : Nat} (hk : k < 6) : zlts B n e (10 + (k : Int)) = zwl B n e k := by
  unfold zlts
  rw [if_pos (by omega), show (10 + (k : Int) - 10).toNat = k from by omega]
theorem zNm1_new {T : zTb} {c : Int} {B : Int → Int} {n e : Nat} (hk : zkd B n e = 1) (h6 : zto B n e - zfr B n e ≤ 6) (hl : ∀ k, 10 ≤ k → k < 16 → T.1 c k = zlts B n e k) : zNm1 T c (zn27 (zltr B n e) (zto B n e - zfr B n e)) := by
  have hd := zkd_ltr hk
  have hw : ∀ k : Nat, k < zto B n e - zfr B n e → T.1 c (10 + (k : Int)) = zltr B n e k := fun k hk => by
    rw [hl _ (by omega) (by omega), zlts_k B n e (by omega)]
    unfold zwl zltr
    rw [if_pos (by omega)]
  refine ⟨zto B n e - zfr B n e, ⟨by omega, h6⟩, fun k hk => ?_, fun k hk1 hk2 => ?_, zn27_eq _ (fun k hk => (hw k hk).symm)⟩
  · rw [hw k hk]
    have := hd.2.2 k hk
    unfold zltr
    omega
  · have ek : k = ((k.toNat : Nat) : Int) := by omega
    rw [ek, hl _ (by omega) (by omega), zlts_k B n e (by omega)]
    unfold zwl
    rw [if_neg (by omega)]
/-- a column more is told -/
theorem zMt_new {T : zTb} {s : Nat} {D : List Int} {f : Int → Int} {v : Int} {B : Int → Int} {n e e' : Nat} {M M' : zM} (hT : zTok T) (h8 : T.1 8 0 < 8) (h : zMt T s B n e M) (hx : zMd B n e' M') (fr : ∀ a k, a = 158 ∨ a = 125 ∧ k = 49 ∨ a = 159 ∨ a = 160 ∧ k < 7 * T.1 8 0 ∨ a = 161 ∧ k ≠ T.1 8 0 ∨ a = 162 ∧ k ≠ T.1 8 0 ∨ a = 163 ∧ k < s → M' a k = M a k) (h48 : M' 125 48 = ((s + D.length : Nat) : Int))
    (hf : M' 160 (7 * T.1 8 0 + 0) = f 0 ∧ M' 160 (7 * T.1 8 0 + 1) = (if f 0 = 1 then f 7 else f 1) ∧ M' 160 (7 * T.1 8 0 + 2) = (if f 0 = 1 ∨ f 0 = 2 then f 2 + 1 else f 2) ∧ M' 160 (7 * T.1 8 0 + 3) = f 5 ∧ M' 160 (7 * T.1 8 0 + 4) = f 3 ∧ M' 160 (7 * T.1 8 0 + 5) = f 4 ∧ M' 160 (7 * T.1 8 0 + 6) = f 6) (hcd : 2 ≤ f 0 → M' 161 (T.1 8 0) = (s : Int) ∧ M' 162 (T.1 8 0) = ((s + D.length : Nat) : Int) ∧ zSg M' 163 s D)
    (hnm : ∀ T2 : zTb, (∀ k, T2.1 (T.1 8 0) k = f k) → zNm1 T2 (T.1 8 0) v) : zMt (zset (zadd T (T.1 8 0) f D) 8 0 (T.1 8 0 + 1)) (s + D.length) B n e' (zwr (zwr M' 159 (T.1 8 0) v) 158 0 (T.1 8 0 + 1)) := by
  have h0 := hT.1
  obtain ⟨a, ⟨b1, b2⟩, ⟨c1, c2, c3⟩, cc, cm⟩ := h
  have w : ∀ a k, ¬ (a = 159 ∧ k = T.1 8 0) → ¬ (a = 158 ∧ k = 0) → (zwr (zwr M' 159 (T.1 8 0) v) 158 0 (T.1 8 0 + 1)) a k = M' a k := fun a k p1 p2 => by rw [zwr_i, if_neg p2, zwr_i, if_neg p1]
  have w0 : (zwr (zwr M' 159 (T.1 8 0) v) 158 0 (T.1 8 0 + 1)) 158 0 = T.1 8 0 + 1 := zwr_s _ _ _ _
  have w9 : (zwr (zwr M' 159 (T.1 8 0) v) 158 0 (T.1 8 0 + 1)) 159 (T.1 8 0) = v := by rw [zwr_o _ (by decide), zwr_s]
  generalize zwr (zwr M' 159 (T.1 8 0) v) 158 0 (T.1 8 0 + 1) = M2 at w w0 w9
  generalize eT : zset (zadd T (T.1 8 0) f D) 8 0 (T.1 8 0 + 1) = T2
  have ne : ∀ a b, a ≠ T.1 8 0 → ¬ (a = 8 ∧ b = 0) → T2.1 a b = T.1 a b := fun a b p1 p2 => by rw [← eT]; exact znw_o _ _ _ _ p1 p2
  have n1 : T2.1 8 0 = T.1 8 0 + 1 := by rw [← eT]; exact znw_s _ _ _ _ _
  have n2 : ∀ a, a ≠ T.1 8 0 → T2.2 a = T.2 a := fun a p => by rw [← eT]; exact znw_e _ _ _ _ p
  have n3 : ∀ b, T2.1 (T.1 8 0) b = f b := fun b => by rw [← eT]; exact znw_f _ _ _ _ _ (by omega)
  have n4 : T2.2 (T.1 8 0) = D := by rw [← eT]; exact znw_d _ _ _ _ _
  have f3 : ∀ k, 0 ≤ k → k < (s : Int) → M2 163 k = M 163 k := fun k _ hk => by rw [w _ _ (by omega) (by omega), fr _ _ (by omega)]
  refine ⟨hx.fr (fun a k p => w a k (by omega) (by omega)), ⟨by rw [w0, n1]; omega, fun c c0 cn => ?_⟩, ⟨by rw [w _ _ (by omega) (by omega), fr _ _ (by omega), ne _ _ (by omega) (by omega)]; exact c1, by rw [w _ _ (by omega) (by omega), fr _ _ (by omega), ne _ _ (by omega) (by omega)]; exact c2, by rw [w _ _ (by omega) (by omega)]; exact h48⟩, fun c c0 cn => ?_, ?_⟩
  · by_cases q : c = T.1 8 0
    · rw [q, w9]
      exact hnm T2 n3
    · rw [n1] at cn
      rw [w _ _ (by omega) (by omega), fr _ _ (by omega)]
      exact zNm1_eq (fun k => ne _ _ q (by omega)) (b2 c c0 (by omega))
  · rw [n1] at cn
    by_cases q : c = T.1 8 0
    · subst q
      have w7 : ∀ k, 0 ≤ k → k < 7 → M2 160 (7 * T.1 8 0 + k) = M' 160 (7 * T.1 8 0 + k) := fun k _ _ => w _ _ (by omega) (by omega)
      unfold zTu1 zTuC
      simp only [n3, n4]
      rw [w7 0 (by decide) (by decide), w7 1 (by decide) (by decide), w7 2 (by decide) (by decide), w7 3 (by decide) (by decide), w7 4 (by decide) (by decide), w7 5 (by decide) (by decide), w7 6 (by decide) (by decide), w 161 _ (by omega) (by omega), w 162 _ (by omega) (by omega)]
      refine ⟨hf.1, hf.2.1, hf.2.2.1, hf.2.2.2.1, hf.2.2.2.2.1, hf.2.2.2.2.2.1, hf.2.2.2.2.2.2, fun x => ?_⟩
      obtain ⟨x1, x2, x3⟩ := hcd x
      rw [x1, x2]
      exact ⟨by omega, by omega, by omega, zSg_eq (fun j => w _ _ (by omega) (by omega)) x3⟩
    · exact (cc c c0 (by omega)).tr (fun k => ne _ _ q (by omega)) (n2 _ q) (fun k k0 k7 => by rw [w _ _ (by omega) (by omega), fr _ _ (by omega)]) (by rw [w _ _ (by omega) (by omega), fr _ _ (by omega)]) (by rw [w _ _ (by omega) (by omega), fr _ _ (by omega)]) (by omega) f3
  · rw [ne _ _ (by omega) (by omega), w 161 8 (by omega) (by omega), fr 161 8 (by omega)]
    rcases cm with x | x
    · exact Or.inl x
    · exact Or.inr ⟨x.1, x.2.tr (n2 8 (by omega)) (by rw [w _ _ (by omega) (by omega), fr _ _ (by omega)]) (by rw [w _ _ (by omega) (by omega), fr _ _ (by omega)]) (by omega) f3⟩
theorem m_clearL {G : zG} {h sl : Nat} (hsl : 2 ≤ sl) {m : Nat} {so : Int} {M0 : zM} {Q : Int → zM → Prop} (hm : m < 8) (h0 : M0 158 0 = (m : Int)) (q : ∀ M' u, zSm (zPxf m) M0 M' → (∀ k, 0 ≤ k → k < 7 → M' 160 (7 * (m : Int) + k) = 0) → zX G (y_Md_columnTold, h + 1, sl) u 34 [(0, (2, 125)), (1, (0, so)), (3, (0, ((7 : Nat) : Int)))] [] M' Q) :
    ∀ (d i : Nat) (M : zM) u, d + i = 7 → zSm (zPxf m) M0 M → (∀ k, 0 ≤ k → k < (i : Int) → M 160 (7 * (m : Int) + k) = 0) → zX G (y_Md_columnTold, h + 1, sl) u 34 [(0, (2, 125)), (1, (0, so)), (3, (0, (i : Int)))] [] M Q
  | 0, i, M, u, ei, hM, hz => by
    have ei : i = 7 := by omega
    subst ei
    exact q M u hM hz
  | d + 1, i, M, u, ei, hM, hz => by
    refine B_Md_columnTold_34 hsl ⟨fun y => absurd y (by omega), fun _ => m_laid (m := m) hsl (by omega) ⟨by omega, by omega⟩ (by rw [hM _ _ (by unfold zPxf; omega)]; exact h0) ⟨by unfold zI; omega, ?_⟩⟩
    have := m_clearL (G := G) (h := h) (so := so) (Q := Q) hsl hm h0 q d (i + 1) (zwr M 160 (7 * (m : Int) + (i : Int)) 0) u (by omega) (hM.wr ⟨rfl, by omega⟩) (fun k k0 ki => by
      by_cases c : k = (i : Int)
      · rw [c, zwr_s]
      · rw [zwr_k _ (by omega)]; exact hz k k0 (by omega))
    rw [zcs] at this
    exact this
