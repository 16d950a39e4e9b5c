/-! COLUMNS, the Model: arcs, rings. -/
theorem zbhs_up {B : Int → Int} {n : Nat} {X : zRs Nat} {w : List Int} {lo hi : Int} {e : Nat} (h : zwe (zbhs B n X w lo hi) = .inr e) : ∃ e1, X = .inr e1 := by
  cases X with
  | inl x => nomatch h
  | inr e1 => exact ⟨e1, rfl⟩
theorem m_arcTold {G : zG} {h sl : Nat} (hsl : 2 ≤ sl) {B : Int → Int} {n e m : Nat} {M : zM} {Q : Int → zM → Prop} (hn : n ≤ 1600) (hm : m ≤ 8) (he : e ≤ n) (hx : zMd B n e M) (h0 : M 158 0 = (m : Int)) (q : ∀ M', zSm (zPmz m) M M' → zCm B n (zwe (zaY5 B n e)) M' → (∀ e', zwe (zaY5 B n e) = .inr e' → M' 160 (7 * (m : Int) + 1) = zvl (zaY3 B n e) ∧ M' 160 (7 * (m : Int) + 2) = zvl (zaY1 B n e) ∧ M' 160 (7 * (m : Int) + 3) = zvl (zaY4 B n e) ∧ M' 160 (7 * (m : Int) + 4) = zvl (zaY2 B n e) ∧ M' 160 (7 * (m : Int) + 6) = zvl (zaY5 B n e)) → (∀ k, k = 0 ∨ k = 5 → M' 160 (7 * (m : Int) + k) = M 160 (7 * (m : Int) + k)) → Q 0 M') : zCt G (h + 5) sl 0 0 y_Md_arcTold [(2, 125)] M Q := by
  have up : ∀ {M1 M2 : zM}, zSm zPmt M1 M2 → ∀ j, M2 160 j = M1 160 j := fun hh j => hh _ _ (by unfold zPmt; omega)
  have wf : ∀ {X : zRs Nat} {M1 M2 : zM} {k : Int}, (∀ a j, ¬ (a = 160 ∧ j = k) → M2 a j = M1 a j) → zCm B n X M1 → zCm B n X M2 := fun ff hh => hh.fr (fun a j p => ff a j (by omega))
  refine E_Md_arcTold hsl (m_tds hsl hn (X := .inr e) (lo := 4) (hi := 999) ⟨he, hx⟩ zo_138 (by decide) (fun _ _ => ⟨rfl, rfl⟩) (fun r1 M1 h1 x1 v1 b1 => ⟨by unfold zI; omega, ?_⟩))
  have e1 : zbhs B n (.inr e) zo_of 4 999 = zaY1 B n e := rfl
  rw [e1] at x1 v1
  refine m_tds hsl hn (lo := 0) (hi := zvl (zaY1 B n e) - 1) x1 zo_135 (by decide) (fun e2 c => ⟨rfl, by rw [zwe_l v1 c]⟩) (fun r2 M2 h2 x2 v2 b2 => ⟨by unfold zI; omega, ?_⟩)
  have e2 : zbhs B n (zwe (zaY1 B n e)) zo_at 0 (zvl (zaY1 B n e) - 1) = zaY2 B n e := rfl
  rw [e2] at x2 v2
  have l21 : ∀ {e' : Nat}, zwe (zaY2 B n e) = .inr e' → r1 = zvl (zaY1 B n e) := fun c => by
    obtain ⟨e1', c1⟩ := zbhs_up c
    exact zwe_l v1 c1
  refine m_tds hsl hn (lo := 2) (hi := zvl (zaY1 B n e) - 2) x2 zo_133 (by decide) (fun e2 c => ⟨rfl, by rw [l21 c]⟩) (fun r3 M3 h3 x3 v3 b3 => ?_)
  have e3 : zbhs B n (zwe (zaY2 B n e)) zo_to 2 (zvl (zaY1 B n e) - 2) = zaY3 B n e := rfl
  rw [e3] at x3 v3
  have z3 : zSm (zPmz m) M M3 := ((zPmt_z h1).trans (zPmt_z h2)).trans (zPmt_z h3)
  refine m_lay hsl hm (by decide) h0 z3 (fun M4 z4 f4 g4 => m_lay hsl hm (by decide) h0 z4 (fun M5 z5 f5 g5 => ?_))
  refine m_tds hsl hn (X := zwe (zaY3 B n e)) (lo := 1) (hi := zvl (zaY3 B n e)) (wf f5 (wf f4 x3)) zo_139 (by decide) (fun e2 c => ⟨rfl, zwe_l v3 c⟩) (fun r4 M6 h6 x6 v6 b6 => ?_)
  have e6 : zbhs B n (zwe (zaY3 B n e)) zo_fast 1 (zvl (zaY3 B n e)) = zaY4 B n e := rfl
  rw [e6] at x6 v6
  refine m_lay hsl hm (by decide) h0 (z5.trans (zPmt_z h6)) (fun M7 z7 f7 g7 => m_lay hsl hm (by decide) h0 z7 (fun M8 z8 f8 g8 => ⟨by unfold zI; omega, ?_⟩))
  have l4 : ∀ {e' : Nat}, zwe (zaY4 B n e) = .inr e' → r1 = zvl (zaY1 B n e) ∧ r2 = zvl (zaY2 B n e) ∧ r3 = zvl (zaY3 B n e) := fun c => by
    obtain ⟨e3', c3⟩ := zbhs_up c
    obtain ⟨e2', c2⟩ := zbhs_up c3
    obtain ⟨e1', c1⟩ := zbhs_up c2
    exact ⟨zwe_l v1 c1, zwe_l v2 c2, zwe_l v3 c3⟩
  refine m_tds hsl hn (X := zwe (zaY4 B n e)) (lo := 1) (hi := zvl (zaY1 B n e) - zvl (zaY3 B n e)) (wf f8 (wf f7 x6)) zo_140 (by decide) (fun e2 c => ⟨rfl, by rw [(l4 c).1, (l4 c).2.2]⟩) (fun r5 M9 h9 x9 v9 b9 => ?_)
  have e9 : zbhs B n (zwe (zaY4 B n e)) zo_slow 1 (zvl (zaY1 B n e) - zvl (zaY3 B n e)) = zaY5 B n e := rfl
  rw [e9] at x9 v9
  refine m_lay hsl hm (by decide) h0 (z8.trans (zPmt_z h9)) (fun M10 z10 f10 g10 => q M10 z10 (wf f10 x9) (fun e' c => ?_) (fun k hk => ?_))
  · obtain ⟨e4', c4⟩ := zbhs_up c
    have l := l4 c4
    refine ⟨?_, ?_, ?_, ?_, ?_⟩
    · rw [f10 _ _ (by omega), up h9, f8 _ _ (by omega), f7 _ _ (by omega), up h6, f5 _ _ (by omega), g4, l.2.2]
    · rw [f10 _ _ (by omega), up h9, f8 _ _ (by omega), f7 _ _ (by omega), up h6, g5, l.1]
    · rw [f10 _ _ (by omega), up h9, f8 _ _ (by omega), g7, zwe_l v6 c4]
    · rw [f10 _ _ (by omega), up h9, g8, l.2.1]
    · rw [g10, zwe_l v9 c]
  · rw [f10 _ _ (by omega), up h9, f8 _ _ (by omega), f7 _ _ (by omega), up h6, f5 _ _ (by omega), f4 _ _ (by omega), up h3, up h2, up h1]
theorem zCm.le2 {B : Int → Int} {n : Nat} {X : zRs Nat} {M : zM} (h : zCm B n X M) {e : Nat} (he : X = .inr e) : e ≤ n := by
  subst he
  exact h.1
theorem zwe_inv {Y : zRs (Nat × Int)} {e : Nat} (h : zwe Y = .inr e) : ∃ v, Y = .inr (e, v) := by
  cases Y with
  | inl x => nomatch h
  | inr y =>
    have h : (.inr y.1 : zRs Nat) = .inr e := h
    injection h with h
    exact ⟨y.2, by rw [← h]⟩
theorem zbhs_le {B : Int → Int} {n e e' : Nat} {w : List Int} {lo hi : Int} (he : e ≤ n) (h : zwe (zbhs B n (.inr e) w lo hi) = .inr e') : e ≤ e' ∧ e' ≤ n := by
  obtain ⟨v, c⟩ := zwe_inv h
  have c : zbeh B n e w lo hi = .inr (e', v) := c
  have := zbeh_ok he c
  omega
theorem zbhs_le2 {B : Int → Int} {n e e' : Nat} {X : zRs Nat} {w : List Int} {lo hi : Int} (he : e ≤ n) (hX : X = .inr e) (h : zwe (zbhs B n X w lo hi) = .inr e') : e ≤ e' ∧ e' ≤ n := by
  subst hX
  exact zbhs_le he h
/-- a ring's or a sum's column: behind its sum -/
theorem ztkw_up {B : Int → Int} {n : Nat} {X : zRs Nat} {w : List Int} {e : Nat} (h : ztkw B n X w = .inr e) : ∃ e1, X = .inr e1 ∧ zwrd B n e1 w = true ∧ e = zto B n e1 := by
  cases X with
  | inl x => nomatch h
  | inr e1 =>
    have h : (if zwrd B n e1 w = true then (.inr (zto B n e1) : zRs Nat) else .inl (1, (zfr B n e1 : Nat))) = .inr e := h
    by_cases c : zwrd B n e1 w = true
    · rw [if_pos c] at h; injection h with h; exact ⟨e1, rfl, c, h.symm⟩
    · rw [if_neg c] at h; nomatch h
theorem m_asksS {G : zG} {h sl : Nat} (hsl : 2 ≤ sl) {B : Int → Int} {n : Nat} {X : zRs Nat} {o : Int} {w : List Int} {M : zM} {Q : Int → zM → Prop} (hn : n ≤ 1600) (hX : zCm B n X M) (hw : zWo o w) (hw6 : w.length ≤ 6) (q : ∀ M', zSm zPmt M M' → zCm B n (ztkw B n X w) M' → Q 0 M') : zCt G (h + 3) sl 0 0 y_Md_asks [(2, 125), (2, o)] M Q := by
  cases X with
  | inl x => exact m_asksF (h := h + 2) hsl (by rw [hX.1.1]; exact hX.2) (q M (zSm.refl _ M) hX)
  | inr e =>
    have hz : ztkw B n (.inr e) w = if zwrd B n e w = true then .inr (zto B n e) else .inl (1, (zfr B n e : Nat)) := rfl
    rw [hz] at q
    refine m_asks hsl hn hX.1 hX.2 hw hw6 (fun c M1 h1 g1 => ?_) (fun c M1 h1 x1 => ?_)
    · rw [if_pos c] at q
      exact q M1 h1 ⟨(zto_b hX.1).2.1, g1⟩
    · rw [if_neg c] at q
      exact q M1 h1 ⟨x1, show (1 : Int) ≠ 0 by decide⟩
/-- the sum behind -/
def zsmc (T : zTb) (m : Nat) (B : Int → Int) (n : Nat) (X : zRs Nat) : zRs (Nat × List Int) := zbd X (fun e => zsumK 0 T m B n 6 e)
def zPmr (m s : Nat) : Int → Int → Prop := fun a k => zPkc (m : Int) s a k ∨ a = 160 ∧ 7 * (m : Int) ≤ k ∧ k < 7 * (m : Int) + 7
theorem m_readsS {G : zG} {h sl : Nat} (hsl : 2 ≤ sl) {T : zTb} {m : Nat} {B : Int → Int} {n s : Nat} {X : zRs Nat} {M : zM} {Q : Int → zM → Prop} (hn : n ≤ 1600) (hm : m < 8) (hX : zCm B n X M) (hN : zNn T m M) (hs : ∀ e, X = .inr e → s ≤ e) (h48 : M 125 48 = (s : Int)) (qo : ∀ e' D, zsmc T m B n X = .inr (e', D) → ∀ M', zSm (zPkc (m : Int) s) M M' → zMd B n e' M' → M' 125 48 = (s : Int) + D.length → M' 161 (m : Int) = s → M' 162 (m : Int) = (s : Int) + D.length → zSg M' 163 s D → Q 0 M') (qn : ∀ f p, zsmc T m B n X = .inl (f, p) → f ≠ 0 → ∀ M', zSm (zPkc (m : Int) s) M M' → zMF f p M' → Q 0 M') : zCt G (h + 9) sl 0 0 y_Md_reads [(2, 125), (0, (m : Int)), (0, 0)] M Q := by
  cases X with
  | inl x => exact m_readsF (h := h + 8) hsl (by rw [hX.1.1]; exact hX.2) (qn x.1 x.2 rfl hX.2 M (zSm.refl _ M) hX.1)
  | inr e =>
    refine m_reads (T := T) (m := m) (wh := (m : Int)) (md := 0) hsl hn (by omega) hX.1 hX.2 hN (Or.inr ⟨by omega, rfl⟩) (by omega) (hs e rfl) h48 (fun e' D c => ?_) (fun f p c => ?_)
    · rw [if_neg (by omega)] at c
      exact qo e' D c
    · rw [if_neg (by omega)] at c
      exact qn f p c (zsumK_nz _ _ _ c)
theorem m_ringTold {G : zG} {h sl : Nat} (hsl : 2 ≤ sl) {T : zTb} {B : Int → Int} {n e m s : Nat} {M : zM} {Q : Int → zM → Prop} (hn : n ≤ 1600) (hm : m < 8) (he : e ≤ n) (hx : zMd B n e M) (hN : zNn T m M) (hs : s ≤ e) (h48 : M 125 48 = (s : Int))
    (qo : ∀ e' D, zsmc T m B n (zrY3 B n e) = .inr (e', D) → ∀ M', zSm (zPmr m s) M M' → zMd B n e' M' → M' 125 48 = (s : Int) + D.length → M' 161 (m : Int) = s → M' 162 (m : Int) = (s : Int) + D.length → zSg M' 163 s D → M' 160 (7 * (m : Int) + 2) = zvl (zrY1 B n e) ∧ M' 160 (7 * (m : Int) + 4) = zvl (zrY2 B n e) → (∀ k, k = 0 ∨ k = 1 ∨ k = 3 ∨ k = 5 ∨ k = 6 → M' 160 (7 * (m : Int) + k) = M 160 (7 * (m : Int) + k)) → Q 0 M')
    (qn : ∀ f p, zsmc T m B n (zrY3 B n e) = .inl (f, p) → f ≠ 0 → ∀ M', zSm (zPmr m s) M M' → zMF f p M' → Q 0 M') : zCt G (h + 10) sl 0 0 y_Md_ringTold [(2, 125)] M Q := by
  have h0 := hN.1
  have up : ∀ {M1 M2 : zM}, zSm zPmt M1 M2 → ∀ j, M2 160 j = M1 160 j := fun hh j => hh _ _ (by unfold zPmt; omega)
  have wf : ∀ {X : zRs Nat} {M1 M2 : zM} {k : Int}, (∀ a j, ¬ (a = 160 ∧ j = k) → M2 a j = M1 a j) → zCm B n X M1 → zCm B n X M2 := fun ff hh => hh.fr (fun a j p => ff a j (by omega))
  refine E_Md_ringTold hsl (m_tds (h := h + 5) hsl hn (X := .inr e) (lo := 2) (hi := 999) ⟨he, hx⟩ zo_138 (by decide) (fun _ _ => ⟨rfl, rfl⟩) (fun r1 M1 h1 x1 v1 b1 => ?_))
  have e1 : zbhs B n (.inr e) zo_of 2 999 = zrY1 B n e := rfl
  rw [e1] at x1 v1
  refine m_lay hsl (by omega) (by decide) h0 (zPmt_z h1) (fun M2 z2 f2 g2 => ⟨by unfold zI; omega, ?_⟩)
  refine m_tds (h := h + 5) hsl hn (X := zwe (zrY1 B n e)) (lo := 0) (hi := zvl (zrY1 B n e) - 1) (wf f2 x1) zo_135 (by decide) (fun e2 c => ⟨rfl, by rw [zwe_l v1 c]⟩) (fun r2 M3 h3 x3 v3 b3 => ?_)
  have e3 : zbhs B n (zwe (zrY1 B n e)) zo_at 0 (zvl (zrY1 B n e) - 1) = zrY2 B n e := rfl
  rw [e3] at x3 v3
  refine m_lay hsl (by omega) (by decide) h0 (z2.trans (zPmt_z h3)) (fun M4 z4 f4 g4 => ?_)
  refine m_asksS (h := h + 6) hsl hn (wf f4 x3) zo_134 (by decide) (fun M5 h5 x5 => ?_)
  have e5 : ztkw B n (zwe (zrY2 B n e)) zo_by = zrY3 B n e := rfl
  rw [e5] at x5
  have z5 : zSm (zPmz m) M M5 := z4.trans (zPmt_z h5)
  have n5 : zNn T m M5 := ⟨by rw [z5 _ _ (by unfold zPmz; omega)]; exact hN.1, fun c a b => by rw [z5 _ _ (by unfold zPmz; omega)]; exact hN.2 c a b⟩
  have zr : zSm (zPmr m s) M M5 := z5.mono (fun a k p => by unfold zPmz at p; unfold zPmr zPkc zPmq; omega)
  have zk : ∀ {M6 : zM}, zSm (zPkc (m : Int) s) M5 M6 → zSm (zPmr m s) M M6 := fun hh => zr.trans (hh.mono (fun a k p => Or.inl p))
  have u6 : ∀ {M6 : zM}, zSm (zPkc (m : Int) s) M5 M6 → ∀ j, M6 160 j = M5 160 j := fun hh j => hh _ _ (by unfold zPkc zPmq; omega)
  rw [show M5 158 0 = (m : Int) from n5.1]
  refine m_readsS (h := h) (s := s) hsl hn hm x5 n5 (fun e5 c => ?_) (by rw [z5 _ _ (by unfold zPmz; omega)]; exact h48) (fun e' D c M6 h6 g6 a1 a2 a3 a4 => ?_) (fun f p c f0 M6 h6 x6 => qn f p c f0 M6 (zk h6) x6)
  · obtain ⟨e2', c2, w2, ee⟩ := ztkw_up c
    have b2 := zwrd_e (x3.le2 c2) w2
    obtain ⟨e1', c1⟩ := zbhs_up c2
    have k1 := zbhs_le he c1
    have k2 := zbhs_le2 (x1.le2 c1) c1 c2
    omega
  · obtain ⟨x5', c5, _⟩ := zbd_inv c
    obtain ⟨e2', c2, w2, ee⟩ := ztkw_up c5
    obtain ⟨e1', c1⟩ := zbhs_up c2
    refine qo e' D c M6 (zk h6) g6 a1 a2 a3 a4 ⟨?_, ?_⟩ (fun k hk => ?_)
    · rw [u6 h6, up h5, f4 _ _ (by omega), up h3, g2, zwe_l v1 c1]
    · rw [u6 h6, up h5, g4, zwe_l v3 c2]
    · rw [u6 h6, up h5, f4 _ _ (by omega), up h3, f2 _ _ (by omega), up h1]
