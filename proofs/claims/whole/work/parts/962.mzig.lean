/-! COLUMNS, the Model: what stands behind a name. -/
def zCm (B : Int → Int) (n : Nat) (X : zRs Nat) (M : zM) : Prop := match X with
  | .inr e => e ≤ n ∧ zMd B n e M
  | .inl x => zMF x.1 x.2 M ∧ x.1 ≠ 0
theorem zCm.fr {B : Int → Int} {n : Nat} {X : zRs Nat} {M M' : zM} (f : ∀ a k, a = 126 ∨ a = 125 ∧ 2 ≤ k ∧ k ≤ 6 → M' a k = M a k) (h : zCm B n X M) : zCm B n X M' := by
  cases X with
  | inl x => exact ⟨⟨by rw [f _ _ (by omega)]; exact h.1.1, by rw [f _ _ (by omega)]; exact h.1.2⟩, h.2⟩
  | inr e => exact ⟨h.1, h.2.fr f⟩
theorem zwe_l {Y : zRs (Nat × Int)} {r : Int} (h : ∀ y, Y = .inr y → r = y.2) {e : Nat} (he : zwe Y = .inr e) : r = zvl Y := by
  cases Y with
  | inl x => nomatch he
  | inr y => exact h y rfl
theorem m_tds {G : zG} {h sl : Nat} (hsl : 2 ≤ sl) {B : Int → Int} {n : Nat} {X : zRs Nat} {o lo hi lo' hi' : Int} {w : List Int} {M : zM} {Q : Int → zM → Prop} (hn : n ≤ 1600) (hX : zCm B n X M) (hw : zWo o w) (hw6 : w.length ≤ 6) (hlh : ∀ e, X = .inr e → lo' = lo ∧ hi' = hi) (q : ∀ r M', zSm zPmt M M' → zCm B n (zwe (zbhs B n X w lo hi)) M' → (∀ y, zbhs B n X w lo hi = .inr y → r = y.2) → 0 ≤ r ∧ r ≤ 9999 → Q r M') : zCt G (h + 4) sl 0 0 y_Md_told [(2, 125), (2, o), (0, lo'), (0, hi')] M Q := by
  cases X with
  | inl x => exact m_toldF (h := h + 2) hsl (by rw [hX.1.1]; exact hX.2) (q 0 M (zSm.refl _ M) hX (fun y hy => by nomatch hy) (by decide))
  | inr e =>
    have hz : zbhs B n (.inr e) w lo hi = zbeh B n e w lo hi := rfl
    rw [hz] at q
    rw [(hlh e rfl).1, (hlh e rfl).2]
    refine m_told hsl hn hX.1 hX.2 hw hw6 (fun e' v c M1 h1 g1 => ?_) (fun f p c r M1 r0 r9 h1 x1 => ?_)
    · rw [c] at q
      have := zbeh_ok hX.1 c
      exact q v M1 h1 ⟨this.2.1, g1⟩ (fun y hy => by injection hy with hy; rw [← hy]) (by omega)
    · rw [c] at q
      exact q r M1 h1 ⟨x1, zbeh_nz c⟩ (fun y hy => by nomatch hy) ⟨r0, r9⟩
def zPmz (m : Nat) : Int → Int → Prop := fun a k => a = 125 ∧ (k = 2 ∨ k = 4 ∨ k = 5 ∨ k = 6 ∨ k = 10 ∨ k = 41) ∨ a = 160 ∧ 7 * (m : Int) ≤ k ∧ k < 7 * (m : Int) + 7
theorem zPmt_z {M M' : zM} {m : Nat} (h : zSm zPmt M M') : zSm (zPmz m) M M' := h.mono (fun a k p => Or.inl p)
theorem m_takesF {G : zG} {h sl : Nat} (hsl : 2 ≤ sl) {o : Int} {M : zM} {Q : Int → zM → Prop} (hb : ¬ M 125 5 = 0) (q : Q 0 M) : zCt G (h + 2) sl 0 0 y_Md_takes [(2, 125), (2, o)] M Q :=
  E_Md_takes hsl (E_Md_isHere hsl ⟨fun _ => ⟨fun y => absurd rfl y, fun _ => q⟩, fun y => absurd hb y⟩)
/-- a field is laid, the rest stays -/
theorem m_lay {G : zG} {h sl : Nat} (hsl : 2 ≤ sl) {k v : Int} {m : Nat} {M0 M : zM} {Q : Int → zM → Prop} (hm : m ≤ 8) (hk : 0 ≤ k ∧ k < 7) (h0 : M0 158 0 = (m : Int)) (hM : zSm (zPmz m) M0 M) (q : ∀ M', zSm (zPmz m) M0 M' → (∀ a j, ¬ (a = 160 ∧ j = 7 * (m : Int) + k) → M' a j = M a j) → M' 160 (7 * (m : Int) + k) = v → Q 0 M') : zCt G h sl 0 0 y_Md_laid [(2, 125), (0, k), (0, v)] M Q :=
  m_laid hsl hm hk (by rw [hM _ _ (by unfold zPmz; omega)]; exact h0) (q _ (hM.wr (Or.inr ⟨rfl, by omega⟩)) (fun a j p => by rw [zwr_i, if_neg p]) (zwr_s _ _ _ _))
theorem m_zigTold {G : zG} {h sl : Nat} (hsl : 2 ≤ sl) {B : Int → Int} {n e m : Nat} {M : zM} {Q : Int → zM → Prop} (hn : n ≤ 1600) (hm : m ≤ 8) (he : e ≤ n) (hx : zMd B n e M) (h0 : M 158 0 = (m : Int)) (q : ∀ M', zSm (zPmz m) M M' → zCm B n (zwe (zgY5 B n e)) M' → (∀ e' v, zgY5 B n e = .inr (e', v) → M' 160 (7 * (m : Int) + 1) = zvl (zgY1 B n e) ∧ M' 160 (7 * (m : Int) + 2) = zvl (zgY2 B n e) ∧ M' 160 (7 * (m : Int) + 3) = zvl (zgY3 B n e) ∧ M' 160 (7 * (m : Int) + 4) = zvl (zgY4 B n e) ∧ M' 160 (7 * (m : Int) + 5) = v) → (∀ k, k = 0 ∨ k = 6 → M' 160 (7 * (m : Int) + k) = M 160 (7 * (m : Int) + k)) → Q 0 M') : zCt G (h + 5) sl 0 0 y_Md_zigTold [(2, 125)] M Q := by
  have up : ∀ {M1 M2 : zM}, zSm zPmt M1 M2 → ∀ j, M2 160 j = M1 160 j := fun hh j => hh _ _ (by unfold zPmt; omega)
  have wf : ∀ {X : zRs Nat} {M1 M2 : zM} {k : Int}, (∀ a j, ¬ (a = 160 ∧ j = k) → M2 a j = M1 a j) → zCm B n X M1 → zCm B n X M2 := fun ff hh => hh.fr (fun a j p => ff a j (by omega))
  refine E_Md_zigTold hsl (m_tds hsl hn (X := .inr e) (lo := 0) (hi := 999) ⟨he, hx⟩ zo_132 (by decide) (fun _ _ => ⟨rfl, rfl⟩) (fun r1 M1 h1 x1 v1 b1 => ⟨by unfold zI; omega, ?_⟩))
  have e1 : zbhs B n (.inr e) zo_from 0 999 = zgY1 B n e := rfl
  rw [e1] at x1 v1
  refine m_tds hsl hn (lo := zvl (zgY1 B n e) + 1) (hi := 999) x1 zo_133 (by decide) (fun e2 c => ⟨by rw [zwe_l v1 c], rfl⟩) (fun r2 M2 h2 x2 v2 b2 => ?_)
  have e2 : zbhs B n (zwe (zgY1 B n e)) zo_to (zvl (zgY1 B n e) + 1) 999 = zgY2 B n e := rfl
  rw [e2] at x2 v2
  have z2 : zSm (zPmz m) M M2 := (zPmt_z h1).trans (zPmt_z h2)
  refine m_lay hsl hm (by decide) h0 z2 (fun M3 z3 f3 g3 => m_lay hsl hm (by decide) h0 z3 (fun M4 z4 f4 g4 => ⟨by unfold zI; omega, ?_⟩))
  refine m_tds hsl hn (X := zwe (zgY2 B n e)) (lo := 1) (hi := zvl (zgY2 B n e) - zvl (zgY1 B n e)) (wf f4 (wf f3 x2)) zo_134 (by decide) (fun e3 c => ?_) (fun r3 M5 h5 x5 v5 b5 => ?_)
  · have c1 : ∃ e1, zwe (zgY1 B n e) = .inr e1 := by
      cases c1 : zwe (zgY1 B n e) with
      | inl x => unfold zgY2 at c; rw [c1] at c; nomatch c
      | inr e1 => exact ⟨e1, rfl⟩
    obtain ⟨e1', c1⟩ := c1
    rw [zwe_l v2 c, zwe_l v1 c1]
    exact ⟨rfl, rfl⟩
  have e5 : zbhs B n (zwe (zgY2 B n e)) zo_by 1 (zvl (zgY2 B n e) - zvl (zgY1 B n e)) = zgY3 B n e := rfl
  rw [e5] at x5 v5
  refine m_lay hsl hm (by decide) h0 (z4.trans (zPmt_z h5)) (fun M6 z6 f6 g6 => ?_)
  refine m_tds hsl hn (X := zwe (zgY3 B n e)) (lo := zvl (zgY1 B n e)) (hi := zvl (zgY2 B n e)) (wf f6 x5) zo_135 (by decide) (fun e3 c => ?_) (fun r4 M7 h7 x7 v7 b7 => ?_)
  · have c2 : ∃ e1, zwe (zgY2 B n e) = .inr e1 := by
      cases c1 : zwe (zgY2 B n e) with
      | inl x => unfold zgY3 at c; rw [c1] at c; nomatch c
      | inr e1 => exact ⟨e1, rfl⟩
    obtain ⟨e2', c2⟩ := c2
    have c1 : ∃ e1, zwe (zgY1 B n e) = .inr e1 := by
      cases c1 : zwe (zgY1 B n e) with
      | inl x => unfold zgY2 at c2; rw [c1] at c2; nomatch c2
      | inr e1 => exact ⟨e1, rfl⟩
    obtain ⟨e1', c1⟩ := c1
    rw [zwe_l v2 c2, zwe_l v1 c1]
    exact ⟨rfl, rfl⟩
  have e7 : zbhs B n (zwe (zgY3 B n e)) zo_at (zvl (zgY1 B n e)) (zvl (zgY2 B n e)) = zgY4 B n e := rfl
  rw [e7] at x7 v7
  refine m_lay hsl hm (by decide) h0 (z6.trans (zPmt_z h7)) (fun M8 z8 f8 g8 => ?_)
  have x8 := wf f8 x7
  -- what lies there so far
  have m0 : ∀ k, k = 0 ∨ k = 6 → M8 160 (7 * (m : Int) + k) = M 160 (7 * (m : Int) + k) := fun k hk => by
    rw [f8 _ _ (by omega), up h7, f6 _ _ (by omega), up h5, f4 _ _ (by omega), f3 _ _ (by omega), up h2, up h1]
  have m1 : M8 160 (7 * (m : Int) + 1) = r1 := by rw [f8 _ _ (by omega), up h7, f6 _ _ (by omega), up h5, f4 _ _ (by omega)]; exact g3
  have m2 : M8 160 (7 * (m : Int) + 2) = r2 := by rw [f8 _ _ (by omega), up h7, f6 _ _ (by omega), up h5]; exact g4
  have m3 : M8 160 (7 * (m : Int) + 3) = r3 := by rw [f8 _ _ (by omega), up h7]; exact g6
  have ex : ∀ {e4 : Nat}, zwe (zgY4 B n e) = .inr e4 → r1 = zvl (zgY1 B n e) ∧ r2 = zvl (zgY2 B n e) ∧ r3 = zvl (zgY3 B n e) ∧ r4 = zvl (zgY4 B n e) := fun {e4} c4 => by
    have c3 : ∃ e1, zwe (zgY3 B n e) = .inr e1 := by
      cases c1 : zwe (zgY3 B n e) with
      | inl x => unfold zgY4 at c4; rw [c1] at c4; nomatch c4
      | inr e1 => exact ⟨e1, rfl⟩
    obtain ⟨e3', c3⟩ := c3
    have c2 : ∃ e1, zwe (zgY2 B n e) = .inr e1 := by
      cases c1 : zwe (zgY2 B n e) with
      | inl x => unfold zgY3 at c3; rw [c1] at c3; nomatch c3
      | inr e1 => exact ⟨e1, rfl⟩
    obtain ⟨e2', c2⟩ := c2
    have c1 : ∃ e1, zwe (zgY1 B n e) = .inr e1 := by
      cases c1 : zwe (zgY1 B n e) with
      | inl x => unfold zgY2 at c2; rw [c1] at c2; nomatch c2
      | inr e1 => exact ⟨e1, rfl⟩
    obtain ⟨e1', c1⟩ := c1
    exact ⟨zwe_l v1 c1, zwe_l v2 c2, zwe_l v5 c3, zwe_l v7 c4⟩
  unfold zgY5 at q
  cases c4 : zwe (zgY4 B n e) with
  | inl x =>
    rw [c4] at q x8
    have hb : ¬ M8 125 5 = 0 := by rw [x8.1.1]; exact x8.2
    refine m_takesF (h := h + 2) hsl hb ⟨fun y => absurd rfl y, fun _ => m_asksF (h := h + 3) hsl hb (B_Md_zigTold_93 hsl ⟨fun _ => m_lay hsl hm (by decide) h0 z8 (fun M9 z9 f9 g9 => ?_), fun y => absurd rfl y⟩)⟩
    exact q M9 z9 (wf f9 x8) (fun e' v y => by nomatch y) (fun k hk => by rw [f9 _ _ (by omega)]; exact m0 k hk)
  | inr e4 =>
    have ee := ex c4
    rw [c4] at q x8
    unfold zupd at q
    rw [zbd_ok] at q
    have fin : ∀ (v : Int) (M9 : zM) e', zSm zPmt M8 M9 → zMd B n e' M9 → e' ≤ n → (if zwrd B n e4 zo_up = true then (.inr (zto B n e4, 1) : zRs (Nat × Int)) else if zwrd B n e4 zo_down = true then .inr (zto B n e4, 0) else .inl (1, (zfr B n e4 : Nat))) = .inr (e', v) → zCt G (h + 4) sl 0 0 y_Md_laid [(2, 125), (0, 5), (0, v)] M9 (fun r3 M4 => Q 0 M4) := fun v M9 e' h9 g9 he' ez => by
      rw [ez] at q
      refine m_lay hsl hm (by decide) h0 (z8.trans (zPmt_z h9)) (fun M10 z10 f10 g10 => ?_)
      refine q M10 z10 ⟨he', g9.fr (fun a j p => f10 a j (by omega))⟩ (fun e2 v2 y => ?_) (fun k hk => by rw [f10 _ _ (by omega), up h9]; exact m0 k hk)
      injection y with y; injection y with y1 y2
      rw [f10 160 _ (by omega), f10 160 (7 * (m : Int) + 2) (by omega), f10 160 (7 * (m : Int) + 3) (by omega), f10 160 (7 * (m : Int) + 4) (by omega), up h9, up h9, up h9, up h9, m1, m2, m3, g8, g10]
      exact ⟨ee.1, ee.2.1, ee.2.2.1, ee.2.2.2, y2⟩
    refine m_takes (h := h + 2) hsl hn x8.1 x8.2 zo_136 (by decide) (fun cu M9 h9 g9 => ⟨fun _ => B_Md_zigTold_93 hsl ⟨fun y => absurd y (by decide), fun _ => fin 1 M9 _ h9 g9 (zto_b x8.1).2.1 (by rw [if_pos cu])⟩, fun y => absurd (by decide) y⟩) (fun cu M9 h9 g9 => ⟨fun y => absurd rfl y, fun _ => m_asks (h := h + 1) hsl hn x8.1 g9.1 zo_137 (by decide) (fun cd M10 h10 g10 => B_Md_zigTold_93 hsl ⟨fun _ => fin 0 M10 _ (h9.trans h10) g10 (zto_b x8.1).2.1 (by rw [if_neg cu, if_pos cd]), fun y => absurd rfl y⟩) (fun cd M10 h10 x10 => B_Md_zigTold_93 hsl ⟨fun _ => m_lay hsl hm (by decide) h0 (z8.trans (zPmt_z (h9.trans h10))) (fun M11 z11 f11 g11 => ?_), fun y => absurd rfl y⟩)⟩)
    rw [if_neg cu, if_neg cd] at q
    exact q M11 z11 ⟨x10.fr (f11 _ _ (by omega)) (f11 _ _ (by omega)), show (1 : Int) ≠ 0 by decide⟩ (fun e' v y => by nomatch y) (fun k hk => by rw [f11 _ _ (by omega), up (h9.trans h10)]; exact m0 k hk)
