/-! NAMES: told once; a word and a number. -/
theorem m_newL {G : zG} {h sl : Nat} (hsl : 2 ≤ sl) {m : Nat} {v : Int} {Q : Int → zM → Prop} (hm : m ≤ 8) : ∀ (d i : Nat) (M : zM) u, d + i = m → M 158 0 = (m : Int) → ¬ M 125 5 = 0 → Q v M → zX G (y_Md_newName, h + 1, sl) u 7 [(0, (2, 125)), (1, (1, v)), (3, (0, (i : Int)))] [] M Q
  | 0, i, M, u, ei, h0, hb, q => B_Md_newName_7 hsl ⟨fun _ => q, fun y => absurd (by rw [h0]; omega) y⟩
  | d + 1, i, M, u, ei, h0, hb, q => by
    have := m_newL (G := G) (h := h) hsl hm d (i + 1) M u (by omega) h0 hb q
    rw [zcs] at this
    exact B_Md_newName_7 hsl ⟨fun _ => q, fun _ => ⟨fun _ => ⟨by unfold zI; omega, this⟩, fun y => absurd hb y⟩⟩
theorem m_newName {G : zG} {h sl : Nat} (hsl : 2 ≤ sl) {T : zTb} {m : Nat} {B : Int → Int} {n e : Nat} {M : zM} {Q : Int → zM → Prop} (hn : n ≤ 1600) (hm : m ≤ 8) (he : e ≤ n) (hx : zMd B n e M) (hN : zNn T m M) (qo : ∀ e', znam T m B n e = .inr e' → ∀ M', zSm zPmt M M' → zMd B n e' M' → Q (zn27 (zltr B n e) (zto B n e - zfr B n e)) M') (qn : ∀ f p, znam T m B n e = .inl (f, p) → ∀ r M', zSm zPmt M M' → zMF f p M' → Q r M') : zCt G (h + 4) sl 0 0 y_Md_newName [(2, 125)] M Q := by
  unfold znam at qo qn
  have n0 : ∀ {M' : zM}, zSm zPmt M M' → M' 158 0 = (m : Int) := fun hh => by rw [hh _ _ (by unfold zPmt; omega)]; exact hN.1
  refine E_Md_newName hsl (m_name hsl hn he hx (fun k1 co k6 M1 h1 g1 e41 => ?_) (fun c M1 h1 x1 => ?_) (fun k1 co k6 M1 h1 x1 => ?_))
  · rw [if_pos ⟨k1, co⟩, if_neg (by omega)] at qo qn
    unfold zcnm at qo qn
    rw [if_pos k1] at qo qn
    have lp : ∀ (d i : Nat) u, d + i = m → zcnd T B n e m 0 = zcnd T B n e d i → zX G (y_Md_newName, h + 3 + 1, sl) u 7 [(0, (2, 125)), (1, (1, zn27 (zltr B n e) (zto B n e - zfr B n e))), (3, (0, (i : Int)))] [] M1 Q := by
      intro d
      induction d with
      | zero =>
        intro i u ei ez
        refine B_Md_newName_7 hsl ⟨fun _ => qo (zto B n e) ?_ M1 h1 g1, fun y => absurd (by rw [n0 h1]; omega) y⟩
        rw [ez]
        rfl
      | succ d ih =>
        intro i u ei ez
        have hz := zmt_27 k1 k6 (hN.2 i (by omega) (by omega))
        have e159 : M1 159 (i : Int) = M 159 (i : Int) := h1 _ _ (by unfold zPmt; omega)
        rw [← e159] at hz
        refine B_Md_newName_7 hsl ⟨fun y => absurd y (by rw [n0 h1]; omega), fun _ => ⟨fun y => absurd g1.1.2.2 y, fun _ => ⟨by omega, fun g => ⟨by unfold zI; omega, ?_⟩, fun g => ?_⟩⟩⟩
        · have := ih (i + 1) u (by omega) (by rw [ez]; show (if _ then _ else _) = _; rw [if_neg (fun y => g (hz.1 y)), zcs])
          rw [zcs] at this
          exact this
        · have hz2 := hz.2 (Classical.byContradiction g)
          have ez2 : zcnd T B n e m 0 = i := by rw [ez]; show (if _ then _ else _) = _; rw [if_pos hz2]
          rw [ez2, if_neg (by omega)] at qn
          rw [e41]
          refine m_fail0 hsl g1.1.2.2 (fun M2 h2 x2 => ⟨by unfold zI; omega, ?_⟩)
          have := m_newL (G := G) (h := h + 3) (v := zn27 (zltr B n e) (zto B n e - zfr B n e)) hsl hm d (i + 1) M2 u (by omega) (n0 (h1.trans h2)) (by rw [x2.1]; decide) (qn _ _ rfl _ M2 (h1.trans h2) x2)
          rw [zcs] at this
          exact this
    exact lp m 0 _ (by omega) rfl
  · rw [if_neg c] at qn
    exact m_newL (h := h + 3) hsl hm m 0 M1 _ (by omega) (n0 h1) (by rw [x1.1]; decide) (qn _ _ rfl _ M1 h1 x1)
  · rw [if_pos ⟨k1, co⟩, if_pos k6] at qn
    exact m_newL (h := h + 3) hsl hm m 0 M1 _ (by omega) (n0 h1) (by rw [x1.1]; decide) (qn _ _ rfl _ M1 h1 x1)
/-- a word, and a number behind it -/
def zbeh (B : Int → Int) (n e : Nat) (w : List Int) (lo hi : Int) : zRs (Nat × Int) := if zwrd B n e w = true then znum B n (zto B n e) lo hi else .inl (1, (zfr B n e : Nat))
theorem zbeh_ok {B : Int → Int} {n e : Nat} {w : List Int} {lo hi : Int} {e' : Nat} {v : Int} (he : e ≤ n) (h : zbeh B n e w lo hi = .inr (e', v)) : e + 2 ≤ e' ∧ e' ≤ n ∧ lo ≤ v ∧ v ≤ hi ∧ 0 ≤ v ∧ v ≤ 9999 := by
  unfold zbeh at h
  by_cases c : zwrd B n e w = true
  · rw [if_pos c] at h
    have a := zwrd_e he c
    have b := znum_ok h
    have hb := zto_b (B := B) a.2
    have hz := hb.2.2 (by rw [← zkd_rk (by omega)]; omega)
    have hfl := zfr_le B n (zto B n e)
    have b2 := b.2.1
    exact ⟨by omega, by omega, b.2.2.1, b.2.2.2.1, b.2.2.2.2.1, b.2.2.2.2.2⟩
  · rw [if_neg c] at h; nomatch h
theorem zbeh_nz {B : Int → Int} {n e : Nat} {w : List Int} {lo hi f p : Int} (h : zbeh B n e w lo hi = .inl (f, p)) : f ≠ 0 := by
  unfold zbeh at h
  by_cases c : zwrd B n e w = true
  · rw [if_pos c] at h; exact znum_no h
  · rw [if_neg c] at h; exact zinl_nz h (by decide)
theorem c_numberBehind {G : zG} {h sl : Nat} (hsl : 1 ≤ sl) {B : Int → Int} {n e : Nat} {r lo hi : Int} {w : List Int} {M : zM} {Q : Int → zM → Prop} (hn : n ≤ 1600) (he : e ≤ n) (hr : zRd B n e M) (hw : zWr r w) (qo : ∀ e' v, zbeh B n e w lo hi = .inr (e', v) → ∀ M', zSm zPrs M M' → zRd B n e' M' → Q v M') (qn : ∀ f p, zbeh B n e w lo hi = .inl (f, p) → ∀ M', zSm zPrs M M' → zRF f p M' → Q (-1) M') : zCt G (h + 6) sl 0 0 y_Reader_numberBehind [(2, 72), (2, r), (0, lo), (0, hi)] M Q := by
  unfold zbeh at qo qn
  refine E_Reader_numberBehind hsl ⟨fun y => absurd hr.1.2.2 y, fun _ => c_takeW hsl hn he hr hw (fun c M1 h1 g1 => ⟨fun _ => ?_, fun y => absurd (by decide) y⟩) (fun c M1 h1 a1 => ⟨fun y => absurd rfl y, fun _ => ?_⟩)⟩
  · rw [if_pos c] at qo qn
    exact c_number (h := h + 3) hsl hn (zto_b he).2.1 g1 (fun e' v hz M2 h2 g2 => qo e' v hz M2 (h1.trans h2) g2) (fun f p hz M2 h2 a2 => qn f p hz M2 (h1.trans h2) a2)
  · rw [if_neg c] at qn
    exact qn _ _ rfl M1 h1 a1
theorem c_numberBehindF {G : zG} {h sl : Nat} (hsl : 1 ≤ sl) {r lo hi : Int} {M : zM} {Q : Int → zM → Prop} (hf : ¬ M 72 3 = 0) (q : Q (-1) M) : zCt G (h + 1) sl 0 0 y_Reader_numberBehind [(2, 72), (2, r), (0, lo), (0, hi)] M Q :=
  E_Reader_numberBehind hsl ⟨fun _ => q, fun y => absurd hf y⟩
theorem m_told {G : zG} {h sl : Nat} (hsl : 2 ≤ sl) {B : Int → Int} {n e : Nat} {o lo hi : Int} {w : List Int} {M : zM} {Q : Int → zM → Prop} (hn : n ≤ 1600) (he : e ≤ n) (hx : zMd B n e M) (hw : zWo o w) (hw6 : w.length ≤ 6) (qo : ∀ e' v, zbeh B n e w lo hi = .inr (e', v) → ∀ M', zSm zPmt M M' → zMd B n e' M' → Q v M') (qn : ∀ f p, zbeh B n e w lo hi = .inl (f, p) → ∀ r M', 0 ≤ r → r ≤ 9999 → zSm zPmt M M' → zMF f p M' → Q r M') : zCt G (h + 4) sl 0 0 y_Md_told [(2, 125), (2, o), (0, lo), (0, hi)] M Q := by
  unfold zbeh at qo qn
  refine E_Md_told hsl (m_asks hsl hn he hx hw hw6 (fun c M1 h1 g1 => ?_) (fun c M1 h1 x1 => ?_))
  · rw [if_pos c] at qo qn
    exact m_number (h := h + 2) hsl hn (zto_b he).2.1 g1 (fun e' v hz M2 h2 g2 => qo e' v hz M2 (h1.trans h2) g2) (fun f p hz r M2 r0 r9 h2 x2 => qn f p hz r M2 r0 r9 (h1.trans h2) x2)
  · rw [if_neg c] at qn
    exact E_Md_number hsl ⟨fun y => absurd y (by rw [x1.1]; decide), fun _ => qn _ _ rfl 0 M1 (by decide) (by decide) h1 x1⟩
theorem m_toldF {G : zG} {h sl : Nat} (hsl : 2 ≤ sl) {o lo hi : Int} {M : zM} {Q : Int → zM → Prop} (hb : ¬ M 125 5 = 0) (q : Q 0 M) : zCt G (h + 2) sl 0 0 y_Md_told [(2, 125), (2, o), (0, lo), (0, hi)] M Q :=
  E_Md_told hsl (m_asksF hsl hb (E_Md_number hsl ⟨fun y => absurd y hb, fun _ => q⟩))
theorem m_laid {G : zG} {h sl : Nat} (hsl : 2 ≤ sl) {k v : Int} {m : Nat} {M : zM} {Q : Int → zM → Prop} (hm : m ≤ 8) (hk : 0 ≤ k ∧ k < 7) (h0 : M 158 0 = (m : Int)) (q : Q 0 (zwr M 160 (7 * (m : Int) + k) v)) : zCt G h sl 0 0 y_Md_laid [(2, 125), (0, k), (0, v)] M Q := by
  refine E_Md_laid hsl ?_
  rw [h0]
  exact ⟨by unfold zI; omega, by unfold zI; omega, by omega, q⟩
