/-! PARSER: a fault, or what was read; numbers. -/
abbrev zRs (α : Type) : Type := Sum (Int × Int) α
def zbd {α β : Type} : zRs α → (α → zRs β) → zRs β
  | .inl x, _ => .inl x
  | .inr x, g => g x
theorem zbd_no {α β : Type} {x : Int × Int} (g : α → zRs β) : zbd (.inl x) g = .inl x := rfl
theorem zbd_ok {α β : Type} {x : α} (g : α → zRs β) : zbd (.inr x) g = g x := rfl
def zdg (B : Int → Int) (a : Int) : Nat → Int
  | 0 => 0
  | d + 1 => 10 * zdg B a d + B (a + d) - 48
def znum (B : Int → Int) (n e : Nat) (lo hi : Int) : zRs (Nat × Int) :=
  if ¬ zkd B n e = 2 then .inl (1, (zfr B n e : Nat))
  else if 4 < zto B n e - zfr B n e then .inl (1, (zfr B n e : Nat) + 4)
  else if zdg B (zfr B n e : Nat) (zto B n e - zfr B n e) < lo ∨ hi < zdg B (zfr B n e : Nat) (zto B n e - zfr B n e) then .inl (2, (zfr B n e : Nat))
  else .inr (zto B n e, zdg B (zfr B n e : Nat) (zto B n e - zfr B n e))
theorem zdg_in {B : Int → Int} {a : Int} {m : Nat} (hk : ∀ j : Nat, j < m → 48 ≤ B (a + j) ∧ B (a + j) ≤ 57) : ∀ d, d ≤ m → 0 ≤ zdg B a d ∧ zdg B a d < 10 ^ d
  | 0, _ => by simp [zdg]
  | d + 1, h => by
    have ih := zdg_in hk d (by omega)
    have h2 := hk d (by omega)
    unfold zdg
    rw [Int.pow_succ]
    omega
theorem zdg_4 {B : Int → Int} {a : Int} {m : Nat} (hk : ∀ j : Nat, j < m → 48 ≤ B (a + j) ∧ B (a + j) ≤ 57) (d : Nat) (hd : d ≤ m) (h4 : d ≤ 4) : 0 ≤ zdg B a d ∧ zdg B a d ≤ 9999 := by
  have h := zdg_in hk d hd
  refine ⟨h.1, ?_⟩
  have e := h.2
  rcases (by omega : d = 0 ∨ d = 1 ∨ d = 2 ∨ d = 3 ∨ d = 4) with rfl | rfl | rfl | rfl | rfl
  all_goals (simp only [Int.reducePow] at e; omega)
/-- the digits of a number -/
theorem zkd_dg {B : Int → Int} {n e : Nat} (hk : zkd B n e = 2) : zto B n e = zru B n 2 (zfr B n e) ∧ zfr B n e < zto B n e ∧ ∀ j : Nat, j < zto B n e - zfr B n e → 48 ≤ B ((zfr B n e : Nat) + (j : Int)) ∧ B ((zfr B n e : Nat) + (j : Int)) ≤ 57 := by
  have c : zrk B n e = 2 := by rw [← zkd_rk (by omega)]; exact hk
  have hl := zrk_lt (B := B) (n := n) (e := e) (by omega)
  have h1 : zkdo (B (zfr B n e : Nat)) = 2 := by unfold zrk at c; rw [if_pos hl] at c; exact c
  have et : zto B n e = zru B n 2 (zfr B n e) := by
    unfold zto
    rw [if_neg (by omega), if_neg (by omega), c, zru_1 (e := zfr B n e) ⟨hl, h1⟩]
  have et2 : zto B n e = zru B n 2 (zfr B n e + 1) := by
    unfold zto
    rw [if_neg (by omega), if_neg (by omega), c]
  have hle := zru_le B n 2 (zfr B n e + 1)
  refine ⟨et, by omega, fun j hj => ?_⟩
  have := zru_k (B := B) (n := n) (e := zfr B n e) (k := 2) (a := zfr B n e + j) (by omega) (by omega)
  rw [zkdo_2, show ((zfr B n e + j : Nat) : Int) = ((zfr B n e : Nat) : Int) + (j : Int) from by omega] at this
  exact this
theorem znum_ok {B : Int → Int} {n e : Nat} {lo hi : Int} {e' : Nat} {v : Int} (h : znum B n e lo hi = .inr (e', v)) : zkd B n e = 2 ∧ e' = zto B n e ∧ lo ≤ v ∧ v ≤ hi ∧ 0 ≤ v ∧ v ≤ 9999 := by
  unfold znum at h
  by_cases c1 : ¬ zkd B n e = 2
  · rw [if_pos c1] at h; nomatch h
  · rw [if_neg c1] at h
    have k2 : zkd B n e = 2 := Classical.byContradiction c1
    by_cases c2 : 4 < zto B n e - zfr B n e
    · rw [if_pos c2] at h; nomatch h
    · rw [if_neg c2] at h
      have h4 := zdg_4 (zkd_dg k2).2.2 (zto B n e - zfr B n e) (Nat.le_refl _) (by omega)
      by_cases c3 : zdg B (zfr B n e : Nat) (zto B n e - zfr B n e) < lo ∨ hi < zdg B (zfr B n e : Nat) (zto B n e - zfr B n e)
      · rw [if_pos c3] at h; nomatch h
      · rw [if_neg c3] at h
        injection h with h
        injection h with h5 h6
        subst h6
        exact ⟨k2, h5.symm, by omega, by omega, h4.1, h4.2⟩
theorem c_number {G : zG} {h sl : Nat} (hsl : 1 ≤ sl) {B : Int → Int} {n e : Nat} {lo hi : Int} {M : zM} {Q : Int → zM → Prop} (hn : n ≤ 1600) (he : e ≤ n) (hr : zRd B n e M) (qo : ∀ e' v, znum B n e lo hi = .inr (e', v) → ∀ M', zSm zPrs M M' → zRd B n e' M' → Q v M') (qn : ∀ f p, znum B n e lo hi = .inl (f, p) → ∀ M', zSm zPrs M M' → zRF f p M' → Q (-1) M') : zCt G (h + 2) sl 0 0 y_Reader_number [(2, 72), (0, lo), (0, hi)] M Q := by
  have hb := zto_b (B := B) he
  unfold znum at qo qn
  refine E_Reader_number hsl ⟨fun g => ?_, fun g => ?_⟩
  · rw [hr.2.2.1] at g
    rw [if_neg (fun y => y g)] at qo qn
    have hd := zkd_dg g
    rw [hr.2.1, hr.2.2.2]
    refine ⟨by unfold zI; omega, fun g2 => ?_, fun g2 => ⟨by unfold zI; omega, c_refuse0 hsl hr.1.2.2 (qn _ _ ?_)⟩⟩
    · rw [if_neg (by omega)] at qo qn
      have lp : ∀ (d k : Nat) u, d + k = zto B n e - zfr B n e → zX G (y_Reader_number, h + 1 + 1, sl) u 50 [(0, (2, 72)), (1, (0, lo)), (2, (0, hi)), (3, (0, zdg B (zfr B n e : Nat) k)), (4, (0, ((zfr B n e : Nat) : Int) + (k : Int)))] [] M Q := by
        intro d
        induction d with
        | zero =>
          intro k u ek
          have hek : k = zto B n e - zfr B n e := by omega
          subst hek
          have bad : ∀ u, (zdg B (zfr B n e : Nat) (zto B n e - zfr B n e) < lo ∨ hi < zdg B (zfr B n e : Nat) (zto B n e - zfr B n e)) → zX G (y_Reader_number, h + 1 + 1, sl) u 94 [(0, (2, 72))] [] M Q := fun u c => by
            rw [if_pos c] at qn
            refine B_Reader_number_94 hsl ?_
            rw [hr.2.1]
            exact c_refuse0 hsl hr.1.2.2 (qn _ _ rfl)
          refine B_Reader_number_50 hsl ⟨fun _ => ⟨fun g3 => bad u (Or.inl g3), fun g3 => ⟨fun g4 => ?_, fun g4 => bad u (Or.inr (by omega))⟩⟩, fun g3 => absurd (by rw [hr.2.2.2]; omega) g3⟩
          rw [if_neg (by omega)] at qo
          exact c_taken hsl hn he hr (qo _ _ rfl)
        | succ d ih =>
          intro k u ek
          have h4 := zdg_4 hd.2.2 k (by omega) (by omega)
          have hk := hd.2.2 k (by omega)
          refine B_Reader_number_50 hsl ⟨fun g3 => absurd g3 (by rw [hr.2.2.2]; omega), fun _ => ?_⟩
          rw [hr.1.2.1 _ (by omega) (by omega)]
          refine ⟨by unfold zI; omega, by omega, by unfold zI; omega, by unfold zI; omega, by unfold zI; omega, ?_⟩
          have := ih (k + 1) u (by omega)
          rw [show zdg B (zfr B n e : Nat) (k + 1) = zdg B (zfr B n e : Nat) k * 10 + B ((zfr B n e : Nat) + (k : Int)) - 48 from by show 10 * _ + _ - 48 = _; omega, show ((zfr B n e : Nat) : Int) + ((k + 1 : Nat) : Int) = ((zfr B n e : Nat) : Int) + (k : Int) + 1 from by omega] at this
          exact this
      have := lp (zto B n e - zfr B n e) 0 (0, 0, 0, 0) (by omega)
      rw [show ((zfr B n e : Nat) : Int) + ((0 : Nat) : Int) = ((zfr B n e : Nat) : Int) from by omega] at this
      exact this
    · rw [if_pos (by omega)]
  · rw [hr.2.2.1] at g
    rw [if_pos g] at qo qn
    exact c_unfit0 hsl hr (qn _ _ rfl)
theorem m_number {G : zG} {h sl : Nat} (hsl : 2 ≤ sl) {B : Int → Int} {n e : Nat} {lo hi : Int} {M : zM} {Q : Int → zM → Prop} (hn : n ≤ 1600) (he : e ≤ n) (hx : zMd B n e M) (qo : ∀ e' v, znum B n e lo hi = .inr (e', v) → ∀ M', zSm zPmt M M' → zMd B n e' M' → Q v M') (qn : ∀ f p, znum B n e lo hi = .inl (f, p) → ∀ r M', 0 ≤ r → r ≤ 9999 → zSm zPmt M M' → zMF f p M' → Q r M') : zCt G (h + 1) sl 0 0 y_Md_number [(2, 125), (0, lo), (0, hi)] M Q := by
  have hb := zto_b (B := B) he
  have hf := zfr_n (B := B) he
  unfold znum at qo qn
  have z9 : (0 : Int) ≤ 9999 := by decide
  refine E_Md_number hsl ⟨fun _ => m_look hsl hn he hx (fun M2 hM2 h2 => ?_), fun g => absurd hx.1.2.2 g⟩
  have bad1 : ∀ u, ¬ zkd B n e = 2 → zX G (y_Md_number, h + 1, sl) u 30 [(0, (2, 125))] [] M2 Q := fun u c => by
    rw [if_pos c] at qn
    refine B_Md_number_30 hsl ?_
    rw [h2.2]
    exact m_fail0 hsl h2.1.1.2.2 (fun M3 hM3 h3 => qn _ _ rfl 0 M3 (Int.le_refl _) z9 ((zPwl_mt hM2).trans hM3) h3)
  refine m_isDigit hsl (fun c => ⟨fun y => absurd y (by decide), fun _ => ?_⟩) (fun c => ⟨fun _ => bad1 _ ?_, fun y => absurd rfl y⟩)
  · rw [zlk_k (Or.inr rfl)] at c
    rw [h2.gl (Or.inr c)]
    refine ⟨fun g => ?_, fun g => bad1 _ (by have : zkd B n e = 4 := Classical.byContradiction g; omega)⟩
    have k2 : zkd B n e = 2 := by rw [zkd_rk g]; exact c
    have hd := zkd_dg k2
    rw [if_neg (fun y => y k2)] at qo qn
    rw [h2.2]
    -- the digits, from the k-th on
    have lp : ∀ (d k : Nat) (M3 : zM) u, n ≤ d + (zfr B n e + k) → k ≤ 4 → zfr B n e + k ≤ zto B n e → zSm zPmt M M3 → zMx B n M3 → M3 125 2 = ((zfr B n e : Nat) : Int) + (k : Int) → zX G (y_Md_number, h + 1, sl) u 49 [(0, (2, 125)), (1, (0, lo)), (2, (0, hi)), (3, (0, (zfr B n e : Nat))), (4, (0, zdg B (zfr B n e : Nat) k))] [] M3 Q := by
      -- the run is over
      have fin : ∀ (k : Nat) (M3 : zM) u, k ≤ 4 → zfr B n e + k = zto B n e → zSm zPmt M M3 → zMx B n M3 → M3 125 2 = ((zfr B n e : Nat) : Int) + (k : Int) → zX G (y_Md_number, h + 1, sl) u 129 [(0, (2, 125)), (1, (0, lo)), (2, (0, hi)), (3, (0, (zfr B n e : Nat))), (4, (0, zdg B (zfr B n e : Nat) k))] [] M3 Q := fun k M3 u k4 ek hM3 hx3 e3 => by
        have hek : k = zto B n e - zfr B n e := by omega
        have h4 := zdg_4 hd.2.2 k (by omega) k4
        rw [if_neg (by omega), ← hek] at qo qn
        have s4 : zSm zPmt M (zwr (zwr M3 125 4 (M3 125 2)) 125 10 (zfr B n e : Nat)) := (hM3.wr ⟨rfl, by decide⟩).wr ⟨rfl, by decide⟩
        have f4 : ∀ a k, a = 126 ∨ a = 125 ∧ (k = 3 ∨ k = 5 ∨ k = 6) → (zwr (zwr M3 125 4 (M3 125 2)) 125 10 (zfr B n e : Nat)) a k = M3 a k := fun a k p => by rw [zwr_i, if_neg (by omega), zwr_i, if_neg (by omega)]
        refine B_Md_number_129 hsl (c_isIn hsl (fun g1 g2 => ⟨fun _ => ?_, fun y => absurd (by decide) y⟩) (fun g1 => ⟨fun y => absurd rfl y, fun _ => ?_⟩))
        · rw [if_neg (by omega)] at qo
          exact qo _ _ rfl _ s4 (zMd.tk (x := M3 125 2) hx3 (Or.inr c) f4 (by rw [zwr_k _ (by decide), zwr_k _ (by decide)]) (by rw [zwr_k _ (by decide), zwr_s]) (by omega))
        · rw [if_pos (by omega)] at qn
          rw [zwr_s]
          exact m_fail0 hsl (hx3.fr f4).2.2 (fun M5 hM5 h5 => qn _ _ rfl _ M5 h4.1 h4.2 (s4.trans hM5) h5)
      intro d
      induction d with
      | zero =>
        intro k M3 u hdn k4 ek hM3 hx3 e3
        exact B_Md_number_49 hsl ⟨fun _ => fin k M3 u k4 (by omega) hM3 hx3 e3, fun g3 => absurd (by rw [hx3.1.1]; omega) g3⟩
      | succ d ih =>
        intro k M3 u hdn k4 ek hM3 hx3 e3
        have hzr : zru B n 2 (zfr B n e + k) = zto B n e := by rw [hd.1]; exact zru_mid (by omega) (by omega)
        refine B_Md_number_49 hsl ?_
        rw [hx3.1.1, e3]
        refine ⟨fun g3 => fin k M3 u k4 (by omega) hM3 hx3 e3, fun g3 => ⟨by omega, ?_⟩⟩
        rw [hx3.2.1 _ (by omega) (by omega)]
        refine m_isDigit hsl (fun c2 => ⟨fun y => absurd y (by decide), fun _ => ⟨by unfold zI; omega, fun g4 => ?_, fun g4 => ?_⟩⟩) (fun c2 => ⟨fun _ => fin k M3 u k4 ?_ hM3 hx3 e3, fun y => absurd rfl y⟩)
        · rw [e3] at g4
          have e5 := zru_1 (B := B) (n := n) (e := zfr B n e + k) (k := 2) ⟨by omega, by rw [show ((zfr B n e + k : Nat) : Int) = ((zfr B n e : Nat) : Int) + (k : Int) from by omega]; exact c2⟩
          have e6 := zru_le B n 2 (zfr B n e + k + 1)
          have h4 := zdg_4 hd.2.2 k (by omega) k4
          have hk := hd.2.2 k (by omega)
          rw [e3]
          rw [hx3.2.1 _ (by omega) (by omega)]
          refine ⟨by unfold zI; omega, by omega, by unfold zI; omega, by unfold zI; omega, by unfold zI; omega, ?_⟩
          have := ih (k + 1) (zwr M3 125 2 (((zfr B n e : Nat) : Int) + (k : Int) + 1)) u (by omega) (by omega) (by omega) (hM3.wr ⟨rfl, by decide⟩) (hx3.fr (fun a k p => by rw [zwr_i, if_neg (by omega)])) (by rw [zwr_s]; omega)
          exact this
        · rw [e3] at g4
          have e5 := zru_1 (B := B) (n := n) (e := zfr B n e + k) (k := 2) ⟨by omega, by rw [show ((zfr B n e + k : Nat) : Int) = ((zfr B n e : Nat) : Int) + (k : Int) from by omega]; exact c2⟩
          have e6 := zru_le B n 2 (zfr B n e + k + 1)
          rw [if_pos (by omega)] at qn
          rw [e3, show ((zfr B n e : Nat) : Int) + (k : Int) = ((zfr B n e : Nat) : Int) + 4 from by omega]
          exact m_fail0 hsl hx3.2.2 (fun M5 hM5 h5 => qn _ _ rfl _ M5 (Int.le_refl _) z9 (hM3.trans hM5) h5)
        · rw [zru_0 (fun y => c2 (by have := y.2; rw [show ((zfr B n e + k : Nat) : Int) = ((zfr B n e : Nat) : Int) + (k : Int) from by omega] at this; exact this))] at hzr
          exact hzr
    exact lp n 0 M2 _ (by omega) (by omega) (by omega) (zPwl_mt hM2) h2.1.1 (by rw [h2.2]; omega)
  · rw [zlk_k (Or.inr rfl)] at c
    intro y
    exact c (by rw [← zkd_rk (by omega)]; exact y)
