/-! NAMES: a new one. -/
def znam (T : zTb) (m : Nat) (B : Int → Int) (n e : Nat) : zRs Nat :=
  if zkd B n e = 1 ∧ ¬ zown B n e = true then
    (if 6 < zto B n e - zfr B n e then .inl (1, (zfr B n e : Nat) + 6) else if zcnm T m B n e = -1 then .inr (zto B n e) else .inl (3, (zfr B n e : Nat)))
  else .inl (1, (zfr B n e : Nat))
def zPnm (l : Int) : Int → Int → Prop := fun a k => a = 72 ∧ (k = 3 ∨ k = 4 ∨ 9 ≤ k ∧ k ≤ 11) ∨ a = l + 1
theorem zPrs_nm {M M' : zM} {l : Int} (h : zSm zPrs M M') : zSm (zPnm l) M M' := h.mono (fun a k p => Or.inl p)
theorem c_name67 {G : zG} {h sl : Nat} (hsl : 1 ≤ sl) {B : Int → Int} {n e : Nat} {l : Int} {M0 : zM} {Q : Int → zM → Prop} (hn : n ≤ 1600) (he : e ≤ n) (hk : zkd B n e = 1) (hl : zK l = (1, 0)) (hl7 : 73 ≤ l + 1) (q : ∀ M', zSm (zPnm l) M0 M' → zRd B n (zto B n e) M' → (∀ k : Nat, k < 6 → M' (l + 1) (k : Int) = zwl B n e k) → Q 1 M') :
    ∀ (d k : Nat) (M : zM) u, d + k = 6 → zSm (zPnm l) M0 M → zRd B n e M → (∀ j : Nat, j < k → M (l + 1) (j : Int) = zwl B n e j) → zX G (y_Reader_name, h + 1 + 1, sl) u 67 [(0, (2, 72)), (1, (2, l)), (2, (0, (k : Int)))] [] M Q := by
  have hb := zto_b (B := B) he
  have hd := zkd_ltr hk
  intro d
  induction d with
  | zero =>
    intro k M u ek hM hr hj
    refine B_Reader_name_67 hsl ⟨fun _ => c_taken hsl hn he hr (fun M1 h1 g1 => q M1 (hM.trans (zPrs_nm h1)) g1 (fun j hj6 => by rw [h1 _ _ (by unfold zPrs; omega)]; exact hj j (by omega))), fun y => absurd (by omega) y⟩
  | succ d ih =>
    intro k M u ek hM hr hj
    have go : ∀ v, v = zwl B n e k → zX G (y_Reader_name, h + 1 + 1, sl) u 67 [(0, (2, 72)), (1, (2, l)), (2, (0, (k : Int) + 1))] [] (zwr M (l + 1) (k : Int) v) Q := fun v ev => by
      have := ih (k + 1) (zwr M (l + 1) (k : Int) v) u (by omega) (hM.wr (Or.inr rfl)) (hr.fr (fun a k p => by rw [zwr_o _ (by omega)])) (fun j hj2 => by
        by_cases c : j = k
        · rw [c, zwr_s]; exact ev
        · rw [zwr_k _ (by omega)]; exact hj j (by omega))
      rw [zcs] at this
      exact this
    refine B_Reader_name_67 hsl ⟨fun y => absurd y (by omega), fun _ => ⟨hl, ?_⟩⟩
    rw [hr.2.1, hr.2.2.2]
    refine ⟨by unfold zI; omega, fun g => ⟨by omega, by unfold zI; omega, go 0 (by unfold zwl; rw [if_neg (by omega)])⟩, fun g => ⟨by omega, ?_⟩⟩
    have hw := hd.2.2 k (by omega)
    rw [show ((zfr B n e : Nat) : Int) + (k : Int) = ((zfr B n e + k : Nat) : Int) from by omega, hr.1.2.1 _ (by omega) (by omega)]
    exact ⟨by unfold zI; omega, by unfold zI; omega, by omega, by unfold zI; omega, go _ (by unfold zwl; rw [if_pos (by omega)])⟩
theorem c_name {G : zG} {h sl : Nat} (hsl : 1 ≤ sl) {T : zTb} {m : Nat} {t : Int} {B : Int → Int} {n e : Nat} {l : Int} {M : zM} {Q : Int → zM → Prop} (hn : n ≤ 1600) (hm : m ≤ 8) (he : e ≤ n) (hr : zRd B n e M) (hN : zNc T m t M) (hl : zK l = (1, 0)) (hl7 : 73 ≤ l + 1) (qo : ∀ e', znam T m B n e = .inr e' → ∀ M', zSm (zPnm l) M M' → zRd B n e' M' → (∀ k : Nat, k < 6 → M' (l + 1) (k : Int) = zwl B n e k) → Q 1 M') (qn : ∀ f p, znam T m B n e = .inl (f, p) → ∀ M', zSm (zPnm l) M M' → zRF f p M' → Q 0 M') : zCt G (h + 5) sl 0 0 y_Reader_name [(2, 72), (2, l)] M Q := by
  have hb := zto_b (B := B) he
  unfold znam at qo qn
  have bad : ∀ u, ¬ (zkd B n e = 1 ∧ ¬ zown B n e = true) → zX G (y_Reader_name, h + 4 + 1, sl) u 15 [(0, (2, 72))] [] M Q := fun u c => by
    rw [if_neg c] at qn
    exact B_Reader_name_15 hsl (c_unfit0 (h := h + 3) hsl hr (fun M1 h1 a1 => qn _ _ rfl M1 (zPrs_nm h1) a1))
  refine E_Reader_name hsl ⟨fun g => bad _ (fun y => g (by rw [hr.2.2.1]; exact y.1)), fun g => ?_⟩
  have k1 : zkd B n e = 1 := by rw [← hr.2.2.1]; exact Classical.byContradiction g
  refine c_isOwnWord hsl hn he hr k1 (fun c => ⟨fun y => absurd y (by decide), fun _ => bad _ (fun y => y.2 c)⟩) (fun c => ⟨fun _ => ?_, fun y => absurd rfl y⟩)
  rw [if_pos ⟨k1, c⟩] at qo qn
  rw [hr.2.1, hr.2.2.2]
  refine ⟨by unfold zI; omega, fun g6 => ?_, fun g6 => ⟨by unfold zI; omega, ?_⟩⟩
  · rw [if_neg (by omega)] at qo qn
    refine c_columnHere hsl hn he hr hN hm ⟨fun c2 => ?_, fun c2 => ?_⟩
    · rw [if_pos c2] at qo
      exact c_name67 (h := h + 3) (M0 := M) hsl hn he k1 hl hl7 (qo _ rfl) 6 0 M _ rfl (zSm.refl _ M) hr (fun j hj => absurd hj (by omega))
    · rw [if_neg c2] at qn
      rw [hr.2.1]
      exact c_refuse0 hsl hr.1.2.2 (fun M1 h1 a1 => qn _ _ rfl M1 (zPrs_nm h1) a1)
  · rw [if_pos (by omega)] at qn
    exact c_refuse0 hsl hr.1.2.2 (fun M1 h1 a1 => qn _ _ rfl M1 (zPrs_nm h1) a1)
theorem m_name {G : zG} {h sl : Nat} (hsl : 2 ≤ sl) {B : Int → Int} {n e : Nat} {M : zM} {Q : Int → zM → Prop} (hn : n ≤ 1600) (he : e ≤ n) (hx : zMd B n e M) (qo : zkd B n e = 1 → ¬ zown B n e = true → zto B n e - zfr B n e ≤ 6 → ∀ M', zSm zPmt M M' → zMd B n (zto B n e) M' → M' 125 41 = (zfr B n e : Nat) → Q (zn27 (zltr B n e) (zto B n e - zfr B n e)) M') (q1 : ¬ (zkd B n e = 1 ∧ ¬ zown B n e = true) → ∀ M', zSm zPmt M M' → zMF 1 (zfr B n e : Nat) M' → Q 0 M') (q6 : zkd B n e = 1 → ¬ zown B n e = true → 6 < zto B n e - zfr B n e → ∀ M', zSm zPmt M M' → zMF 1 ((zfr B n e : Nat) + 6) M' → Q 0 M') : zCt G (h + 3) sl 0 0 y_Md_name [(2, 125)] M Q := by
  have hb := zto_b (B := B) he
  refine E_Md_name hsl ⟨fun _ => m_look hsl hn he hx (fun M2 hM2 h2 => ?_), fun g => absurd hx.1.2.2 g⟩
  have bad : ∀ (M3 : zM) u, ¬ (zkd B n e = 1 ∧ ¬ zown B n e = true) → zSm zPwl M M3 → zMe B n e M3 → zX G (y_Md_name, h + 2 + 1, sl) u 37 [(0, (2, 125))] [] M3 Q := fun M3 u c hM3 h3 => by
    refine B_Md_name_37 hsl ?_
    rw [h3.2]
    exact m_fail0 hsl h3.1.1.2.2 (fun M4 h4 x4 => q1 c M4 ((zPwl_mt hM3).trans h4) x4)
  refine m_isLetter hsl (fun c => ⟨fun y => absurd y (by decide), fun _ => ?_⟩) (fun c => ⟨fun _ => bad M2 _ ?_ hM2 h2, fun y => absurd rfl y⟩)
  · rw [zlk_k (Or.inl rfl)] at c
    rw [h2.gl (Or.inl c)]
    refine ⟨fun g => bad M2 _ (fun y => by omega) hM2 h2, fun g => ?_⟩
    have k1 : zkd B n e = 1 := by rw [zkd_rk g]; exact c
    have hd := zkd_ltr k1
    refine m_isOwnHere hsl hn he h2.1 (fun co M3 h3 g3 => ⟨fun y => absurd y (by decide), fun _ => bad M3 _ (fun y => y.2 co) (hM2.trans h3) g3⟩) (fun co M3 h3 g3 => ⟨fun _ => ?_, fun y => absurd rfl y⟩)
    have hl : ∀ k, k < zto B n e - zfr B n e → 1 ≤ zltr B n e k ∧ zltr B n e k ≤ 26 := fun k h => by have := hd.2.2 k h; unfold zltr; omega
    have s4 : zSm zPmt M (zwr M3 125 41 (M3 125 2)) := (zPwl_mt (hM2.trans h3)).wr ⟨rfl, by decide⟩
    have hx4 : zMx B n (zwr M3 125 41 (M3 125 2)) := g3.1.1.fr (fun a k p => by rw [zwr_i, if_neg (by omega)])
    have e41 : (zwr M3 125 41 (M3 125 2)) 125 41 = (zfr B n e : Nat) := by rw [zwr_s]; exact g3.2
    have e42 : (zwr M3 125 41 (M3 125 2)) 125 2 = (zfr B n e : Nat) := by rw [zwr_k _ (by decide)]; exact g3.2
    generalize zwr M3 125 41 (M3 125 2) = M4 at s4 hx4 e41 e42
    have lp : ∀ (d k : Nat) (M5 : zM) u, n ≤ d + (zfr B n e + k) → k ≤ 6 → zfr B n e + k ≤ zto B n e → zSm zPmt M M5 → zMx B n M5 → M5 125 41 = (zfr B n e : Nat) → M5 125 2 = ((zfr B n e + k : Nat) : Int) → zX G (y_Md_name, h + 2 + 1, sl) u 58 [(0, (2, 125)), (1, (1, zn27 (zltr B n e) k))] [] M5 Q := by
      have fin : ∀ (k : Nat) (M5 : zM), k ≤ 6 → zfr B n e + k = zto B n e → zSm zPmt M M5 → zMx B n M5 → M5 125 41 = (zfr B n e : Nat) → M5 125 2 = ((zfr B n e + k : Nat) : Int) → Q (zn27 (zltr B n e) k) (zwr M5 125 4 (M5 125 2)) := fun k M5 k6 ek hM5 hx5 e5 e2 => by
        have ek2 : k = zto B n e - zfr B n e := by omega
        rw [ek2]
        exact qo k1 co (by omega) _ (hM5.wr ⟨rfl, by decide⟩) (zMd.tk (x := M5 125 2) hx5 (Or.inl c) (fun a k p => by rw [zwr_i, if_neg (by omega)]) (by rw [zwr_k _ (by decide)]) (zwr_s _ _ _ _) (by omega)) (by rw [zwr_k _ (by decide)]; exact e5)
      intro d
      induction d with
      | zero =>
        intro k M5 u hdn k6 ek hM5 hx5 e5 e2
        refine B_Md_name_58 hsl ⟨fun _ => fin k M5 k6 (by omega) hM5 hx5 e5 e2, fun y => absurd (by rw [hx5.1.1]; omega) y⟩
      | succ d ih =>
        intro k M5 u hdn k6 ek hM5 hx5 e5 e2
        have hzr : zru B n 1 (zfr B n e + k) = zto B n e := by rw [hd.1]; exact zru_mid (by omega) (by omega)
        refine B_Md_name_58 hsl ⟨fun y => fin k M5 k6 (by rw [hx5.1.1] at y; omega) hM5 hx5 e5 e2, fun y => ?_⟩
        rw [hx5.1.1, e2] at y
        rw [e2]
        refine ⟨by omega, ?_⟩
        rw [hx5.2.1 _ (by omega) (by omega)]
        refine m_isLetter hsl (fun c2 => ⟨fun y => absurd y (by decide), fun _ => ?_⟩) (fun c2 => ⟨fun _ => ?_, fun y => absurd rfl y⟩)
        · have e7 := zru_1 (B := B) (n := n) (e := zfr B n e + k) (k := 1) ⟨by omega, c2⟩
          have e6 := zru_le B n 1 (zfr B n e + k + 1)
          rw [e2, e5]
          refine ⟨by unfold zI; omega, fun g7 => ?_, fun g7 => ?_⟩
          · have hb6 := zn27_in (f := zltr B n e) (m := k) (fun j hj => hl j (by omega)) k (Nat.le_refl _)
            have hB6 := zn27_b (f := zltr B n e) (m := k) (k := k) (fun j hj => hl j (by omega)) (Nat.le_refl _) k6
            have hlk := hl k (by omega)
            unfold zltr at hlk
            rw [hx5.2.1 _ (by omega) (by omega)]
            refine ⟨by unfold zL; omega, by omega, by unfold zL; omega, by unfold zL; omega, by unfold zL; omega, by unfold zI; omega, ?_⟩
            have := ih (k + 1) (zwr M5 125 2 (((zfr B n e + k : Nat) : Int) + 1)) u (by omega) (by omega) (by omega) (hM5.wr ⟨rfl, by decide⟩) (hx5.fr (fun a k p => by rw [zwr_i, if_neg (by omega)])) (by rw [zwr_k _ (by decide)]; exact e5) (by rw [zwr_s]; omega)
            rw [show zn27 (zltr B n e) (k + 1) = 27 * zn27 (zltr B n e) k + B ((zfr B n e + k : Nat) : Int) - 97 + 1 from by show _ + zltr B n e k = _; unfold zltr; omega] at this
            exact this
          · have g7 := Classical.byContradiction g7
            rw [show ((zfr B n e + k : Nat) : Int) = ((zfr B n e : Nat) : Int) + 6 from by omega]
            exact m_fail0 hsl hx5.2.2 (fun M6 h6 x6 => q6 k1 co (by omega) M6 (hM5.trans h6) x6)
        · rw [zru_0 (fun y => c2 y.2)] at hzr
          exact fin k M5 k6 hzr hM5 hx5 e5 e2
    exact lp n 0 M4 _ (by omega) (by omega) (by omega) s4 hx4 e41 e42
  · rw [zlk_k (Or.inl rfl)] at c
    intro y
    exact c (by rw [← zkd_rk (by omega)]; exact y.1)
