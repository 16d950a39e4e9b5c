/-! A TABLET is read, the Model. -/
theorem m_tabL {G : zG} {h sl : Nat} (hsl : 2 ≤ sl) {B : Int → Int} {n : Nat} {M0 : zM} {Q : Int → zM → Prop} (hn : n ≤ 1600) (hB : ∀ k, 0 ≤ k → k < (n : Int) → 0 ≤ B k) :
    ∀ (d : Nat) (T : zTb) (s e : Nat) (M : zM) (u : Nat × Nat × Nat × Nat), (d : Int) + T.1 8 2 = 61 → zTok T → e ≤ n → s ≤ e → zSm zPts M0 M → zMt T s B n e M → (∀ T', ztabd B n d T s e = .inr T' → ∀ s' e' M' u, s' ≤ 1600 → zSm zPts M0 M' → zMt T' s' B n e' M' → zX G (y_Md_tablet, h + 12 + 1, sl) u 100 [(0, (2, 125))] [] M' Q) → (∀ f p, ztabd B n d T s e = .inl (f, p) → f ≠ 0 → ∀ M' u, zSm zPts M0 M' → zMF f p M' → zX G (y_Md_tablet, h + 12 + 1, sl) u 100 [(0, (2, 125))] [] M' Q) → zX G (y_Md_tablet, h + 12 + 1, sl) u 78 [(0, (2, 125))] [] M Q
  | 0, T, s, e, M, u, ei, hT, he, hs, hM, hr, qo, qn => by
    have := hT.2.2.2.2.2.1
    omega
  | d + 1, T, s, e, M, u, ei, hT, he, hs, hM, hr, qo, qn => by
    have st1 := hT.2.2.2.2.2.1
    have ez : ztabd B n (d + 1) T s e = if zkd B n e = 0 then (.inr T : zRs zTb) else if T.1 8 2 = 60 then .inl (5, (zfr B n e : Nat)) else zbd (zstat B n T s e) (fun r => zbd (zsgn B n r.2.2 59) (fun e2 => ztabd B n d (zset r.1 8 2 (r.1.1 8 2 + 1)) r.2.1 e2)) := rfl
    rw [ez] at qo qn
    refine B_Md_tablet_78 hsl ⟨fun y => absurd hr.1.1.2.2 y, fun _ => m_look hsl hn he hr.1 (fun M1 h1 g1 => ?_)⟩
    have r1 := hr.mv (zPwl_mt h1) g1.1
    have m1 : zSm zPts M0 M1 := hM.trans (zPtm_ts (zPmt_tm (zPwl_mt h1)))
    have hlk : (if zfr B n e < n then B (zfr B n e : Nat) else -1) = -1 ↔ zkd B n e = 0 := by
      have hf := zfr_n (B := B) he
      by_cases c : zfr B n e < n
      · rw [if_pos c]
        have hbb := hB (zfr B n e : Nat) (by omega) (by omega)
        have hk := zkdo_v (B (zfr B n e : Nat))
        have h0 : zrk B n e = zkdo (B (zfr B n e : Nat)) := by unfold zrk; rw [if_pos c]
        constructor
        · intro y; omega
        · intro y; rw [zkd_rk (by omega)] at y; omega
      · rw [if_neg c]
        have h0 : zrk B n e = 0 := by unfold zrk; rw [if_neg c]
        constructor
        · intro _; unfold zkd; rw [if_neg (by omega)]; exact h0
        · intro _; rfl
    rw [hlk]
    refine ⟨fun c => ?_, fun c => ?_⟩
    · rw [if_pos c] at qo
      exact qo T rfl s e M1 u (by omega) m1 r1
    · rw [if_neg c] at qo qn
      refine m_statementTold (h := h) hsl hn hT he hs r1 g1.2 (fun c60 T1 s1 e1 e2 hz hz2 M2 h2 g2 => ?_) (fun c60 M2 h2 x2 => ?_) (fun c60 f p hz f0 M2 h2 x2 => ?_)
      · rw [if_neg c60, hz, zbd_ok, show zsgn B n (T1, s1, e1).2.2 59 = .inr e2 from hz2, zbd_ok] at qo qn
        have ok := zstat_ok hT he hs hz
        have o2 := zsgn_h ok.2.2.2.2 hz2
        exact m_tabL (G := G) (h := h) (Q := Q) hsl hn hB d (zset T1 8 2 (T1.1 8 2 + 1)) s1 e2 M2 u (by rw [show (zset T1 8 2 (T1.1 8 2 + 1)).1 8 2 = T1.1 8 2 + 1 from zset_s _ _ _ _, ok.2.1]; omega) (zTok_stm ok.1 (by rw [ok.2.1]; omega)) o2.2.1 (by have := ok.2.2.1; omega) (m1.trans h2) g2 qo qn
      · rw [if_pos c60] at qn
        refine B_Md_tablet_78 hsl ⟨fun _ => qn _ _ rfl (by decide) M2 u (m1.trans h2) x2, fun y => absurd (by rw [x2.1]; decide) y⟩
      · rw [if_neg c60] at qn
        refine B_Md_tablet_78 hsl ⟨fun _ => qn f p ?_ f0 M2 u (m1.trans h2) x2, fun y => absurd (by rw [x2.1]; exact f0) y⟩
        cases hz1 : zstat B n T s e with
        | inl x => rw [hz1, zbd_no] at hz; rw [zbd_no]; injection hz with hz; rw [hz]
        | inr r =>
          rw [hz1, zbd_ok] at hz
          rw [zbd_ok, hz, zbd_no]
theorem m_tab54 {G : zG} {h sl : Nat} (hsl : 2 ≤ sl) {M0 : zM} {Q : Int → zM → Prop} (q : ∀ M' u, (∀ a k, ¬ (a = 161 ∧ 0 ≤ k ∧ k < 9) → ¬ (a = 125 ∧ k = 49) → M' a k = M0 a k) → (∀ k, 0 ≤ k → k < 9 → M' 161 k = -1) → M' 125 49 = 0 → zX G (y_Md_tablet, h + 1, sl) u 78 [(0, (2, 125))] [] M' Q) :
    ∀ (d i : Nat) (M : zM) u, d + i = 9 → (∀ a k, ¬ (a = 161 ∧ 0 ≤ k ∧ k < 9) → M a k = M0 a k) → (∀ k, 0 ≤ k → k < (i : Int) → M 161 k = -1) → zX G (y_Md_tablet, h + 1, sl) u 54 [(0, (2, 125)), (1, (0, (i : Int)))] [] M Q
  | 0, i, M, u, ei, hM, hz => by
    refine B_Md_tablet_54 hsl ⟨fun _ => q _ u (fun a k p1 p2 => by rw [zwr_i, if_neg p2]; exact hM a k p1) (fun k k0 k9 => by rw [zwr_o _ (by decide)]; exact hz k k0 (by omega)) (zwr_s _ _ _ _), fun y => absurd (by omega) y⟩
  | d + 1, i, M, u, ei, hM, hz => by
    refine B_Md_tablet_54 hsl ⟨fun y => absurd y (by omega), fun _ => ⟨by omega, by unfold zI; omega, ?_⟩⟩
    have := m_tab54 (G := G) (h := h) (Q := Q) hsl q d (i + 1) (zwr M 161 (i : Int) (-1)) u (by omega) (fun a k p => by rw [zwr_i, if_neg (by omega)]; exact hM a k p) (fun k k0 ki => by
      by_cases c : k = (i : Int)
      · rw [c, zwr_s]
      · rw [zwr_k _ c]; exact hz k k0 (by omega))
    rw [zcs] at this
    exact this
/-! what is told comes to stand -/
theorem zSg_sh {M M' : zM} {a : Int} {j : Int} : ∀ {cs : List Int} {i : Int}, (∀ k, i ≤ k → k < i + cs.length → M' a (j + k) = M a k) → zSg M a i cs → zSg M' a (j + i) cs
  | [], _, _, _ => trivial
  | x :: r, i, e, h => ⟨by rw [e i (by omega) (by simp only [List.length_cons]; omega)]; exact h.1, by
      rw [show j + i + 1 = j + (i + 1) from by omega]
      exact zSg_sh (fun k h1 h2 => e k (by omega) (by simp only [List.length_cons]; omega)) h.2⟩
def zPsd : Int → Int → Prop := fun a k => zPL a k ∨ a = 158 ∧ (k = 2 ∨ k = 3) ∨ a = 161 ∧ 9 ≤ k ∨ a = 162 ∧ 9 ≤ k ∨ a = 159 ∧ 8 ≤ k ∨ a = 160 ∧ 56 ≤ k ∨ a = 163 ∧ 1600 ≤ k ∨ a = 125 ∧ (k = 52 ∨ k = 62 ∨ k = 66) ∨ a = 164
theorem zTm.frN {T : zTb} {M M' : zM} (e : ∀ a k, a = 158 ∨ a = 125 ∧ k = 52 ∨ 160 ≤ a ∧ a ≤ 163 → M' a k = M a k) (h : zTm T M) : zTm T M' := by
  obtain ⟨a, b, d, f, g⟩ := h
  unfold zTm
  rw [e 158 2 (by decide), e 158 3 (by decide), e 125 52 (by decide)]
  exact ⟨a, b, d, fun c h0 hc => (f c h0 hc).fr (fun a k h1 h2 => e a k (by omega)), fun q => (g q).fr (fun a k h1 h2 => e a k (by omega))⟩
theorem m_st180 {G : zG} {h sl : Nat} (hsl : 2 ≤ sl) {T : zTb} {M0 : zM} {Q : Int → zM → Prop} (hT : zTok T) (hm0 : zTm T M0) (q : ∀ M', zSm (fun a k => zPL a k ∨ a = 164 ∨ a = 125 ∧ (k = 62 ∨ k = 66)) M0 M' → zMk T (zbg T) M' → M' 164 17 = 0 → M' 125 66 = 0 → M' 125 62 = 0 → Q 0 M') :
    ∀ (d i : Nat) (M : zM) u, d + i = 98 → zSm (fun a _ => a = 164) M0 M → (∀ k, 0 ≤ k → k < (i : Int) → M 164 k = 0) → zX G (y_Md_stands, h + 6 + 1, sl) u 180 [(0, (2, 125)), (1, (0, (i : Int)))] [] M Q
  | 0, i, M, u, ei, hM, hz => by
    have hm : zTm T M := hm0.frN (fun a k p => hM a k (by omega))
    refine B_Md_stands_180 hsl ⟨fun _ => c_laysTrue (h := h) hsl hT hm (fun M1 h1 t1 => c_begins (h := h + 2) hsl hT (hm.frL h1) (fun M2 h2 l2 => ?_)), fun y => absurd (by omega) y⟩
    have w : ∀ a k, ¬ (a = 125 ∧ (k = 62 ∨ k = 66)) → (zwr (zwr M2 125 66 0) 125 62 0) a k = M2 a k := fun a k p => by rw [zwr_i, if_neg (by omega), zwr_i, if_neg (by omega)]
    have w2 : (zwr (zwr M2 125 66 0) 125 62 0) 125 62 = 0 := zwr_s _ _ _ _
    have w6 : (zwr (zwr M2 125 66 0) 125 62 0) 125 66 = 0 := by rw [zwr_k _ (by decide), zwr_s]
    generalize zwr (zwr M2 125 66 0) 125 62 0 = M3 at w w2 w6
    have h12 : zSm zPL M M2 := h1.trans (zPG_PL h2)
    have f3 : zSm (fun a k => zPL a k ∨ a = 164 ∨ a = 125 ∧ (k = 62 ∨ k = 66)) M0 M3 := fun a k p => by
      have p : ¬ (zPL a k ∨ a = 164 ∨ a = 125 ∧ (k = 62 ∨ k = 66)) := p
      rw [w a k (fun y => p (Or.inr (Or.inr y))), h12 a k (fun y => p (Or.inl y)), hM a k (fun y => p (Or.inr (Or.inl y)))]
    refine q M3 f3 ⟨((hm.frL h1).fr h2).frN (fun a k p => w a k (by omega)), l2.fr (fun k => w _ _ (by omega)), t1.frG (fun a k p => ?_)⟩ ?_ w6 w2
    · rw [w a k (by omega), h2 a k (by unfold zPG; omega)]
    · rw [w _ _ (by omega), h12 _ _ (by unfold zPL zPG; omega)]
      exact hz 17 (by decide) (by omega)
  | d + 1, i, M, u, ei, hM, hz => by
    refine B_Md_stands_180 hsl ⟨fun y => absurd y (by omega), fun _ => ⟨by omega, by unfold zI; omega, ?_⟩⟩
    have := m_st180 (G := G) (h := h) (Q := Q) hsl hT hm0 q d (i + 1) (zwr M 164 (i : Int) 0) u (by omega) (hM.wr rfl) (fun k k0 ki => by
      by_cases c : k = (i : Int)
      · rw [c, zwr_s]
      · rw [zwr_k _ c]; exact hz k k0 (by omega))
    rw [zcs] at this
    exact this
theorem m_st128 {G : zG} {h sl : Nat} (hsl : 2 ≤ sl) {s : Nat} {M0 : zM} {Q : Int → zM → Prop} (hs : s ≤ 1600) (h48 : M0 125 48 = (s : Int)) (q : ∀ M' u, (∀ a k, ¬ (a = 163 ∧ 1600 ≤ k) → ¬ (a = 125 ∧ k = 52) → M' a k = M0 a k) → (∀ k, 0 ≤ k → k < (s : Int) → M' 163 (1600 + k) = M0 163 k) → M' 125 52 = (if M0 161 8 = -1 then 0 else 1) → zX G (y_Md_stands, h + 1, sl) u 180 [(0, (2, 125)), (1, (0, 0))] [] M' Q) :
    ∀ (d i : Nat) (M : zM) u, d + i = s → (∀ a k, ¬ (a = 163 ∧ 1600 ≤ k) → M a k = M0 a k) → (∀ k, 0 ≤ k → k < (i : Int) → M 163 (1600 + k) = M0 163 k) → zX G (y_Md_stands, h + 1, sl) u 128 [(0, (2, 125)), (1, (0, (i : Int)))] [] M Q
  | 0, i, M, u, ei, hM, hz => by
    have e8 : M 161 8 = M0 161 8 := hM _ _ (by omega)
    have e48 : M 125 48 = (s : Int) := by rw [hM _ _ (by omega)]; exact h48
    have go : ∀ v, v = (if M0 161 8 = -1 then 0 else 1) → zX G (y_Md_stands, h + 1, sl) u 180 [(0, (2, 125)), (1, (0, 0))] [] (zwr M 125 52 v) Q := fun v ev => q _ u (fun a k p1 p2 => by rw [zwr_i, if_neg p2]; exact hM a k p1) (fun k k0 ks => by rw [zwr_o _ (by decide)]; exact hz k k0 (by omega)) (by rw [zwr_s]; exact ev)
    refine B_Md_stands_128 hsl ⟨fun _ => ⟨fun c => go 0 ?_, fun c => go 1 ?_⟩, fun y => absurd (by omega) y⟩
    · rw [e8] at c; rw [if_pos c]
    · rw [e8] at c; rw [if_neg c]
  | d + 1, i, M, u, ei, hM, hz => by
    have e48 : M 125 48 = (s : Int) := by rw [hM _ _ (by omega)]; exact h48
    refine B_Md_stands_128 hsl ⟨fun y => absurd y (by omega), fun _ => ⟨by unfold zI; omega, by omega, by omega, by unfold zI; omega, ?_⟩⟩
    have := m_st128 (G := G) (h := h) (Q := Q) hsl hs h48 q d (i + 1) (zwr M 163 (1600 + (i : Int)) (M 163 (i : Int))) u (by omega) (fun a k p => by rw [zwr_i, if_neg (by omega)]; exact hM a k p) (fun k k0 ki => by
      by_cases c : k = (i : Int)
      · rw [c, zwr_s]; exact hM _ _ (by omega)
      · rw [zwr_k _ (by omega)]; exact hz k k0 (by omega))
    rw [zcs] at this
    exact this
theorem m_st99 {G : zG} {h sl : Nat} (hsl : 2 ≤ sl) {M0 : zM} {Q : Int → zM → Prop} (q : ∀ M' u, (∀ a k, ¬ (a = 160 ∧ 56 ≤ k) → M' a k = M0 a k) → (∀ k, 0 ≤ k → k < 56 → M' 160 (56 + k) = M0 160 k) → zX G (y_Md_stands, h + 1, sl) u 128 [(0, (2, 125)), (1, (0, 0))] [] M' Q) :
    ∀ (d i : Nat) (M : zM) u, d + i = 56 → (∀ a k, ¬ (a = 160 ∧ 56 ≤ k) → M a k = M0 a k) → (∀ k, 0 ≤ k → k < (i : Int) → M 160 (56 + k) = M0 160 k) → zX G (y_Md_stands, h + 1, sl) u 99 [(0, (2, 125)), (1, (0, (i : Int)))] [] M Q
  | 0, i, M, u, ei, hM, hz => B_Md_stands_99 hsl ⟨fun _ => q M u hM (fun k k0 k5 => hz k k0 (by omega)), fun y => absurd (by omega) y⟩
  | d + 1, i, M, u, ei, hM, hz => by
    refine B_Md_stands_99 hsl ⟨fun y => absurd y (by omega), fun _ => ⟨by unfold zI; omega, by omega, by omega, by unfold zI; omega, ?_⟩⟩
    have := m_st99 (G := G) (h := h) (Q := Q) hsl q d (i + 1) (zwr M 160 (56 + (i : Int)) (M 160 (i : Int))) u (by omega) (fun a k p => by rw [zwr_i, if_neg (by omega)]; exact hM a k p) (fun k k0 ki => by
      by_cases c : k = (i : Int)
      · rw [c, zwr_s]; exact hM _ _ (by omega)
      · rw [zwr_k _ (by omega)]; exact hz k k0 (by omega))
    rw [zcs] at this
    exact this
theorem m_st70 {G : zG} {h sl : Nat} (hsl : 2 ≤ sl) {M0 : zM} {Q : Int → zM → Prop} (q : ∀ M' u, (∀ a k, ¬ (a = 159 ∧ 8 ≤ k) → M' a k = M0 a k) → (∀ k, 0 ≤ k → k < 8 → M' 159 (8 + k) = M0 159 k) → zX G (y_Md_stands, h + 1, sl) u 99 [(0, (2, 125)), (1, (0, 0))] [] M' Q) :
    ∀ (d i : Nat) (M : zM) u, d + i = 8 → (∀ a k, ¬ (a = 159 ∧ 8 ≤ k) → M a k = M0 a k) → (∀ k, 0 ≤ k → k < (i : Int) → M 159 (8 + k) = M0 159 k) → zX G (y_Md_stands, h + 1, sl) u 70 [(0, (2, 125)), (1, (0, (i : Int)))] [] M Q
  | 0, i, M, u, ei, hM, hz => B_Md_stands_70 hsl ⟨fun _ => q M u hM (fun k k0 k5 => hz k k0 (by omega)), fun y => absurd (by omega) y⟩
  | d + 1, i, M, u, ei, hM, hz => by
    refine B_Md_stands_70 hsl ⟨fun y => absurd y (by omega), fun _ => ⟨by unfold zI; omega, by omega, by omega, by unfold zI; omega, ?_⟩⟩
    have := m_st70 (G := G) (h := h) (Q := Q) hsl q d (i + 1) (zwr M 159 (8 + (i : Int)) (M 159 (i : Int))) u (by omega) (fun a k p => by rw [zwr_i, if_neg (by omega)]; exact hM a k p) (fun k k0 ki => by
      by_cases c : k = (i : Int)
      · rw [c, zwr_s]; exact hM _ _ (by omega)
      · rw [zwr_k _ (by omega)]; exact hz k k0 (by omega))
    rw [zcs] at this
    exact this
theorem m_st26 {G : zG} {h sl : Nat} (hsl : 2 ≤ sl) {M0 : zM} {Q : Int → zM → Prop} (q : ∀ M' u, (∀ a k, ¬ ((a = 161 ∨ a = 162) ∧ 9 ≤ k) → M' a k = M0 a k) → (∀ k, 0 ≤ k → k < 9 → M' 161 (9 + k) = M0 161 k ∧ M' 162 (9 + k) = M0 162 k) → zX G (y_Md_stands, h + 1, sl) u 70 [(0, (2, 125)), (1, (0, 0))] [] M' Q) :
    ∀ (d i : Nat) (M : zM) u, d + i = 9 → (∀ a k, ¬ ((a = 161 ∨ a = 162) ∧ 9 ≤ k) → M a k = M0 a k) → (∀ k, 0 ≤ k → k < (i : Int) → M 161 (9 + k) = M0 161 k ∧ M 162 (9 + k) = M0 162 k) → zX G (y_Md_stands, h + 1, sl) u 26 [(0, (2, 125)), (1, (0, (i : Int)))] [] M Q
  | 0, i, M, u, ei, hM, hz => B_Md_stands_26 hsl ⟨fun _ => q M u hM (fun k k0 k5 => hz k k0 (by omega)), fun y => absurd (by omega) y⟩
  | d + 1, i, M, u, ei, hM, hz => by
    refine B_Md_stands_26 hsl ⟨fun y => absurd y (by omega), fun _ => ⟨by unfold zI; omega, by omega, by omega, by unfold zI; omega, ?_⟩⟩
    have := m_st26 (G := G) (h := h) (Q := Q) hsl q d (i + 1) (zwr (zwr M 161 (9 + (i : Int)) (M 161 (i : Int))) 162 (9 + (i : Int)) ((zwr M 161 (9 + (i : Int)) (M 161 (i : Int))) 162 (i : Int))) u (by omega) (fun a k p => by rw [zwr_i, if_neg (by omega), zwr_i, if_neg (by omega)]; exact hM a k p) (fun k k0 ki => by
      by_cases c : k = (i : Int)
      · rw [c, zwr_o _ (by decide), zwr_s, zwr_s, zwr_o _ (by decide)]
        exact ⟨hM _ _ (by omega), hM _ _ (by omega)⟩
      · rw [zwr_o _ (by decide), zwr_k _ (by omega), zwr_k _ (by omega), zwr_o _ (by decide)]; exact hz k k0 (by omega))
    rw [zcs] at this
    exact this
theorem m_stands {G : zG} {h sl : Nat} (hsl : 2 ≤ sl) {T : zTb} {s : Nat} {B : Int → Int} {n e : Nat} {M : zM} {Q : Int → zM → Prop} (hT : zTok T) (hs : s ≤ 1600) (hr : zMt T s B n e M) (q : ∀ M', zSm zPsd M M' → zMk T (zbg T) M' → zNm T M' → M' 164 17 = 0 → M' 125 66 = 0 → M' 125 62 = 0 → Q 0 M') : zCt G (h + 7) sl 0 0 y_Md_stands [(2, 125)] M Q := by
  have h0 := hT.1
  have h8 := hT.2.1
  obtain ⟨_, ⟨b1, b2⟩, ⟨c1, c2, c3⟩, cc, mk⟩ := hr
  have b1 : M 158 0 = T.1 8 0 := by rw [b1]; omega
  refine E_Md_stands hsl ?_
  generalize eM : zwr (zwr M 158 2 (M 158 0)) 158 3 ((zwr M 158 2 (M 158 0)) 158 1) = M1
  have u1 : ∀ a k, ¬ (a = 158 ∧ (k = 2 ∨ k = 3)) → M1 a k = M a k := fun a k p => by rw [← eM, zwr_i, if_neg (by omega), zwr_i, if_neg (by omega)]
  have v12 : M1 158 2 = T.1 8 0 := by rw [← eM, zwr_k _ (by decide), zwr_s]; exact b1
  have v13 : M1 158 3 = T.1 8 1 := by rw [← eM, zwr_s, zwr_k _ (by decide)]; exact c1
  refine m_st26 (h := h + 6) (M0 := M1) hsl (fun M2 u f2 g2 => ?_) 9 0 M1 _ (by omega) (fun _ _ _ => rfl) (fun k k0 k1 => absurd k1 (by omega))
  refine m_st70 (h := h + 6) (M0 := M2) hsl (fun M3 u f3 g3 => ?_) 8 0 M2 _ (by omega) (fun _ _ _ => rfl) (fun k k0 k1 => absurd k1 (by omega))
  refine m_st99 (h := h + 6) (M0 := M3) hsl (fun M4 u f4 g4 => ?_) 56 0 M3 _ (by omega) (fun _ _ _ => rfl) (fun k k0 k1 => absurd k1 (by omega))
  have lo : ∀ a k, ¬ (a = 158 ∧ (k = 2 ∨ k = 3)) → ¬ ((a = 161 ∨ a = 162) ∧ 9 ≤ k) → ¬ (a = 159 ∧ 8 ≤ k) → ¬ (a = 160 ∧ 56 ≤ k) → M4 a k = M a k := fun a k p1 p2 p3 p4 => by rw [f4 a k p4, f3 a k p3, f2 a k p2, u1 a k p1]
  refine m_st128 (h := h + 6) (M0 := M4) (s := s) hsl hs (by rw [lo _ _ (by omega) (by omega) (by omega) (by omega)]; exact c3) (fun M5 u f5 g5 e52 => ?_) s 0 M4 _ (by omega) (fun _ _ _ => rfl) (fun k k0 k1 => absurd k1 (by omega))
  have e8 : M4 161 8 = M 161 8 := lo _ _ (by omega) (by omega) (by omega) (by omega)
  rw [e8] at e52
  have s1 : ∀ k, 0 ≤ k → k < 9 → M5 161 (9 + k) = M 161 k ∧ M5 162 (9 + k) = M 162 k := fun k k0 k9 => by
    rw [f5 161 _ (by omega) (by omega), f5 162 _ (by omega) (by omega), f4 161 _ (by omega), f4 162 _ (by omega), f3 161 _ (by omega), f3 162 _ (by omega), (g2 k k0 k9).1, (g2 k k0 k9).2, u1 161 _ (by omega), u1 162 _ (by omega)]
    exact ⟨rfl, rfl⟩
  have s2 : ∀ k, 0 ≤ k → k < 56 → M5 160 (56 + k) = M 160 k := fun k k0 k9 => by rw [f5 160 _ (by omega) (by omega), g4 k k0 k9, f3 160 _ (by omega), f2 160 _ (by omega), u1 160 _ (by omega)]
  have s3 : ∀ k, 0 ≤ k → k < (s : Int) → M5 163 (1600 + k) = M 163 k := fun k k0 k9 => by rw [g5 k k0 k9, lo _ _ (by omega) (by omega) (by omega) (by omega)]
  have s4 : ∀ k, 0 ≤ k → k < 8 → M5 159 (8 + k) = M 159 k := fun k k0 k9 => by rw [f5 159 _ (by omega) (by omega), f4 159 _ (by omega), g3 k k0 k9, f2 159 _ (by omega), u1 159 _ (by omega)]
  have v52 : M5 158 2 = T.1 8 0 := by rw [f5 _ _ (by omega) (by omega), f4 _ _ (by omega), f3 _ _ (by omega), f2 _ _ (by omega)]; exact v12
  have v53 : M5 158 3 = T.1 8 1 := by rw [f5 _ _ (by omega) (by omega), f4 _ _ (by omega), f3 _ _ (by omega), f2 _ _ (by omega)]; exact v13
  have hcd : ∀ c, 0 ≤ c → c < 9 → zTuC T M s c → zTmC T M5 c := fun c k0 k9 hh => by
    unfold zTmC
    unfold zTuC at hh
    rw [(s1 c k0 k9).1, (s1 c k0 k9).2]
    exact ⟨hh.1, hh.2.1, by omega, zSg_sh (fun k h1 h2 => s3 k (by omega) (by omega)) hh.2.2.2⟩
  have hm5 : zTm T M5 := by
    refine ⟨v52, v53, ?_, fun c k0 kc => ?_, fun y => ?_⟩
    · rw [e52]
      rcases mk with x | x
      · rw [if_pos x.2]; exact x.1.symm
      · rw [if_neg (by have := x.2.1; omega)]; exact x.1.symm
    · have hh := cc c k0 kc
      unfold zTm1
      unfold zTu1 at hh
      rw [show (56 : Int) + 7 * c + 0 = 56 + (7 * c + 0) from by omega, show (56 : Int) + 7 * c + 1 = 56 + (7 * c + 1) from by omega, show (56 : Int) + 7 * c + 2 = 56 + (7 * c + 2) from by omega, show (56 : Int) + 7 * c + 3 = 56 + (7 * c + 3) from by omega, show (56 : Int) + 7 * c + 4 = 56 + (7 * c + 4) from by omega, show (56 : Int) + 7 * c + 5 = 56 + (7 * c + 5) from by omega, show (56 : Int) + 7 * c + 6 = 56 + (7 * c + 6) from by omega]
      rw [s2 (7 * c + 0) (by omega) (by omega), s2 (7 * c + 1) (by omega) (by omega), s2 (7 * c + 2) (by omega) (by omega), s2 (7 * c + 3) (by omega) (by omega), s2 (7 * c + 4) (by omega) (by omega), s2 (7 * c + 5) (by omega) (by omega), s2 (7 * c + 6) (by omega) (by omega)]
      exact ⟨hh.1, hh.2.1, hh.2.2.1, hh.2.2.2.1, hh.2.2.2.2.1, hh.2.2.2.2.2.1, hh.2.2.2.2.2.2.1, fun y => hcd c k0 (by omega) (hh.2.2.2.2.2.2.2 y)⟩
    · rcases mk with x | x
      · omega
      · exact hcd 8 (by decide) (by decide) x.2
  refine m_st180 (h := h) (M0 := M5) hsl hT hm5 (fun M6 h6 k6 a1 a2 a3 => q M6 (fun a k p => ?_) k6 (fun c k0 kc => ?_) a1 a2 a3) 98 0 M5 _ (by omega) (zSm.refl _ M5) (fun k k0 k1 => absurd k1 (by omega))
  · have n1 : ¬ (zPL a k ∨ a = 164 ∨ a = 125 ∧ (k = 62 ∨ k = 66)) := by unfold zPsd zPL zPG at p; unfold zPL zPG; omega
    rw [h6 a k n1, f5 a k (by unfold zPsd zPL zPG at p; omega) (by unfold zPsd zPL zPG at p; omega), lo a k (by unfold zPsd zPL zPG at p; omega) (by unfold zPsd zPL zPG at p; omega) (by unfold zPsd zPL zPG at p; omega) (by unfold zPsd zPL zPG at p; omega)]
  · rw [h6 159 _ (by unfold zPL zPG; omega), s4 c k0 (by omega)]
    exact b2 c k0 (by omega)
