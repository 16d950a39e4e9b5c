/-! ASK: the Model. -/
theorem zfactS_nz {B : Int → Int} {n : Nat} {P : zPfu} {I : Option zPfu} (hP : zNz P) (hI : ∀ g, I = some g → zNz g) : zNz (zfactS B n P I) := fun e f p h => by
  unfold zfactS at h
  by_cases c1 : zwrd B n e zo_not = true
  · rw [if_pos c1] at h
    cases ci : I with
    | none => rw [ci] at h; exact zinl_nz h (by decide)
    | some g =>
      rw [ci, zins_s] at h
      exact zbd_nz h (hI g ci _) (fun a f p h => zinr_nz h)
  · rw [if_neg c1] at h
    by_cases c2 : zsg B n e 91 = true
    · rw [if_pos c2] at h
      cases ci : I with
      | none => rw [ci] at h; exact zinl_nz h (by decide)
      | some g =>
        rw [ci, zins_s] at h
        exact zbd_nz h (zlvl_nz (zlvl_nz (hI g ci)) _) (fun a f p h => zbd_nz h (fun f p h => zsgn_nz h) (fun k f p h => zinr_nz h))
    · rw [if_neg c2] at h
      by_cases c3 : zwrd B n e zo_all = true
      · rw [if_pos c3] at h; nomatch h
      · rw [if_neg c3] at h
        refine zbd_nz h (zsum_nz hP _) (fun a f p h => ?_)
        by_cases c4 : zcmpr B n a.1 = -1
        · rw [if_pos c4] at h; exact zinl_nz h (by decide)
        · rw [if_neg c4] at h
          exact zbd_nz h (zsum_nz hP _) (fun b f p h => zinr_nz h)
theorem zfact_nz {md : Int} {T : zTb} {m : Nat} {B : Int → Int} {n : Nat} : ∀ k, zNz (zfact md T m B n k)
  | 0 => zfactS_nz (zpart_nz 0) (fun g h => by nomatch h)
  | k + 1 => zfactS_nz (I := some (zfact md T m B n k)) (zpart_nz (k + 1)) (fun g h => by injection h with h; subst h; exact zfact_nz k)
theorem ztestK_nz {md : Int} {T : zTb} {m : Nat} {B : Int → Int} {n k : Nat} : zNz (ztestK md T m B n k) := zlvl_nz (zlvl_nz (zfact_nz k))
theorem m_qKind {G : zG} {h sl : Nat} (hsl : 2 ≤ sl) {B : Int → Int} {n e : Nat} {M : zM} {Q : Int → zM → Prop} (hn : n ≤ 1600) (he : e ≤ n) (hx : zMd B n e M) (q1 : ¬ zqk B n e = -1 → ∀ M', zSm zPmt M M' → zMd B n (zto B n e) M' → Q (zqk B n e) M') (q0 : zqk B n e = -1 → ∀ M', zSm zPmt M M' → zMF 1 (zfr B n e : Nat) M' → Q 5 M') : zCt G (h + 4) sl 0 0 y_Md_qKind [(2, 125)] M Q := by
  unfold zqk at q0 q1
  refine E_Md_qKind hsl (m_takes (h := h + 1) hsl hn he hx zo_173 (by decide) (fun c M1 h1 g1 => ⟨fun y => absurd y (by decide), fun _ => ?_⟩) (fun c M1 h1 g1 => ⟨fun _ => ?_, fun y => absurd rfl y⟩))
  · rw [if_pos c] at q1
    exact B_Md_qKind_76 hsl ⟨fun _ => q1 (by decide) M1 h1 g1, fun y => absurd (by decide) y⟩
  rw [if_neg c] at q0 q1
  refine m_takes (h := h + 1) hsl hn he g1.1 zo_174 (by decide) (fun c M2 h2 g2 => ⟨fun y => absurd y (by decide), fun _ => ?_⟩) (fun c M2 h2 g2 => ⟨fun _ => ?_, fun y => absurd rfl y⟩)
  · rw [if_pos c] at q1
    exact B_Md_qKind_76 hsl ⟨fun _ => q1 (by decide) M2 (h1.trans h2) g2, fun y => absurd (by decide) y⟩
  rw [if_neg c] at q0 q1
  have h2 := h1.trans h2
  refine m_takes (h := h + 1) hsl hn he g2.1 zo_175 (by decide) (fun c M3 h3 g3 => ⟨fun y => absurd y (by decide), fun _ => ?_⟩) (fun c M3 h3 g3 => ⟨fun _ => ?_, fun y => absurd rfl y⟩)
  · rw [if_pos c] at q1
    exact B_Md_qKind_76 hsl ⟨fun _ => q1 (by decide) M3 (h2.trans h3) g3, fun y => absurd (by decide) y⟩
  rw [if_neg c] at q0 q1
  have h3 := h2.trans h3
  refine m_takes (h := h + 1) hsl hn he g3.1 zo_176 (by decide) (fun c M4 h4 g4 => ⟨fun y => absurd y (by decide), fun _ => ?_⟩) (fun c M4 h4 g4 => ⟨fun _ => ?_, fun y => absurd rfl y⟩)
  · rw [if_pos c] at q1
    exact B_Md_qKind_76 hsl ⟨fun _ => q1 (by decide) M4 (h3.trans h4) g4, fun y => absurd (by decide) y⟩
  rw [if_neg c] at q0 q1
  have h4 := h3.trans h4
  refine m_takes (h := h + 1) hsl hn he g4.1 zo_177 (by decide) (fun c M5 h5 g5 => ⟨fun y => absurd y (by decide), fun _ => ?_⟩) (fun c M5 h5 g5 => ⟨fun _ => ?_, fun y => absurd rfl y⟩)
  · rw [if_pos c] at q1
    exact B_Md_qKind_76 hsl ⟨fun _ => q1 (by decide) M5 (h4.trans h5) g5, fun y => absurd (by decide) y⟩
  rw [if_neg c] at q0 q1
  have h5 := h4.trans h5
  refine B_Md_qKind_76 hsl ⟨fun y => absurd rfl y, fun _ => m_asks hsl hn he g5.1 zo_178 (by decide) (fun c M6 h6 g6 => ?_) (fun c M6 h6 g6 => ?_)⟩
  · rw [if_pos c] at q1
    exact q1 (by decide) M6 (h5.trans h6) g6
  · rw [if_neg c] at q0
    exact q0 rfl M6 (h5.trans h6) g6
def zPmk : Int → Int → Prop := fun a k => a = 125 ∧ (k = 2 ∨ k = 4 ∨ k = 5 ∨ k = 6 ∨ k = 10 ∨ k = 41 ∨ k = 90 ∨ k = 92 ∨ k = 93 ∨ k = 94 ∨ k = 1 ∨ k = 3 ∨ k = 7 ∨ k = 8 ∨ k = 50 ∨ k = 53 ∨ k = 54 ∨ k = 57 ∨ k = 61 ∨ k = 96 ∨ k = 97 ∨ k = 98) ∨ a = 193 ∨ a = 194 ∨ a = 195 ∨ a = 167 ∨ a = 168 ∨ a = 169
theorem zPmq_k {M M' : zM} (h : zSm zPmq M M') : zSm zPmk M M' := h.mono (fun a k p => by unfold zPmq at p; unfold zPmk; omega)
theorem zMk.frK {T : zTb} {L : Int → Int} {M M' : zM} (hT : zTok T) (hM : zSm zPmk M M') (h : zMk T L M) : zMk T L M' := h.fr hT (fun a k p => hM a k (by unfold zdMk at p; unfold zPmk; omega))
theorem m_ask {G : zG} {h sl : Nat} (hsl : 2 ≤ sl) {T : zTb} {L : Int → Int} {B : Int → Int} {n : Nat} {M : zM} {Q : Int → zM → Prop} (hP : zPu T L) (hC : zMk T L M) (hn : n ≤ 1600) (hB : ∀ k, 0 ≤ k → k < (n : Int) → 0 ≤ B k) (h1 : M 125 1 = n) (h3 : zAr M 126 n B) (q : ∀ M', zSm zPmk M M' → zMk T L M' → M' 125 7 = (zakf B n).1 → M' 125 8 = (zakf B n).2 → M' 125 1 = 0 → Q (zask T L B n) M') : zCt G (h + 9) sl 0 0 y_Md_ask [(2, 125)] M Q := by
  unfold zakf zask zqst at q
  have hb := zto_b (B := B) (n := n) (e := 0) (by omega)
  refine E_Md_ask hsl ?_
  rw [h1]
  generalize eM0 : zwr (zwr (zwr (zwr (zwr (zwr (zwr (zwr (zwr (zwr (zwr M 125 3 (n : Int)) 125 1 0) 125 2 0) 125 4 (-1)) 125 5 0) 125 6 (-1)) 125 50 2) 125 90 0) 125 92 0) 125 93 0) 125 94 0 = M0
  have ev : ∀ a k, M0 a k = if a = 125 then (if k = 94 then 0 else if k = 93 then 0 else if k = 92 then 0 else if k = 90 then 0 else if k = 50 then 2 else if k = 6 then -1 else if k = 5 then 0 else if k = 4 then -1 else if k = 2 then 0 else if k = 1 then 0 else if k = 3 then (n : Int) else M a k) else M a k := fun a k => by
    rw [← eM0]
    simp only [zwr_i]
    by_cases c : a = 125
    · simp [c]
    · simp [c]
  have s0 : zSm zPmk M M0 := fun a k p => by
    rw [ev]
    unfold zPmk at p
    by_cases c : a = 125
    · rw [if_pos c, if_neg (by omega), if_neg (by omega), if_neg (by omega), if_neg (by omega), if_neg (by omega), if_neg (by omega), if_neg (by omega), if_neg (by omega), if_neg (by omega), if_neg (by omega), if_neg (by omega)]
    · rw [if_neg c]
  have hx0 : zMd B n 0 M0 := by
    refine ⟨⟨⟨by rw [ev]; rfl, by rw [ev]; rfl⟩, h3.fr (fun k => by rw [ev]; rfl), by rw [ev]; rfl⟩, ?_, fun y => absurd y.1 (by omega), fun _ => ?_⟩
    · rw [show M0 125 2 = 0 from by rw [ev]; rfl]
      omega
    · rw [show M0 125 4 = -1 from by rw [ev]; rfl]
      omega
  -- the end: what the fault fields say
  have bad : ∀ (f p r : Int) (M1 : zM) u, f ≠ 0 → zSm zPmk M M1 → M1 125 1 = 0 → zMF f p M1 → (∀ M', zSm zPmk M M' → zMk T L M' → M' 125 7 = f → M' 125 8 = p → M' 125 1 = 0 → Q (-1000000000000000) M') → zX G (y_Md_ask, h + 8 + 1, sl) u 117 [(0, (2, 125)), (1, (0, r))] [] M1 Q := fun f p r M1 u f0 hM1 e1 x1 q => by
    have s2 : zSm zPmk M (zwr (zwr M1 125 7 (M1 125 5)) 125 8 ((zwr M1 125 7 (M1 125 5)) 125 6)) := (hM1.wr (Or.inl ⟨rfl, by decide⟩)).wr (Or.inl ⟨rfl, by decide⟩)
    refine B_Md_ask_117 hsl ⟨fun y => absurd y (by rw [zwr_k _ (by decide), zwr_k _ (by decide), x1.1]; exact f0), fun _ => q _ s2 (hC.frK hP.1 s2) ?_ ?_ ?_⟩
    · rw [zwr_k _ (by decide), zwr_s]; exact x1.1
    · rw [zwr_s, zwr_k _ (by decide)]; exact x1.2
    · rw [zwr_k _ (by decide), zwr_k _ (by decide)]; exact e1
  have bad93 : ∀ (f p r : Int) (M1 : zM) u, f ≠ 0 → zSm zPmk M M1 → M1 125 1 = 0 → zMF f p M1 → (∀ M', zSm zPmk M M' → zMk T L M' → M' 125 7 = f → M' 125 8 = p → M' 125 1 = 0 → Q (-1000000000000000) M') → zX G (y_Md_ask, h + 8 + 1, sl) u 93 [(0, (2, 125)), (1, (0, r))] [] M1 Q := fun f p r M1 u f0 hM1 e1 x1 q => B_Md_ask_93 hsl ⟨fun _ => bad f p r M1 u f0 hM1 e1 x1 q, fun y => absurd (by rw [x1.1]; exact f0) y⟩
  refine m_qKind (h := h + 4) hsl hn (by omega) hx0 (fun ck M1 hm1 g1 => ?_) (fun ck M1 hm1 x1 => ?_)
  · have hv : 0 ≤ zqk B n 0 ∧ zqk B n 0 ≤ 5 := by
      rcases zqk_v B n 0 with a | a
      · exact absurd a ck
      · exact a.1
    rw [if_neg ck] at q
    have z1 := s0.trans (zPmq_k (zPmt_q hm1))
    have e1 : ∀ k, k = 1 ∨ 42 ≤ k → M1 125 k = M0 125 k := fun k hk => hm1 _ _ (by unfold zPmt; omega)
    have hr : zQs 2 zTno 0 B n 0 (zto B n 0) [] [] 0 M1 := by
      refine ⟨g1, ⟨?_, trivial⟩, ⟨?_, trivial⟩, ⟨?_, ?_, ?_⟩, fun y => absurd rfl y⟩
      · rw [e1 _ (by decide), ev]; rfl
      · rw [e1 _ (by decide), ev]; rfl
      · rw [e1 _ (by decide), ev]; rfl
      · rw [e1 _ (by decide), ev]; rfl
      · rw [e1 _ (by decide), ev]; rfl
    have e11 : M1 125 1 = 0 := by rw [e1 _ (by decide), ev]; rfl
    -- behind the sum or the test
    have fin : ∀ (e' : Nat) (D : List Int) (M2 : zM) u, e' ≤ n → D.length ≤ n → zSm zPmq M1 M2 → zQs 2 zTno 0 B n 0 e' D [] 0 M2 → (if zqk B n 0 < 3 then ztestK 2 zTno 0 B n 6 (zto B n 0) else zsumK 2 zTno 0 B n 6 (zto B n 0)) = .inr (e', D) → zty zokQ D [] = some [decide (zqk B n 0 < 3)] → zX G (y_Md_ask, h + 8 + 1, sl) u 93 [(0, (2, 125)), (1, (0, zqk B n 0))] [] M2 Q := fun e' D M2 u he' hD h2 g2 hz hty => by
      rw [hz, zbd_ok] at q
      have z2 := z1.trans (zPmq_k h2)
      have e21 : M2 125 1 = 0 := by rw [h2 _ _ (by unfold zPmq; omega)]; exact e11
      refine B_Md_ask_93 hsl ⟨fun y => absurd g2.1.1.2.2 y, fun _ => m_look hsl hn he' g2.1 (fun M3 h3 g3 => ?_)⟩
      have hr3 := g2.mv (zPwl_mt h3) g3.1
      have z3 := z2.trans (zPmq_k (zPwl_q h3))
      have e31 : M3 125 1 = 0 := by rw [h3 _ _ (by unfold zPwl; omega)]; exact e21
      have hlk : (if zfr B n e' < n then B (zfr B n e' : Nat) else -1) = -1 ↔ zkd B n e' = 0 := by
        have hf := zfr_n (B := B) he'
        by_cases c : zfr B n e' < n
        · rw [if_pos c]
          have hbb := hB (zfr B n e' : Nat) (by omega) (by omega)
          have hk := zkdo_v (B (zfr B n e' : Nat))
          have h0 : zrk B n e' = zkdo (B (zfr B n e' : Nat)) := by unfold zrk; rw [if_pos c]
          constructor
          · intro y; omega
          · intro y; rw [zkd_rk (by omega)] at y; omega
        · rw [if_neg c]
          have h0 : zrk B n e' = 0 := by unfold zrk; rw [if_neg c]
          constructor
          · intro _; unfold zkd; rw [if_neg (by omega)]; exact h0
          · intro _; rfl
      rw [hlk]
      refine ⟨fun d => ?_, fun d => ?_⟩
      · have q := q
        rw [show (if zkd B n (e', D).1 = 0 then (.inr (zqk B n 0, (e', D).2) : zRs (Int × List Int)) else .inl (1, (zfr B n (e', D).1 : Nat))) = .inr (zqk B n 0, D) from if_pos d] at q
        generalize eM4 : zwr (zwr M3 125 7 (M3 125 5)) 125 8 ((zwr M3 125 7 (M3 125 5)) 125 6) = M4
        have s4 : zSm zPmk M M4 := by rw [← eM4]; exact (z3.wr (Or.inl ⟨rfl, by decide⟩)).wr (Or.inl ⟨rfl, by decide⟩)
        have e4 : ∀ a k, ¬ (a = 125 ∧ (k = 7 ∨ k = 8)) → M4 a k = M3 a k := fun a k p => by rw [← eM4, zwr_i, if_neg (by omega), zwr_i, if_neg (by omega)]
        have e47 : M4 125 7 = 0 := by rw [← eM4, zwr_k _ (by decide), zwr_s]; exact g3.1.1.2.2
        have e48 : M4 125 8 = -1 := by rw [← eM4, zwr_s, zwr_k _ (by decide)]; exact g3.1.1.1.2
        -- from 157 on
        have at157 : ∀ s : Int, s = zqa T L (zqk B n 0) D 0 → zX G (y_Md_ask, h + 8 + 1, sl) u 157 [(0, (2, 125)), (1, (0, zqk B n 0))] [(1, s), (2, 125)] M4 Q := fun s es => by
          have s5 : zSm zPmk M (zwr (zwr M4 125 97 s) 125 98 1) := (s4.wr (Or.inl ⟨rfl, by decide⟩)).wr (Or.inl ⟨rfl, by decide⟩)
          have c5 := hC.frK hP.1 s5
          refine B_Md_ask_157 hsl (c_laysAhead (h := h + 2) hsl hP.1 hP.2.1 hP.2.2 c5.1 c5.2.1 (fun M6 h6 _ a6 => ?_))
          have s6 : zSm zPmk M M6 := s5.trans (h6.mono (fun a k p => by unfold zPB at p; unfold zPmk; omega))
          have e6 : ∀ a k, ¬ (a = 125 ∧ (k = 7 ∨ k = 8 ∨ k = 97 ∨ k = 98)) → ¬ zPB a k → M6 a k = M3 a k := fun a k p1 p2 => by rw [h6 a k p2, zwr_i, if_neg (by omega), zwr_i, if_neg (by omega), e4 a k (by omega)]
          refine m_answerL (M0 := M6) (h := h + 5) hsl hP (hC.frK hP.1 s6) a6 hv hty (by rw [e6 _ _ (by omega) (by unfold zPB; omega)]; exact hr3.2.1.1) (by omega) (zSg_eq (fun j => e6 193 j (by omega) (by unfold zPB; omega)) hr3.2.1.2) (fun M7 h7 => ?_) (T.1 8 0).toNat 0 (by omega) (zSm.refl _ M6) ?_ ?_
          · have s7 : zSm zPmk M M7 := s6.trans (h7.mono (fun a k p => by unfold zPaq at p; unfold zPmk; omega))
            have e7 : ∀ k, k = 1 ∨ k = 7 ∨ k = 8 → M7 125 k = M4 125 k := fun k hk => by rw [h7 _ _ (by unfold zPaq; omega), h6 _ _ (by unfold zPB; omega), zwr_k _ (by omega), zwr_k _ (by omega)]
            exact q M7 s7 (hC.frK hP.1 s7) (by rw [e7 7 (by decide)]; exact e47) (by rw [e7 8 (by decide)]; exact e48) (by rw [e7 1 (by decide), e4 _ _ (by decide)]; exact e31)
          · rw [h6 _ _ (by unfold zPB; omega), zwr_k _ (by decide), zwr_s]; exact es
          · rw [h6 _ _ (by unfold zPB; omega), zwr_s]; rfl
        refine B_Md_ask_117 hsl ?_
        rw [eM4, e4 125 5 (by decide)]
        refine ⟨fun _ => ⟨fun k2 => at157 0 (by unfold zqa; rw [if_neg (by omega)]), fun k2 => at157 (-1) (by unfold zqa; rw [if_pos (by omega)])⟩, fun y => absurd g3.1.1.2.2 y⟩
      · have q := q
        rw [show (if zkd B n (e', D).1 = 0 then (.inr (zqk B n 0, (e', D).2) : zRs (Int × List Int)) else .inl (1, (zfr B n (e', D).1 : Nat))) = .inl (1, (zfr B n e' : Nat)) from if_neg d] at q
        rw [g3.2]
        refine m_fail0 hsl g3.1.1.2.2 (fun M4 h4 g4 => bad _ _ _ M4 u (by decide) (z3.trans (zPmq_k (zPmt_q h4))) (by rw [h4 _ _ (by unfold zPmt; omega)]; exact e31) g4 q)
    have ek : zokM 2 0 = zokQ := by unfold zokM; rw [if_pos rfl]
    refine ⟨fun y => absurd g1.1.2.2 y, fun _ => ⟨fun k3 => B_Md_ask_82 hsl ⟨fun y => absurd g1.1.2.2 y, fun _ => ?_⟩, fun k3 => ?_⟩⟩
    · rw [if_neg (by omega)] at q fin
      refine m_qSums (h := h + 2) (T := zTno) (k := 6) hsl (Or.inr (Or.inr rfl)) hn (by omega) (by omega) (by omega) hb.2.1 (fun x _ _ y => by rw [List.head?_nil] at y; nomatch y) (by simp) hr (fun e' D hz M2 h2 g2 => ?_) (fun f p hz M2 h2 x2 _ => ?_)
      · have g := zsumK_gd (m := 0) (by omega) hb.2.1 hz
        rw [ek] at g
        exact fin e' D M2 _ g.2.1 (by omega) h2 g2 hz (by rw [decide_eq_false (by omega)]; exact g.2.2)
      · rw [hz, zbd_no] at q
        exact bad93 f p _ M2 _ (zsumK_nz _ _ _ hz) (z1.trans (zPmq_k h2)) (by rw [h2 _ _ (by unfold zPmq; omega)]; exact e11) x2 q
    · rw [if_pos (by omega)] at q fin
      refine m_qTest (h := h) (T := zTno) hsl (Or.inr (Or.inr rfl)) hn (by omega) hb.2.1 (by simp) hr (fun e' D hz M2 h2 g2 => ?_) (fun f p hz M2 h2 x2 => ?_)
      · have g := ztestK_gd (m := 0) (by omega) hb.2.1 hz
        rw [ek] at g
        exact fin e' D M2 _ g.2.1 (by omega) h2 g2 hz (by rw [decide_eq_true (by omega)]; exact g.2.2)
      · rw [hz, zbd_no] at q
        exact bad93 f p _ M2 _ (ztestK_nz _ _ _ hz) (z1.trans (zPmq_k h2)) (by rw [h2 _ _ (by unfold zPmq; omega)]; exact e11) x2 q
  · rw [if_pos ck] at q
    have z1 := s0.trans (zPmq_k (zPmt_q hm1))
    have e11 : M1 125 1 = 0 := by rw [hm1 _ _ (by unfold zPmt; omega), ev]; rfl
    have hb5 : ¬ M1 125 5 = 0 := by rw [x1.1]; decide
    refine ⟨fun _ => B_Md_ask_82 hsl ⟨fun _ => bad93 1 _ 5 M1 _ (by decide) z1 e11 x1 q, fun y => absurd hb5 y⟩, fun y => absurd hb5 y⟩
