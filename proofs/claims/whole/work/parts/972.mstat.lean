/-! A STATEMENT, the Model. -/
theorem zbd_as {α β γ : Type} (x : zRs α) (g : α → zRs β) (f : β → zRs γ) : zbd (zbd x g) f = zbd x (fun a => zbd (g a) f) := by
  cases x <;> rfl
theorem zMt.mv {T : zTb} {s : Nat} {B : Int → Int} {n e e' : Nat} {M M' : zM} (h : zMt T s B n e M) (hM : zSm zPmt M M') (hx : zMd B n e' M') : zMt T s B n e' M' := by
  obtain ⟨_, ⟨b1, b2⟩, ⟨c1, c2, c3⟩, cc, cm⟩ := h
  have up : ∀ a k, a ≠ 125 → M' a k = M a k := fun a k p => hM a k (by unfold zPmt; omega)
  refine ⟨hx, ⟨by rw [up _ _ (by decide)]; exact b1, fun c a b => by rw [up _ _ (by decide)]; exact b2 c a b⟩, ⟨by rw [up _ _ (by decide)]; exact c1, by rw [hM _ _ (by unfold zPmt; omega)]; exact c2, by rw [hM _ _ (by unfold zPmt; omega)]; exact c3⟩, fun c c0 cn => (cc c c0 cn).tr (fun _ => rfl) rfl (fun k _ _ => up _ _ (by decide)) (up _ _ (by decide)) (up _ _ (by decide)) (Nat.le_refl _) (fun k _ _ => up _ _ (by decide)), ?_⟩
  rw [up 161 8 (by decide)]
  rcases cm with x | x
  · exact Or.inl x
  · exact Or.inr ⟨x.1, x.2.tr rfl (up _ _ (by decide)) (up _ _ (by decide)) (Nat.le_refl _) (fun k _ _ => up _ _ (by decide))⟩
theorem zMt_stm {T : zTb} {s : Nat} {B : Int → Int} {n e : Nat} {M : zM} (hT : zTok T) (h : zMt T s B n e M) : zMt (zset T 8 2 (T.1 8 2 + 1)) s B n e (zwr M 125 49 (M 125 49 + 1)) := by
  obtain ⟨a, ⟨b1, b2⟩, ⟨c1, c2, c3⟩, cc, cm⟩ := h
  have h0 := hT.1
  have h8 := hT.2.1
  have w : ∀ a k, ¬ (a = 125 ∧ k = 49) → (zwr M 125 49 (M 125 49 + 1)) a k = M a k := fun a k p => by rw [zwr_i, if_neg p]
  have w3 : (zwr M 125 49 (M 125 49 + 1)) 125 49 = T.1 8 2 + 1 := by rw [zwr_s, c2]
  generalize zwr M 125 49 (M 125 49 + 1) = M4 at w w3
  have ne : ∀ a b, ¬ (a = 8 ∧ b = 2) → (zset T 8 2 (T.1 8 2 + 1)).1 a b = T.1 a b := fun a b p => if_neg p
  have n1 : (zset T 8 2 (T.1 8 2 + 1)).1 8 2 = T.1 8 2 + 1 := zset_s _ _ _ _
  refine ⟨a.fr (fun a k p => w a k (by omega)), ⟨by rw [w _ _ (by omega), ne _ _ (by decide)]; exact b1, fun c c0 cn => ?_⟩, ⟨by rw [w _ _ (by omega), ne _ _ (by decide)]; exact c1, by rw [w3, n1], by rw [w _ _ (by omega)]; exact c3⟩, fun c c0 cn => ?_, ?_⟩
  · rw [ne _ _ (by decide)] at cn
    rw [w _ _ (by omega)]
    exact zNm1_eq (fun k => ne _ _ (by omega)) (b2 c c0 cn)
  · rw [ne _ _ (by decide)] at cn
    exact (cc c c0 cn).tr (fun k => ne _ _ (by omega)) rfl (fun k _ _ => w _ _ (by omega)) (w _ _ (by omega)) (w _ _ (by omega)) (Nat.le_refl _) (fun k _ _ => w _ _ (by omega))
  · rw [ne _ _ (by decide), w 161 8 (by omega)]
    rcases cm with x | x
    · exact Or.inl x
    · exact Or.inr ⟨x.1, x.2.tr rfl (w _ _ (by omega)) (w _ _ (by omega)) (Nat.le_refl _) (fun k _ _ => w _ _ (by omega))⟩
def zPts : Int → Int → Prop := fun a k => zPtm a k ∨ a = 125 ∧ k = 49
theorem zPtm_ts {M M' : zM} (h : zSm zPtm M M') : zSm zPts M M' := h.mono (fun a k p => Or.inl p)
theorem zstat_col {B : Int → Int} {n : Nat} {T : zTb} {s e : Nat} {so : Int} (hso : zsrt B n e = so) (hne : ¬ so = -1) (n1 : ¬ zwrd B n e zo_slip = true) (n2 : ¬ zwrd B n e zo_marks = true) (h8 : T.1 8 0 < 8) : zstat B n T s e = zbd (zbd (znam T (T.1 8 0).toNat B n (zto B n e)) (fun e1 => zcdf T (T.1 8 0).toNat B n so (zlts B n (zto B n e)) e1)) (fun r => .inr (zset (zadd T (T.1 8 0) r.2.1 r.2.2) 8 0 (T.1 8 0 + 1), s + r.2.2.length, r.1)) := by
  unfold zstat
  rw [if_neg n1, if_neg n2, hso, if_neg hne, if_neg (by omega), zbd_as]
theorem m_statementTold {G : zG} {h sl : Nat} (hsl : 2 ≤ sl) {T : zTb} {s : Nat} {B : Int → Int} {n e : Nat} {M : zM} {Q : Int → zM → Prop} (hn : n ≤ 1600) (hT : zTok T) (he : e ≤ n) (hs : s ≤ e) (hr : zMt T s B n e M) (h2 : M 125 2 = (zfr B n e : Nat))
    (qo : ¬ T.1 8 2 = 60 → ∀ T' s' e1 e2, zstat B n T s e = .inr (T', s', e1) → zsgn B n e1 59 = .inr e2 → ∀ M', zSm zPts M M' → zMt (zset T' 8 2 (T'.1 8 2 + 1)) s' B n e2 M' → Q 0 M')
    (q60 : T.1 8 2 = 60 → ∀ M', zSm zPts M M' → zMF 5 (zfr B n e : Nat) M' → Q 0 M')
    (qn : ¬ T.1 8 2 = 60 → ∀ f p, zbd (zstat B n T s e) (fun r => zsgn B n r.2.2 59) = .inl (f, p) → f ≠ 0 → ∀ M', zSm zPts M M' → zMF f p M' → Q 0 M') : zCt G (h + 12) sl 0 0 y_Md_statementTold [(2, 125)] M Q := by
  have h0 := hT.1
  have h8 := hT.2.1
  have st0 := hT.2.2.2.2.1
  have st1 := hT.2.2.2.2.2.1
  have e49 : M 125 49 = T.1 8 2 := hr.2.2.1.2.1
  have hx := hr.1
  have hb := zto_b (B := B) he
  refine E_Md_statementTold hsl ⟨fun c60 => ?_, fun c60 => ?_⟩
  rotate_left
  · have c60 := Classical.byContradiction c60
    rw [e49] at c60
    rw [h2]
    exact m_fail0 hsl hx.1.2.2 (fun M1 h1 x1 => q60 c60 M1 (zPtm_ts (zPmt_tm h1)) x1)
  rw [e49] at c60
  have qo := qo c60
  have qn := qn c60
  -- behind the statement
  have bad : ∀ (f p : Int) (M5 : zM) u, zstat B n T s e = .inl (f, p) → f ≠ 0 → zSm zPtm M M5 → zMF f p M5 → zX G (y_Md_statementTold, h + 11 + 1, sl) u 167 [(0, (2, 125))] [] M5 Q := fun f p M5 u hz f0 h5 x5 => by
    refine B_Md_statementTold_167 hsl (m_asksSignF (h := h + 10) hsl (by rw [x5.1]; exact f0) ?_)
    have e5 : M5 125 49 = T.1 8 2 := by rw [h5 _ _ (by unfold zPtm; omega)]; exact e49
    exact ⟨by unfold zI; omega, qn f p (by rw [hz, zbd_no]) f0 _ ((zPtm_ts h5).wr (Or.inr ⟨rfl, rfl⟩)) ⟨by rw [zwr_k _ (by decide)]; exact x5.1, by rw [zwr_k _ (by decide)]; exact x5.2⟩⟩
  have fin : ∀ (T' : zTb) (s' e1 : Nat) (M5 : zM) u, zstat B n T s e = .inr (T', s', e1) → zSm zPtm M M5 → zMt T' s' B n e1 M5 → zX G (y_Md_statementTold, h + 11 + 1, sl) u 167 [(0, (2, 125))] [] M5 Q := fun T' s' e1 M5 u hz h5 g5 => by
    have ok := zstat_ok hT he hs hz
    have hsz : zsgn B n e1 59 = if zsg B n e1 59 = true then .inr (zto B n e1) else .inl (1, (zfr B n e1 : Nat)) := rfl
    refine B_Md_statementTold_167 hsl (m_asksSign (h := h + 9) hsl hn ok.2.2.2.2 g5.1 (by decide) (by decide) (fun c M6 h6 x6 => ?_) (fun c M6 h6 x6 => ?_))
    · have g6 := g5.mv h6 x6
      have e6 : M6 125 49 = T'.1 8 2 := g6.2.2.1.2.1
      have st1' := ok.1.2.2.2.2.2.1
      have st0' := ok.1.2.2.2.2.1
      exact ⟨by unfold zI; omega, qo T' s' e1 (zto B n e1) hz (hsz.trans (if_pos c)) _ ((zPtm_ts (h5.trans (zPmt_tm h6))).wr (Or.inr ⟨rfl, rfl⟩)) (zMt_stm ok.1 g6)⟩
    · have e6 : M6 125 49 = T.1 8 2 := by rw [h6 _ _ (by unfold zPmt; omega), h5 _ _ (by unfold zPtm; omega)]; exact e49
      exact ⟨by unfold zI; omega, qn _ _ (by rw [hz, zbd_ok]; exact hsz.trans (if_neg c)) (by decide) _ ((zPtm_ts (h5.trans (zPmt_tm h6))).wr (Or.inr ⟨rfl, rfl⟩)) ⟨by rw [zwr_k _ (by decide)]; exact x6.1, by rw [zwr_k _ (by decide)]; exact x6.2⟩⟩
  -- a column
  have col : ∀ (so : Int) (M2 : zM), zsrt B n e = so → 0 ≤ so ∧ so ≤ 3 → ¬ zwrd B n e zo_slip = true → ¬ zwrd B n e zo_marks = true → zSm zPmt M M2 → zMd B n (zto B n e) M2 → zCt G (h + 11) sl 0 0 y_Md_columnTold [(2, 125), (0, so), (0, M 125 2)] M2 (fun _ M' => zX G (y_Md_statementTold, h + 11 + 1, sl) (0, 0, 0, 0) 167 [(0, (2, 125))] [] M' Q) := fun so M2 hso b n1 n2 hM2 x2 => by
    have g2 := hr.mv hM2 x2
    by_cases c8 : T.1 8 0 < 8
    · have ez := zstat_col (s := s) (T := T) hso (by omega) n1 n2 c8
      refine m_columnTold (h := h) hsl hn hT c8 b hb.2.1 (by have := zfr_le B n e; omega) g2 (fun r hz M5 h5 g5 => fin _ _ _ M5 _ (by rw [ez, hz, zbd_ok]) ((zPmt_tm hM2).trans h5) g5) (fun f p hz f0 M5 h5 x5 => bad f p M5 _ (by rw [ez, hz, zbd_no]) f0 ((zPmt_tm hM2).trans h5) x5)
    · have e8 : M2 158 0 = 8 := by have := g2.2.1.1; omega
      refine E_Md_columnTold hsl ⟨fun y => absurd x2.1.2.2 y, fun _ => ⟨fun y => absurd e8 y, fun _ => m_fail0 hsl x2.1.2.2 (fun M3 h3 x3 => ⟨fun y => absurd y (by rw [x3.1]; decide), fun _ => ?_⟩)⟩⟩
      rw [h2] at x3
      refine bad _ _ M3 _ ?_ (by decide) ((zPmt_tm hM2).trans (zPmt_tm h3)) x3
      unfold zstat
      rw [if_neg n1, if_neg n2, hso, if_neg (by omega), if_pos (by omega)]
  have ux : ∀ {v w : List Int}, v ≠ w → zwrd B n e v = true → ¬ zwrd B n e w = true := fun hne hv hw => hne (zwrd_uq hv hw)
  have sz : zsrt B n e = if zwrd B n e zo_zig = true then 0 else if zwrd B n e zo_arc = true then 1 else if zwrd B n e zo_ring = true then 2 else if zwrd B n e zo_sum = true then 3 else -1 := rfl
  refine m_takes (h := h + 9) hsl hn he hx zo_128 (by decide) (fun c M1 h1 x1 => ⟨fun y => absurd y (by decide), fun _ => col 0 M1 (by rw [sz, if_pos c]) (by decide) (ux (by decide) c) (ux (by decide) c) h1 x1⟩) (fun c M1 h1 x1 => ⟨fun _ => ?_, fun y => absurd rfl y⟩)
  rw [if_neg c] at sz
  refine m_takes (h := h + 9) hsl hn he x1.1 zo_129 (by decide) (fun c M2 h2' x2 => ⟨fun y => absurd y (by decide), fun _ => col 1 M2 (by rw [sz, if_pos c]) (by decide) (ux (by decide) c) (ux (by decide) c) (h1.trans h2') x2⟩) (fun c M2 h2' x2 => ⟨fun _ => ?_, fun y => absurd rfl y⟩)
  rw [if_neg c] at sz
  refine m_takes (h := h + 9) hsl hn he x2.1 zo_130 (by decide) (fun c M3 h3 x3 => ⟨fun y => absurd y (by decide), fun _ => col 2 M3 (by rw [sz, if_pos c]) (by decide) (ux (by decide) c) (ux (by decide) c) ((h1.trans h2').trans h3) x3⟩) (fun c M3 h3 x3 => ⟨fun _ => ?_, fun y => absurd rfl y⟩)
  rw [if_neg c] at sz
  refine m_takes (h := h + 9) hsl hn he x3.1 zo_131 (by decide) (fun c M4 h4 x4 => ⟨fun y => absurd y (by decide), fun _ => col 3 M4 (by rw [sz, if_pos c]) (by decide) (ux (by decide) c) (ux (by decide) c) (((h1.trans h2').trans h3).trans h4) x4⟩) (fun c M4 h4 x4 => ⟨fun _ => ?_, fun y => absurd rfl y⟩)
  rw [if_neg c] at sz
  have s4 := ((h1.trans h2').trans h3).trans h4
  refine m_takes (h := h + 9) hsl hn he x4.1 zo_142 (by decide) (fun cm M5 h5 x5 => ⟨fun y => absurd y (by decide), fun _ => ⟨fun y => absurd x5.1.2.2 y, fun _ => ?_⟩⟩) (fun cm M5 h5 x5 => ⟨fun _ => ?_, fun y => absurd rfl y⟩)
  · -- marks
    have s5 := s4.trans h5
    have g5 := hr.mv s5 x5
    have ez : zstat B n T s e = if T.1 8 3 = 0 then zbd (ztestK 1 T (T.1 8 0).toNat B n 6 (zto B n e)) (fun r => .inr (zset (T.1, fun a => if a = 8 then r.2 else T.2 a) 8 3 1, s + r.2.length, r.1)) else .inl (5, (zfr B n e : Nat)) := by
      unfold zstat
      rw [if_neg (ux (by decide) cm), if_pos cm]
    have hse : s ≤ zto B n e := by have := zfr_le B n e; omega
    have mk := g5.2.2.2.2
    refine ⟨fun c8 => ?_, fun c8 => ?_⟩
    · have c3 : T.1 8 3 = 0 := by
        rcases mk with a | a
        · exact a.1
        · have := a.2.1; omega
      rw [if_pos c3] at ez
      refine B_Md_statementTold_136 hsl (m_reads (h := h + 2) (T := T) (m := (T.1 8 0).toNat) (wh := 8) (md := 1) (s := s) hsl hn (by omega) hb.2.1 x5 g5.2.1 (Or.inl ⟨rfl, rfl⟩) (by omega) hse g5.2.2.1.2.2 (fun e' D hz M6 h6 x6 a1 a2 a3 a4 => ?_) (fun f p hz M6 h6 x6 => ?_))
      · rw [if_pos rfl] at hz
        refine fin (zset (T.1, fun a => if a = 8 then D else T.2 a) 8 3 1) (s + D.length) e' M6 _ (by rw [ez, hz, zbd_ok]) ((zPmt_tm s5).trans (zPkc_tm (by decide) h6)) ?_
        have u : ∀ a k, ¬ zPkc 8 s a k → M6 a k = M5 a k := fun a k p => h6 a k p
        obtain ⟨_, ⟨b1, b2⟩, ⟨d1, d2, d3⟩, cc, _⟩ := g5
        have ne : ∀ a b, ¬ (a = 8 ∧ b = 3) → (zset (T.1, fun a => if a = 8 then D else T.2 a) 8 3 1).1 a b = T.1 a b := fun a b p => if_neg p
        have n1 : (zset (T.1, fun a => if a = 8 then D else T.2 a) 8 3 1).1 8 3 = 1 := zset_s _ _ _ _
        have n2 : ∀ a, a ≠ 8 → (zset (T.1, fun a => if a = 8 then D else T.2 a) 8 3 1).2 a = T.2 a := fun a p => zmk_e T D p
        have n3 : (zset (T.1, fun a => if a = 8 then D else T.2 a) 8 3 1).2 8 = D := zmk_d T D
        refine ⟨x6, ⟨by rw [u _ _ (by unfold zPkc zPmq; omega), ne _ _ (by decide)]; exact b1, fun c c0 cn => ?_⟩, ⟨by rw [u _ _ (by unfold zPkc zPmq; omega), ne _ _ (by decide)]; exact d1, by rw [u _ _ (by unfold zPkc zPmq; omega), ne _ _ (by decide)]; exact d2, by rw [a1]; omega⟩, fun c c0 cn => ?_, Or.inr ⟨n1, ?_⟩⟩
        · rw [ne _ _ (by decide)] at cn
          rw [u _ _ (by unfold zPkc zPmq; omega)]
          exact zNm1_eq (fun k => ne _ _ (by omega)) (b2 c c0 cn)
        · rw [ne _ _ (by decide)] at cn
          exact (cc c c0 cn).tr (fun k => ne _ _ (by omega)) (n2 _ (by omega)) (fun k _ _ => u _ _ (by unfold zPkc zPmq; omega)) (u _ _ (by unfold zPkc zPmq; omega)) (u _ _ (by unfold zPkc zPmq; omega)) (by omega) (fun k _ hk => u _ _ (by unfold zPkc zPmq; omega))
        · unfold zTuC
          rw [n3, a2, a3]
          exact ⟨by omega, rfl, by omega, a4⟩
      · rw [if_pos rfl] at hz
        exact bad f p M6 _ (by rw [ez, hz, zbd_no]) (ztestK_nz _ _ _ hz) ((zPmt_tm s5).trans (zPkc_tm (by decide) h6)) x6
    · have c3 : ¬ T.1 8 3 = 0 := fun y => by
        rcases mk with a | a
        · exact c8 a.2
        · have := a.1; omega
      rw [if_neg c3] at ez
      rw [h2]
      refine m_fail0 hsl x5.1.2.2 (fun M6 h6 x6 => B_Md_statementTold_136 hsl (m_readsF (h := h + 10) hsl (by rw [x6.1]; decide) (bad _ _ M6 _ ez (by decide) (zPmt_tm (s5.trans h6)) x6)))
  · -- slip
    have s5 := s4.trans h5
    refine m_asks (h := h + 8) hsl hn he x5.1 zo_143 (by decide) (fun cs M6 h6 x6 => ?_) (fun cs M6 h6 x6 => ?_)
    · have s6 := s5.trans h6
      have g6 := hr.mv s6 x6
      have ez : zstat B n T s e = zbd (znum B n (zto B n e) 0 100) (fun r => .inr (zset T 8 1 r.2, s, r.1)) := by
        unfold zstat
        rw [if_pos cs]
      refine m_number (h := h + 10) hsl hn hb.2.1 x6 (fun e' v hz M7 h7 x7 => ?_) (fun f p hz r M7 r0 r9 h7 x7 => ?_)
      · have g7 := g6.mv h7 x7
        refine fin (zset T 8 1 v) s e' _ _ (by rw [ez, hz, zbd_ok]) ((zPmt_tm (s6.trans h7)).wr (by unfold zPtm; omega)) ?_
        obtain ⟨a, ⟨b1, b2⟩, ⟨d1, d2, d3⟩, cc, mk⟩ := g7
        have w : ∀ a k, ¬ (a = 158 ∧ k = 1) → (zwr M7 158 1 v) a k = M7 a k := fun a k p => by rw [zwr_i, if_neg p]
        have w1 : (zwr M7 158 1 v) 158 1 = v := zwr_s _ _ _ _
        generalize zwr M7 158 1 v = M8 at w w1
        have ne : ∀ a b, ¬ (a = 8 ∧ b = 1) → (zset T 8 1 v).1 a b = T.1 a b := fun a b p => if_neg p
        have n1 : (zset T 8 1 v).1 8 1 = v := zset_s _ _ _ _
        refine ⟨a.fr (fun a k p => w a k (by omega)), ⟨by rw [w _ _ (by omega), ne _ _ (by decide)]; exact b1, fun c c0 cn => ?_⟩, ⟨by rw [w1, n1], by rw [w _ _ (by omega), ne _ _ (by decide)]; exact d2, by rw [w _ _ (by omega)]; exact d3⟩, fun c c0 cn => ?_, ?_⟩
        · rw [ne _ _ (by decide)] at cn
          rw [w _ _ (by omega)]
          exact zNm1_eq (fun k => ne _ _ (by omega)) (b2 c c0 cn)
        · rw [ne _ _ (by decide)] at cn
          exact (cc c c0 cn).tr (fun k => ne _ _ (by omega)) rfl (fun k _ _ => w _ _ (by omega)) (w _ _ (by omega)) (w _ _ (by omega)) (Nat.le_refl _) (fun k _ _ => w _ _ (by omega))
        · rw [ne _ _ (by decide), w 161 8 (by omega)]
          rcases mk with x | x
          · exact Or.inl x
          · exact Or.inr ⟨x.1, x.2.tr rfl (w _ _ (by omega)) (w _ _ (by omega)) (Nat.le_refl _) (fun k _ _ => w _ _ (by omega))⟩
      · exact bad f p _ _ (by rw [ez, hz, zbd_no]) (znum_no hz) ((zPmt_tm (s6.trans h7)).wr (by unfold zPtm; omega)) ⟨by rw [zwr_o _ (by decide)]; exact x7.1, by rw [zwr_o _ (by decide)]; exact x7.2⟩
    · have ez : zstat B n T s e = .inl (1, (zfr B n e : Nat)) := by
        unfold zstat
        rw [if_neg cs, if_neg cm, sz, if_pos rfl]
      refine E_Md_number hsl ⟨fun y => absurd y (by rw [x6.1]; decide), fun _ => bad _ _ _ _ ez (by decide) ((zPmt_tm (s5.trans h6)).wr (by unfold zPtm; omega)) ⟨by rw [zwr_o _ (by decide)]; exact x6.1, by rw [zwr_o _ (by decide)]; exact x6.2⟩⟩
