/-! PARSER, the Model's machine: a part. -/
/-- what may stand inside, one deeper -/
def zMi (G : zG) (h sl : Nat) (u : Nat × Nat × Nat × Nat) (l1 : Int) (Q : Int → zM → Prop) (M0 : zM) (md : Int) (T : zTb) (m : Nat) (B : Int → Int) (n bs : Nat) (op : Int) (ok : Int → Bool) (dp : Nat) (I : Option zPfu) : Prop :=
  (I = none → ¬ op < 6) ∧ ∀ f, I = some f → op < 6 ∧ zMc G h sl u l1 Q M0 md T m B n bs (op + 1) f ∧ zGd ok n dp false f
theorem zMF.fr {f p : Int} {M M' : zM} (h : zMF f p M) (e5 : M' 125 5 = M 125 5) (e6 : M' 125 6 = M 125 6) : zMF f p M' := ⟨by rw [e5]; exact h.1, by rw [e6]; exact h.2⟩
/-- min and max, behind their word -/
theorem m_pair101 {G : zG} {h sl : Nat} (hsl : 2 ≤ sl) {u u' : Nat × Nat × Nat × Nat} {l1 l4 : Int} {Q : Int → zM → Prop} {M0 M : zM} {md : Int} {T : zTb} {m : Nat} {B : Int → Int} {n bs e dp : Nat} {ok : Int → Bool} {C os W : List Int} {op0 op b j : Int} {I : Option zPfu} (hn : n ≤ 1600) (he : e ≤ n) (hl : C.length + os.length + W.length + 1 ≤ e) (ho6 : os.length ≤ 6) (hos : ∀ x ∈ os, 60 ≤ x) (hW : zstq bs W) (h0 : 0 ≤ op0) (hop : op0 + os.length = op) (ho : 0 ≤ op ∧ op ≤ 6) (hI : zMi G h sl u l1 Q M0 md T m B n bs op ok dp I) (hb : l4 = 0 ∧ b = 22 ∧ j = 6 ∨ l4 = 1 ∧ b = 21 ∧ j = 5) (hM : zSm zPmq M0 M) (hr : zQs md T m B n bs e C (os ++ W) op M) (qo : ∀ e' D, zpair B n I e j = .inr (e', D) → zAF G h sl u l1 Q M0 md T m B n bs e' (C ++ D ++ os) W op0) (qn : ∀ f p, zpair B n I e j = .inl (f, p) → zFL Q M0 f p) : zX G (y_Md_qPartTold, h + 4 + 1, sl) u' 101 [(0, (2, 125)), (1, (0, 1)), (4, (0, l4))] [] M (zQP G (h + 5) sl u l1 Q) := by
  have hbw : bs ≤ W.length := hW.1
  unfold zpair at qo qn
  refine B_Md_qPartTold_101 hsl (m_look hsl hn he hr.1 (fun M1 h1 g1 => ?_))
  have hr1 := hr.mv (zPwl_mt h1) g1.1
  have hM1 := hM.trans (zPwl_q h1)
  rw [zlk_s (by decide) (by decide)]
  refine ⟨fun c => ?_, fun c => ?_⟩
  · rw [if_pos c] at qn
    refine B_Md_qPartTold_118 hsl ⟨fun _ => B_Md_qPartTold_144 hsl (m_asksSign hsl hn he g1.1 (by decide) (by decide) (fun c2 => absurd c2 c) (fun _ M2 h2 g2 => ?_)), fun y => absurd rfl y⟩
    exact (qn _ _ rfl).P2 hsl (by decide) (hM1.trans (zPmt_q h2)) g2 ((hr1.c9 (by omega)).mt h2)
  · have c : zsg B n e 40 = true := Classical.byContradiction c
    rw [if_neg (fun y => y c)] at qo qn
    have hbe := zsg_e he c
    -- behind qOpens
    have opn : zCt G (h + 4) sl 0 0 y_Md_qOpens [(2, 125), (0, b), (0, M1 125 2)] M1 (fun r1 M2 => zX G (y_Md_qPartTold, h + 4 + 1, sl) u' 144 [(0, (2, 125)), (1, (0, 1))] [] M2 (zQP G (h + 5) sl u l1 Q)) := by
      refine m_qOpens (op := op) hsl hr1 (by simp only [List.length_append]; omega) ho (fun c6 M2 h2 e2 g2 => ?_) (fun c6 M2 h2 e2 e9 g2 => ?_)
      · cases ci : I with
        | none => exact absurd c6 (hI.1 ci)
        | some f =>
          rw [ci, zins_s] at qo qn
          have hf := hI.2 f ci
          have hM2 := hM1.trans h2
          refine B_Md_qPartTold_144 hsl (m_asksSign hsl hn he g2.1 (by decide) (by decide) (fun _ M3 h3 g3 => ?_) (fun y => absurd c y))
          have hr3 := g2.mv h3 g3
          have hM3 := hM2.trans (zPmt_q h3)
          have hbh : ∀ x : Int, x = 21 ∨ x = 22 ∨ x = 23 ∨ x = 24 → ∀ y : Int, 1 ≤ y → y ≤ 4 → ¬ (x :: (os ++ W)).head? = some y := fun x hx y y1 y4 z => by
            rw [List.head?_cons] at z; injection z with z; omega
          have ap : zAP G h sl u l1 Q M0 md T m B n bs (zto B n e) C (b :: (os ++ W)) (op + 1) := by
            refine m_sum hsl hn (by omega) hf.2.1 hf.2.2 hbe.2 (hbh b (by omega)) ⟨by simp only [List.length_cons, List.length_append]; omega, Or.inr ⟨b, os ++ W, rfl, by omega⟩⟩ (by simp only [List.length_cons, List.length_append]; omega) (fun e1 D1 z1 P1 C1 hP1 hc1 hp1 hs1 he1 hl1 => ?_) (fun f p z1 => qn f p (by rw [z1, zbd_no]))
            have hlen : C1.length + P1.length = C.length + D1.length := by
              have := congrArg List.length hc1
              simp only [List.length_append] at this
              exact this
            refine m_comma hsl hn he1 hp1 hs1 hP1 (by omega) (by simp only [List.length_append]; omega) (by simp only [List.length_append]; omega) (fun c4 => ?_) (fun c4 => qn _ _ (by rw [z1, zbd_ok]; unfold zsgn; rw [if_neg c4]; rfl))
            have hb4 := zsg_e he1 c4
            rw [hc1]
            refine m_sum hsl hn (by omega) hf.2.1 hf.2.2 hb4.2 (hbh (b + 2) (by omega)) ⟨by simp only [List.length_cons, List.length_append]; omega, Or.inr ⟨b + 2, os ++ W, rfl, by omega⟩⟩ (by simp only [List.length_cons, List.length_append]; omega) (fun e2 D2 z2 P2 C2 hP2 hc2 hp2 hs2 he2 hl2 => ?_) (fun f p z2 => qn f p (by rw [z1, zbd_ok]; show zbd (zsgn B n e1 44) _ = _; unfold zsgn; rw [if_pos c4, zbd_ok, z2, zbd_no]))
            have hlen2 : C2.length + P2.length = C.length + D1.length + D2.length := by
              have := congrArg List.length hc2
              simp only [List.length_append] at this
              omega
            have q1 : zsg B n e2 41 = true → zAF G h sl u l1 Q M0 md T m B n bs (zto B n e2) (C2 ++ P2 ++ [j] ++ os) W op0 := fun c5 => by
              have := qo (zto B n e2) (D1 ++ D2 ++ [j]) (by rw [z1, zbd_ok]; show zbd (zsgn B n e1 44) _ = _; unfold zsgn; rw [if_pos c4, zbd_ok, z2, zbd_ok]; show zbd (if zsg B n e2 41 = true then _ else _) _ = _; rw [if_pos c5]; rfl)
              rw [hc2]
              simpa only [List.append_assoc] using this
            have q2 : ¬ zsg B n e2 41 = true → zFL Q M0 1 (zfr B n e2 : Nat) := fun c5 => qn _ _ (by rw [z1, zbd_ok]; show zbd (zsgn B n e1 44) _ = _; unfold zsgn; rw [if_pos c4, zbd_ok, z2, zbd_ok]; show zbd (if zsg B n e2 41 = true then _ else _) _ = _; rw [if_neg c5]; rfl)
            have := m_close (X := [j]) (b := b + 2) (op := op0) hsl hn he2 hp2 hs2 hP2 (by rcases hb with a | a <;> rw [a.2.1, a.2.2] <;> decide) hW hos (by omega) ho6 (by omega) q1 q2
            rw [hop] at this
            exact this
          exact ap M3 u' hM3 hr3
      · cases ci : I with
        | none =>
          rw [ci] at qn
          have g2' : zMF 4 (zfr B n e : Nat) M2 := by rw [← g1.2]; exact g2
          refine B_Md_qPartTold_144 hsl (m_asksSignF hsl (by rw [g2.1]; decide) ((qn _ _ rfl).P2 hsl (by decide) (hM1.trans h2) g2' (by unfold zc9; rw [e9]; exact hr1.c9 (by omega))))
        | some f => exact absurd (hI.2 f ci).1 c6
    have hat := zfr_n (B := B) he
    refine B_Md_qPartTold_118 hsl ⟨fun y => absurd y (by rw [g1.2]; omega), fun _ => ?_⟩
    rcases hb with a | a
    · rw [a.2.1] at opn
      exact ⟨fun _ => B_Md_qPartTold_139 hsl opn, fun y => absurd a.1 y⟩
    · rw [a.2.1] at opn
      exact ⟨fun y => absurd (a.1.symm.trans y) (by decide), fun _ => B_Md_qPartTold_139 hsl opn⟩
theorem m_partS {G : zG} {h sl : Nat} (hsl : 2 ≤ sl) {u : Nat × Nat × Nat × Nat} {l1 : Int} {Q : Int → zM → Prop} {M0 : zM} {md : Int} {T : zTb} {m : Nat} {B : Int → Int} {n bs dp : Nat} {ok : Int → Bool} {op : Int} {I : Option zPfu} (hmd : md = 0 ∨ md = 1 ∨ md = 2) (hn : n ≤ 1600) (hm : m ≤ 8) (ho : 0 ≤ op ∧ op ≤ 6) (hI : zMi G h sl u l1 Q M0 md T m B n bs op ok dp I) : zMc G h sl u l1 Q M0 md T m B n bs op (zpartS md T m B n I) := fun e C os W he hl ho6 hos hW op0 h0 hop qo qn M u' hM hr => by
  have hbw : bs ≤ W.length := hW.1
  have zv := zwh_v B n e
  have zv1 : -1 ≤ zwh B n e ∧ zwh B n e ≤ 7 := by
    rcases zv with a | a
    · omega
    · omega
  have k6 : zwrd B n e zo_ahead = true ↔ zwh B n e = 6 := zwh_k (k := 6) (by decide) (by decide)
  have k7 : zwrd B n e zo_col = true ↔ zwh B n e = 7 := zwh_k (k := 7) (by decide) (by decide)
  unfold zpartS at qo qn
  refine B_Md_qPartTold_2 hsl ⟨fun y => absurd y (by decide), fun _ => ⟨fun y => absurd hr.1.1.2.2 y, fun _ => m_look hsl hn he hr.1 (fun M1 h1 g1 => m_qWordOf1 (h := h + 1) hsl hn he g1.1 (by rw [h1 _ _ (by unfold zPwl; omega)]; exact hr.2.2.2.1.2.2) hmd (fun r3 M2 hr3 h2 g2 => ?_))⟩⟩
  have h12 := h1.trans h2
  have hr2 := hr.mv (zPwl_mt h12) g2.1
  have hM2 := hM.trans (zPwl_q h12)
  have hc3 : (r3 = -1 ∧ ¬ (md = 2 ∧ (zwrd B n e zo_ahead = true ∨ zwrd B n e zo_col = true))) ∨ ((r3 = 6 ∨ r3 = 7) ∧ r3 = zwh B n e ∧ md = 2 ∧ (zwrd B n e zo_ahead = true ∨ zwrd B n e zo_col = true)) := by
    rw [k6, k7]
    unfold zalw at hr3
    omega
  rw [zlk_s (by decide) (by decide)]
  refine ⟨fun c1 => ?_, fun c1 => ?_⟩
  · rw [if_neg c1] at qo qn
    refine m_isH hsl hn he g2.1 zo_183 (by decide) (fun c2 M3 h3 g3 => ⟨fun _ => ?_, fun y => absurd (by decide) y⟩) (fun c2 M3 h3 g3 => ⟨fun y => absurd rfl y, fun _ => ?_⟩)
    · -- min
      have k1 := (zwrd_k c2).1
      have hb2 := zwrd_e he c2
      rw [if_neg (by omega), if_pos c2] at qo qn
      have hr3 := hr2.mv (zPwl_mt h3) g3.1
      refine B_Md_qPartTold_78 hsl (m_takes hsl hn he hr3.1 zo_183 (by decide) (fun _ M4 h4 g4 => ⟨fun _ => ?_, fun y => absurd (by decide) y⟩) (fun y => absurd c2 y))
      exact m_pair101 (l4 := 1) (b := 21) (j := 5) hsl hn hb2.2 (by omega) ho6 hos hW h0 hop ho hI (Or.inr ⟨rfl, rfl, rfl⟩) ((hM2.trans (zPwl_q h3)).trans (zPmt_q h4)) (hr3.mv h4 g4) qo qn
    · rw [if_neg c2] at qo qn
      have hr3 := hr2.mv (zPwl_mt h3) g3.1
      have hM3 := hM2.trans (zPwl_q h3)
      refine m_isH hsl hn he g3.1 zo_184 (by decide) (fun c4 M4 h4 g4 => ⟨fun y => absurd y (by decide), fun _ => ?_⟩) (fun c4 M4 h4 g4 => ⟨fun _ => ?_, fun y => absurd rfl y⟩)
      · -- max
        have k1 := (zwrd_k c4).1
        have hb2 := zwrd_e he c4
        rw [if_neg (by omega), if_pos c4] at qo qn
        have hr4 := hr3.mv (zPwl_mt h4) g4.1
        refine B_Md_qPartTold_78 hsl (m_takes hsl hn he hr4.1 zo_183 (by decide) (fun y => absurd y c2) (fun _ M5 h5 g5 => ⟨fun y => absurd rfl y, fun _ => m_asks hsl hn he g5.1 zo_184 (by decide) (fun _ M6 h6 g6 => ?_) (fun y => absurd c4 y)⟩))
        have h56 := h5.trans h6
        exact m_pair101 (l4 := 0) (b := 22) (j := 6) hsl hn hb2.2 (by omega) ho6 hos hW h0 hop ho hI (Or.inl ⟨rfl, rfl, rfl⟩) ((hM3.trans (zPwl_q h4)).trans (zPmt_q h56)) (hr4.mv h56 g6) qo qn
      · rw [if_neg c4] at qo qn
        have hr4 := hr3.mv (zPwl_mt h4) g4.1
        have hM4 := hM3.trans (zPwl_q h4)
        rcases hc3 with ⟨a, b⟩ | ⟨a, b, c5, c6⟩
        · -- no part in it
          rw [if_neg b] at qo qn
          refine ⟨fun _ => B_Md_qPartTold_2 hsl ⟨fun _ => ?_, fun y => absurd rfl y⟩, fun y => absurd a y⟩
          exact m_leaf hsl hmd hn hm he hl hos hW (by omega) hM4 (by rw [hop]; exact hr4) (fun e' v hz => qo e' [v] hz) qn
        · -- ahead, col
          have k1 : zkd B n e = 1 := by
            rcases c6 with x | x
            · exact (zwrd_k x).1
            · exact (zwrd_k x).1
          have hb2 : e + 1 ≤ zto B n e ∧ zto B n e ≤ n := by
            rcases c6 with x | x
            · exact zwrd_e he x
            · exact zwrd_e he x
          rw [if_neg (by omega), if_pos ⟨c5, c6⟩] at qo qn
          refine ⟨fun y => absurd y (by omega), fun _ => ⟨by unfold zI; omega, by unfold zI; omega, m_qOpens (op := op) hsl hr4 (by simp only [List.length_append]; omega) ho (fun c7 M5 h5 e5 g5 => ?_) (fun c7 M5 h5 e5 e9 g5 => ?_)⟩⟩
          · cases ci : I with
            | none => exact absurd c7 (hI.1 ci)
            | some f =>
              rw [ci, zins_s] at qo qn
              have hf := hI.2 f ci
              refine m_qAsksWord (k := r3) hsl hn he g5.1 (by omega) b.symm (fun M6 h6 g6 => ?_)
              have hr6 := g5.mv h6 g6
              have ap : zAP G h sl u l1 Q M0 md T m B n bs (zto B n e) C ((60 + r3 - 6) :: os ++ W) (op + 1) := by
                have ev : (if zwrd B n e zo_ahead = true then (60 : Int) else 61) = 60 + r3 - 6 := by
                  by_cases z : zwh B n e = 6
                  · rw [if_pos (k6.2 z)]; omega
                  · rw [if_neg (fun y => z (k6.1 y))]; omega
                rw [ev] at qo qn
                refine hf.2.1 (zto B n e) C ((60 + r3 - 6) :: os) W hb2.2 (by simp only [List.length_cons]; omega) (by simp only [List.length_cons]; omega) (fun x hx => ?_) hW op0 h0 (by simp only [List.length_cons]; omega) (fun e1 D1 z1 => ?_) (fun fz p z1 => qn fz p (by rw [z1, zbd_no]))
                · rw [List.mem_cons] at hx
                  rcases hx with x1 | x1
                  · omega
                  · exact hos x x1
                · have := qo e1 (D1 ++ [60 + r3 - 6]) (by rw [z1, zbd_ok])
                  simpa only [List.append_assoc, List.cons_append, List.nil_append] using this
              exact ap M6 u' ((hM4.trans h5).trans (zPmt_q h6)) hr6
          · cases ci : I with
            | none =>
              rw [ci] at qn
              have g5' : zMF 4 (zfr B n e : Nat) M5 := by rw [← g4.2]; exact g5
              exact m_qAsksWordF (h := h + 2) hsl (by rw [g5'.1]; decide) ((qn _ _ rfl).P2 hsl (by decide) (hM4.trans h5) g5' (by unfold zc9; rw [e9]; exact hr4.c9 (by omega)))
            | some f => exact absurd (hI.2 f ci).1 c7
  · -- a bracket
    have c1 : zsg B n e 40 = true := Classical.byContradiction c1
    have hk := zsg_k c1
    have hb2 := zsg_e he c1
    have hat := zrk_lt (B := B) (n := n) (e := e) (by omega)
    rw [if_neg (by omega), if_pos c1] at qo qn
    refine m_qOpens (op := op) hsl hr2 (by simp only [List.length_append]; omega) ho (fun c7 M5 h5 e5 g5 => ?_) (fun c7 M5 h5 e5 e9 g5 => ?_)
    · cases ci : I with
      | none => exact absurd c7 (hI.1 ci)
      | some f =>
        rw [ci, zins_s] at qo qn
        have hf := hI.2 f ci
        have e5 : M5 125 2 = (zfr B n e : Nat) := by rw [e5]; exact g2.2
        have ap : zAP G h sl u l1 Q M0 md T m B n bs (zto B n e) C (20 :: (os ++ W)) (op + 1) := by
          refine m_sum hsl hn (by omega) hf.2.1 hf.2.2 hb2.2 (fun y y1 y4 z => by rw [List.head?_cons] at z; injection z with z; omega) ⟨by simp only [List.length_cons, List.length_append]; omega, Or.inr ⟨20, os ++ W, rfl, by decide⟩⟩ (by simp only [List.length_cons, List.length_append]; omega) (fun e1 D1 z1 P1 C1 hP1 hc1 hp1 hs1 he1 hl1 => ?_) (fun f p z1 => qn f p (by rw [z1, zbd_no]))
          have hlen : C1.length + P1.length = C.length + D1.length := by
            have := congrArg List.length hc1
            simp only [List.length_append] at this
            exact this
          have q1 : zsg B n e1 41 = true → zAF G h sl u l1 Q M0 md T m B n bs (zto B n e1) (C1 ++ P1 ++ [] ++ os) W op0 := fun c5 => by
            have := qo (zto B n e1) D1 (by rw [z1, zbd_ok]; show zbd (zsgn B n e1 41) _ = _; unfold zsgn; rw [if_pos c5]; rfl)
            rw [hc1, List.append_nil]
            exact this
          have := m_close (X := []) (b := 20) (op := op0) hsl hn he1 hp1 hs1 hP1 (Or.inl ⟨rfl, rfl⟩) hW hos (by omega) ho6 (by omega) q1 (fun c5 => qn _ _ (by rw [z1, zbd_ok]; show zbd (zsgn B n e1 41) _ = _; unfold zsgn; rw [if_neg c5]; rfl))
          rw [hop] at this
          exact this
        have s6 : zSm zPmt M5 (zwr M5 125 2 (M5 125 2 + 1)) := (zSm.refl _ M5).wr ⟨rfl, by decide⟩
        have g6 : zMd B n (zto B n e) (zwr M5 125 2 (M5 125 2 + 1)) := by
          rw [e5]
          exact zMd.sg ⟨g5.1, e5⟩ hk.2.1 rfl
        exact ⟨by rw [e5]; unfold zI; omega, ap _ u' ((hM2.trans h5).trans (zPmt_q s6)) (g5.mv s6 g6)⟩
    · cases ci : I with
      | none =>
        rw [ci] at qn
        have g5' : zMF 4 (zfr B n e : Nat) M5 := by rw [← g2.2]; exact g5
        have e5 : M5 125 2 = (zfr B n e : Nat) := by rw [e5]; exact g2.2
        exact ⟨by rw [e5]; unfold zI; omega, (qn _ _ rfl).P2 hsl (by decide) ((hM2.trans h5).wr (Or.inl ⟨rfl, by decide⟩)) (g5'.fr (by rw [zwr_k _ (by decide)]) (by rw [zwr_k _ (by decide)])) (by unfold zc9; rw [zwr_k _ (by decide), e9]; exact hr2.c9 (by omega))⟩
      | some f => exact absurd (hI.2 f ci).1 c7
theorem m_part {G : zG} {h sl : Nat} (hsl : 2 ≤ sl) {u : Nat × Nat × Nat × Nat} {l1 : Int} {Q : Int → zM → Prop} {M0 : zM} {md : Int} {T : zTb} {m : Nat} {B : Int → Int} {n bs : Nat} (hmd : md = 0 ∨ md = 1 ∨ md = 2) (hn : n ≤ 1600) (hm : m ≤ 8) : ∀ (k : Nat), k ≤ 6 → zMc G h sl u l1 Q M0 md T m B n bs (6 - (k : Int)) (zpart md T m B n k)
  | 0, _ => m_partS (ok := zokM md m) (dp := 0) hsl hmd hn hm (by omega) ⟨fun _ => by omega, fun f h => by nomatch h⟩
  | k + 1, h6 => by
    refine m_partS (ok := zokM md m) (dp := 3 + 3 * k) (I := some (zpart md T m B n k)) hsl hmd hn hm (by omega) ⟨fun h => absurd h (by intro y; nomatch y), fun f h => ?_⟩
    injection h with h
    subst h
    refine ⟨by omega, ?_, zpart_gd hm k⟩
    rw [show 6 - ((k + 1 : Nat) : Int) + 1 = 6 - (k : Int) from by omega]
    exact m_part hsl hmd hn hm k (by omega)
