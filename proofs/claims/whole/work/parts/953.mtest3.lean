/-! PARSER, the Model's machine: a fact; a test, as a call. -/
def zTi (G : zG) (h sl : Nat) (u : Nat × Nat × Nat × Nat) (Q : Int → zM → Prop) (M0 : zM) (md : Int) (T : zTb) (m : Nat) (B : Int → Int) (n : Nat) (op : Int) (ok : Int → Bool) (dp : Nat) (I : Option zPfu) : Prop :=
  (I = none → ¬ op < 6) ∧ ∀ f, I = some f → op < 6 ∧ zTMc G h sl u Q M0 md T m B n (op + 1) f ∧ zGd ok n dp true f
theorem m_factS {G : zG} {h sl : Nat} (hsl : 2 ≤ sl) {u : Nat × Nat × Nat × Nat} {Q : Int → zM → Prop} {M0 : zM} {md : Int} {T : zTb} {m : Nat} {B : Int → Int} {n k dp : Nat} {ok : Int → Bool} {op : Int} {I : Option zPfu} (hmd : md = 0 ∨ md = 1 ∨ md = 2) (hn : n ≤ 1600) (hm : m ≤ 8) (hk : k ≤ 6) (hopk : op = 6 - (k : Int)) (hI : zTi G h sl u Q M0 md T m B n op ok dp I) : zTMc G h sl u Q M0 md T m B n op (zfactS B n (zpart md T m B n k) I) := fun e C nots W he hl hn6 hno hW op0 h0 hop qo qn M hM hr => by
  have hhd : ∀ x : Int, 1 ≤ x → x ≤ 4 → ¬ (nots ++ W).head? = some x := fun x x1 x4 y => by
    cases nots with
    | nil =>
      have := hW x y
      omega
    | cons a r =>
      have y : some a = some x := y
      injection y with y
      have := hno a (List.mem_cons_self ..)
      omega
  unfold zfactS at qo qn
  refine B_Md_qTest_2 hsl ⟨fun y => absurd y (by decide), fun _ => ⟨fun y => absurd hr.1.1.2.2 y, fun _ => m_look hsl hn he hr.1 (fun M1 h1 g1 => ?_)⟩⟩
  have hr1 := hr.mv (zPwl_mt h1) g1.1
  have hM1 := hM.trans (zPwl_q h1)
  rw [zlk_s (by decide) (by decide)]
  refine ⟨fun c1 => ?_, fun c1 => ?_⟩
  · refine m_isH hsl hn he g1.1 zo_179 (by decide) (fun c2 M2 h2 g2 => ⟨fun y => absurd y (by decide), fun _ => ?_⟩) (fun c2 M2 h2 g2 => ⟨fun _ => ?_, fun y => absurd rfl y⟩)
    · -- not
      rw [if_pos c2] at qo qn
      have hb2 := zwrd_e he c2
      have hr2 := hr1.mv (zPwl_mt h2) g2.1
      have hM2 := hM1.trans (zPwl_q h2)
      refine m_qOpens (op := op) hsl hr2 (by simp only [List.length_append]; omega) (by omega) (fun c7 M5 h5 e5 g5 => ?_) (fun c7 M5 h5 e5 e9 g5 => ?_)
      · cases ci : I with
        | none => exact absurd c7 (hI.1 ci)
        | some f =>
          rw [ci, zins_s] at qo qn
          have hf := hI.2 f ci
          refine m_asks hsl hn he g5.1 zo_179 (by decide) (fun _ M6 h6 g6 => ?_) (fun y => absurd c2 y)
          have hr6 := g5.mv h6 g6
          have ap : zTP G h sl u Q M0 md T m B n (zto B n e) C (12 :: nots ++ W) (op + 1) := by
            refine hf.2.1 (zto B n e) C (12 :: nots) W hb2.2 (by simp only [List.length_cons]; omega) (by simp only [List.length_cons]; omega) (fun x hx => ?_) hW op0 h0 (by simp only [List.length_cons]; omega) (fun e1 D1 z1 => ?_) (fun fz p z1 => qn fz p (by rw [z1, zbd_no]))
            · rw [List.mem_cons] at hx
              rcases hx with x1 | x1
              · exact x1
              · exact hno x x1
            · have := qo e1 (D1 ++ [12]) (by rw [z1, zbd_ok])
              simpa only [List.append_assoc, List.cons_append, List.nil_append] using this
          exact ap M6 ((hM2.trans h5).trans (zPmt_q h6)) hr6
      · cases ci : I with
        | none =>
          rw [ci] at qn
          have g5' : zMF 4 (zfr B n e : Nat) M5 := by rw [← g2.2]; exact g5
          exact m_asksF (h := h + 6) hsl (by rw [g5'.1]; decide) ((qn _ _ rfl).t2 hsl (by decide) (hM2.trans h5) g5')
        | some f => exact absurd (hI.2 f ci).1 c7
    · -- a comparison, all
      rw [if_neg c2, if_neg c1] at qo qn
      have hr2 := hr1.mv (zPwl_mt h2) g2.1
      have hM2 := hM1.trans (zPwl_q h2)
      have gF : zGd (zokM md m) n (3 + 3 * k + 3) true (zfactS B n (zpart md T m B n k) none) := zfactS_gd (zpart_gd hm k) (fun f hf => by nomatch hf)
      refine m_qFact (T := T) (k := k) hsl hmd hn hm hk hopk he hhd (by simp only [List.length_append]; omega) hr2 (fun e1 D1 z1 M3 h3 g3 => ?_) (fun f p f0 z1 M3 h3 x3 => m_qDropsNotsF (h := h + 6) hsl (by rw [x3.1]; exact f0) ⟨fun _ => (qn f p z1).t2 hsl f0 (hM2.trans h3) x3, fun y => absurd (by rw [x3.1]; exact f0) y⟩) zsumK_nz
      have hg := gF e e1 D1 he (by unfold zfactS; rw [if_neg c2, if_neg c1]; exact z1)
      rw [← hop] at g3
      refine m_qDropsNots (h := h + 5) hsl (fun y => by have := hW 12 y; omega) (by omega) hno (by simp only [List.length_append]; omega) g3 (fun M4 h4 g4 => ⟨fun y => absurd g4.1.1.2.2 y, fun _ => ?_⟩)
      exact zCt.of (by decide +kernel) (Nat.le_of_ble_eq_true rfl) (qo e1 D1 z1 M4 _ ((hM2.trans h3).trans h4) g4)
  · -- a square
    have c1 : zsg B n e 91 = true := Classical.byContradiction c1
    have hk1 := zsg_k c1
    have hb2 := zsg_e he c1
    have hat := zrk_lt (B := B) (n := n) (e := e) (by omega)
    rw [if_neg (fun y => zwrd_sg y c1), if_pos c1] at qo qn
    refine m_qOpens (op := op) hsl hr1 (by simp only [List.length_append]; omega) (by omega) (fun c7 M5 h5 e5 g5 => ?_) (fun c7 M5 h5 e5 e9 g5 => ?_)
    · cases ci : I with
      | none => exact absurd c7 (hI.1 ci)
      | some f =>
        rw [ci, zins_s] at qo qn
        have hf := hI.2 f ci
        have e5 : M5 125 2 = (zfr B n e : Nat) := by rw [e5]; exact g1.2
        have ap : zTP G h sl u Q M0 md T m B n (zto B n e) C (25 :: (nots ++ W)) (op + 1) := by
          refine m_test hsl hn (by omega) hf.2.1 hf.2.2 hb2.2 ⟨fun y => ?_, fun y => ?_⟩ (fun x hx => ?_) (by simp only [List.length_cons, List.length_append]; omega) (fun e1 D1 z1 P1 C1 hP1 hc1 ha1 ho1 he1 hl1 => ?_) (fun f p z1 => qn f p (by rw [z1, zbd_no]))
          · rw [List.head?_cons] at y; injection y with y; omega
          · rw [List.head?_cons] at y; injection y with y; omega
          · rw [List.head?_cons] at hx; injection hx with hx; omega
          have hlen := zlen2 hc1
          have q1 : zsg B n e1 93 = true → zTF G h sl u Q M0 md T m B n (zto B n e1) (C1 ++ P1 ++ nots) W op0 := fun c5 => by
            have := qo (zto B n e1) D1 (by rw [z1, zbd_ok]; show zbd (zsgn B n e1 93) _ = _; unfold zsgn; rw [if_pos c5]; rfl)
            rw [hc1]
            exact this
          have := m_tclose (op0 := op0) hsl hn he1 ha1 ho1 hP1 hno hn6 hW (by omega) (by omega) q1 (fun c5 => qn _ _ (by rw [z1, zbd_ok]; show zbd (zsgn B n e1 93) _ = _; unfold zsgn; rw [if_neg c5]; rfl))
          rw [hop] at this
          exact this
        have s6 : zSm zPmt M5 (zwr M5 125 2 (M5 125 2 + 1)) := (zSm.refl _ M5).wr ⟨rfl, by decide⟩
        have g6 : zMd B n (zto B n e) (zwr M5 125 2 (M5 125 2 + 1)) := by
          rw [e5]
          exact zMd.sg ⟨g5.1, e5⟩ hk1.2.1 rfl
        exact ⟨by rw [e5]; unfold zI; omega, ap _ ((hM1.trans h5).trans (zPmt_q s6)) (g5.mv s6 g6)⟩
    · cases ci : I with
      | none =>
        rw [ci] at qn
        have g5' : zMF 4 (zfr B n e : Nat) M5 := by rw [← g1.2]; exact g5
        have e5 : M5 125 2 = (zfr B n e : Nat) := by rw [e5]; exact g1.2
        exact ⟨by rw [e5]; unfold zI; omega, (qn _ _ rfl).t2 hsl (by decide) ((hM1.trans h5).wr (Or.inl ⟨rfl, by decide⟩)) (g5'.fr (by rw [zwr_k _ (by decide)]) (by rw [zwr_k _ (by decide)]))⟩
      | some f => exact absurd (hI.2 f ci).1 c7
theorem m_fact {G : zG} {h sl : Nat} (hsl : 2 ≤ sl) {u : Nat × Nat × Nat × Nat} {Q : Int → zM → Prop} {M0 : zM} {md : Int} {T : zTb} {m : Nat} {B : Int → Int} {n : Nat} (hmd : md = 0 ∨ md = 1 ∨ md = 2) (hn : n ≤ 1600) (hm : m ≤ 8) : ∀ (k : Nat), k ≤ 6 → zTMc G h sl u Q M0 md T m B n (6 - (k : Int)) (zfact md T m B n k)
  | 0, _ => m_factS (k := 0) (ok := zokM md m) (dp := 0) hsl hmd hn hm (by omega) rfl ⟨fun _ => by omega, fun f h => by nomatch h⟩
  | k + 1, h6 => by
    refine m_factS (k := k + 1) (ok := zokM md m) (dp := 6 + 3 * k) (I := some (zfact md T m B n k)) hsl hmd hn hm h6 rfl ⟨fun h => absurd h (by intro y; nomatch y), fun f h => ?_⟩
    injection h with h
    subst h
    refine ⟨by omega, ?_, zfact_gd hm k⟩
    rw [show 6 - ((k + 1 : Nat) : Int) + 1 = 6 - (k : Int) from by omega]
    exact m_fact hsl hmd hn hm k (by omega)
theorem m_test110 {G : zG} {h sl : Nat} (hsl : 2 ≤ sl) {u : Nat × Nat × Nat × Nat} {Q : Int → zM → Prop} {M0 : zM} {md : Int} {T : zTb} {m : Nat} {B : Int → Int} {n bs e : Nat} {op : Int} : ∀ (P C : List Int) (M : zM), C.length + P.length < 1699 → zSm zPmq M0 M → zQs md T m B n bs e C P op M → (∀ M', zSm zPmq M0 M' → zQs md T m B n bs e (C ++ P) [] op M' → Q 0 M') → zX G (y_Md_qTest, h + 1 + 1, sl) u 110 [(0, (2, 125))] [] M Q
  | [], C, M, hl, hM, hr, q => by
    refine B_Md_qTest_110 hsl ⟨fun y => absurd hr.1.1.2.2 y, fun _ => ⟨fun _ => q M hM (by rw [List.append_nil]; exact hr), fun y => absurd (by rw [hr.2.2.1.1]; exact Int.le_refl _) y⟩⟩
  | x :: P, C, M, hl, hM, hr, q => by
    simp only [List.length_cons] at hl
    refine B_Md_qTest_110 hsl ⟨fun y => absurd hr.1.1.2.2 y, fun _ => ⟨fun y => absurd y (by rw [hr.2.2.1.1]; simp only [List.length_cons]; omega), fun _ => m_qDrops hsl hr (by omega) (fun M' hM' h' => ?_)⟩⟩
    exact m_test110 hsl P (C ++ [x]) M' (by simp only [List.length_append, List.length_cons, List.length_nil]; omega) (hM.trans hM') h' (fun M2 hM2 h2 => q M2 hM2 (by simpa only [List.append_assoc, List.cons_append, List.nil_append] using h2))
theorem m_qTest {G : zG} {h sl : Nat} (hsl : 2 ≤ sl) {Q : Int → zM → Prop} {md : Int} {T : zTb} {m : Nat} {B : Int → Int} {n e : Nat} {C : List Int} {M : zM} (hmd : md = 0 ∨ md = 1 ∨ md = 2) (hn : n ≤ 1600) (hm : m ≤ 8) (he : e ≤ n) (hl : C.length ≤ e) (hr : zQs md T m B n 0 e C [] 0 M) (qo : ∀ e' D, ztestK md T m B n 6 e = .inr (e', D) → ∀ M', zSm zPmq M M' → zQs md T m B n 0 e' (C ++ D) [] 0 M' → Q 0 M') (qn : ∀ f p, ztestK md T m B n 6 e = .inl (f, p) → ∀ M', zSm zPmq M M' → zMF f p M' → Q 0 M') : zCt G (h + 8) sl 0 0 y_Md_qTest [(2, 125)] M Q := by
  have hq := m_fact (G := G) (h := h) (u := (0, 0, 0, 0)) (Q := Q) (M0 := M) (T := T) (B := B) hsl hmd hn hm 6 (by omega)
  have ap : zTP G h sl (0, 0, 0, 0) Q M md T m B n e C [] 0 := by
    refine m_test hsl hn (by omega) hq (zfact_gd (T := T) (B := B) (md := md) (n := n) hm 6) he ⟨by decide, by decide⟩ (fun x hx => by nomatch hx) (by simp only [List.length_nil]; omega) (fun e' D hz P2 C2 hP2 hc2 ha2 ho2 he2 hl2 => ?_) (fun fz p hz M' hM' hx => qn fz p hz M' hM' hx)
    have hlen := zlen2 hc2
    rw [List.append_nil]
    refine m_tend hsl hn he2 ha2 ho2 hP2 (by omega) (fun M1 h1 g1 => B_Md_qTest_2 hsl ⟨fun _ => ?_, fun y => absurd rfl y⟩)
    exact m_test110 (h := h + 6) hsl P2 C2 M1 (by omega) h1 g1 (fun M' hM' h' => qo e' D hz M' hM' (by rw [← hc2]; exact h'))
  exact E_Md_qTest hsl (ap M (zSm.refl _ M) hr)
