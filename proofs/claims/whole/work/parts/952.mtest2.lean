/-! PARSER, the Model's machine: tests. -/
/-- nothing but and, or, a square on top -/
def zhw (W : List Int) : Prop := ∀ x : Int, W.head? = some x → x = 10 ∨ x = 11 ∨ x = 25
/-- the machine reads what F says as a fact -/
def zTMc (G : zG) (h sl : Nat) (u : Nat × Nat × Nat × Nat) (Q : Int → zM → Prop) (M0 : zM) (md : Int) (T : zTb) (m : Nat) (B : Int → Int) (n : Nat) (op : Int) (F : zPfu) : Prop :=
  ∀ (e : Nat) (C nots W : List Int), e ≤ n → C.length + nots.length + W.length ≤ e → nots.length ≤ 6 → (∀ x ∈ nots, x = 12) → zhw W → ∀ op0 : Int, 0 ≤ op0 → op0 + nots.length = op → (∀ e' D, F e = .inr (e', D) → zTF G h sl u Q M0 md T m B n e' (C ++ D ++ nots) W op0) → (∀ f p, F e = .inl (f, p) → zFT Q M0 f p) → zTP G h sl u Q M0 md T m B n e C (nots ++ W) op
theorem zgA_end {B : Int → Int} {n e : Nat} (h : n ≤ e) : zgA B n e = none := by
  cases c : zgA B n e with
  | none => rfl
  | some j =>
    have a := zgA_h c
    have b := zrk_lt (B := B) (n := n) (e := e) (by omega)
    have := zfr_le B n e
    omega
theorem zgO_end {B : Int → Int} {n e : Nat} (h : n ≤ e) : zgO B n e = none := by
  cases c : zgO B n e with
  | none => rfl
  | some j =>
    have a := zgO_h c
    have b := zrk_lt (B := B) (n := n) (e := e) (by omega)
    have := zfr_le B n e
    omega
theorem zlen2 {C' P C D : List Int} (hc : C' ++ P = C ++ D) : C'.length + P.length = C.length + D.length := by
  have := congrArg List.length hc
  simp only [List.length_append] at this
  exact this
theorem m_bothL {G : zG} {h sl : Nat} (hsl : 2 ≤ sl) {u : Nat × Nat × Nat × Nat} {Q : Int → zM → Prop} {M0 : zM} {md : Int} {T : zTb} {m : Nat} {B : Int → Int} {n dp : Nat} {ok : Int → Bool} {ty : Bool} {op : Int} {F : zPfu} (hn : n ≤ 1600) (h0 : 0 ≤ op) (hF : zTMc G h sl u Q M0 md T m B n op F) (hg : zGd ok n dp ty F) {C V : List Int} {e0 : Nat} (hV : ¬ V.head? = some 10) (hVw : zhw V) (he0 : C.length + V.length ≤ e0) :
    ∀ (d e : Nat) (D P C' : List Int), e ≤ n → n ≤ d + e → C' ++ P = C ++ D → (∀ x ∈ P, x = 10) → e0 + D.length ≤ e → (∀ e' D', zlpp F (zgA B n) (zto B n) d e D = .inr (e', D') → ∀ P2 C2 : List Int, (∀ x ∈ P2, x = 10) → C2 ++ P2 = C ++ D' → zgA B n e' = none → e' ≤ n → e0 + D'.length ≤ e' → zTF G h sl u Q M0 md T m B n e' C2 (P2 ++ V) op) → (∀ f p, zlpp F (zgA B n) (zto B n) d e D = .inl (f, p) → zFT Q M0 f p) → zTF G h sl u Q M0 md T m B n e C' (P ++ V) op := by
  intro d
  induction d with
  | zero =>
    intro e D P C' he hd hc hP hl qo qn
    exact qo e D rfl P C' hP hc (zgA_end (by omega)) he hl
  | succ d ih =>
    intro e D P C' he hd hc hP hl qo qn
    have hlen := zlen2 hc
    cases cj : zgA B n e with
    | none => exact qo e D (zlpp_n cj _) P C' hP hc cj he hl
    | some j =>
      have hz := zgA_h cj
      have hb := zto_b (B := B) he
      have hb3 := hb.2.2 (by omega)
      have hfl := zfr_le B n e
      refine m_goA hsl hn he cj hP hV (by omega) ?_
      rw [hc]
      refine hF (zto B n e) (C ++ D) [] (j :: V) hb.2.1 (by simp only [List.length_append, List.length_cons, List.length_nil]; omega) (by decide) (fun x hx => by nomatch hx) (fun x hx => by rw [List.head?_cons] at hx; injection hx with hx; omega) op h0 (by simp) (fun e2 D2 h2 => ?_) (fun f p h2 => qn f p (by rw [zlpp_s cj, h2, zbd_no]))
      have g2 := hg _ _ _ hb.2.1 h2
      have el : zlpp F (zgA B n) (zto B n) (d + 1) e D = zlpp F (zgA B n) (zto B n) d e2 (D ++ D2 ++ [j]) := by rw [zlpp_s cj, h2, zbd_ok]
      have := ih e2 (D ++ D2 ++ [j]) [j] (C ++ D ++ D2) g2.2.1 (by omega) (by simp only [List.append_assoc]) (fun x hx => by rw [List.mem_singleton] at hx; rw [hx]; exact hz.2.1) (by simp only [List.length_append, List.length_cons, List.length_nil]; omega) (fun e' D' hq => qo e' D' (el.trans hq)) (fun f p hq => qn f p (el.trans hq))
      rw [List.append_nil]
      exact this
theorem m_both {G : zG} {h sl : Nat} (hsl : 2 ≤ sl) {u : Nat × Nat × Nat × Nat} {Q : Int → zM → Prop} {M0 : zM} {md : Int} {T : zTb} {m : Nat} {B : Int → Int} {n dp : Nat} {ok : Int → Bool} {ty : Bool} {op : Int} {F : zPfu} (hn : n ≤ 1600) (h0 : 0 ≤ op) (hF : zTMc G h sl u Q M0 md T m B n op F) (hg : zGd ok n dp ty F) {C V : List Int} {e : Nat} (he : e ≤ n) (hV : ¬ V.head? = some 10) (hVw : zhw V) (he0 : C.length + V.length ≤ e) (qo : ∀ e' D, zbothF B n F e = .inr (e', D) → ∀ P2 C2 : List Int, (∀ x ∈ P2, x = 10) → C2 ++ P2 = C ++ D → zgA B n e' = none → e' ≤ n → e + D.length ≤ e' → zTF G h sl u Q M0 md T m B n e' C2 (P2 ++ V) op) (qn : ∀ f p, zbothF B n F e = .inl (f, p) → zFT Q M0 f p) : zTP G h sl u Q M0 md T m B n e C V op := by
  refine hF e C [] V he (by simp only [List.length_nil]; omega) (by decide) (fun x hx => by nomatch hx) hVw op h0 (by simp) (fun e1 D1 h1 => ?_) (fun f p h1 => qn f p (by unfold zbothF zlvl; rw [h1, zbd_no]))
  have g1 := hg _ _ _ he h1
  have el : zbothF B n F e = zlpp F (zgA B n) (zto B n) 1600 e1 D1 := by unfold zbothF zlvl; rw [h1, zbd_ok]
  rw [List.append_nil]
  exact m_bothL hsl hn h0 hF hg hV hVw he0 1600 e1 D1 [] (C ++ D1) g1.2.1 (by omega) (by rw [List.append_nil]) (fun x hx => by nomatch hx) g1.1 (fun e' D' hq => qo e' D' (el.trans hq)) (fun f p hq => qn f p (el.trans hq))
theorem m_testL {G : zG} {h sl : Nat} (hsl : 2 ≤ sl) {u : Nat × Nat × Nat × Nat} {Q : Int → zM → Prop} {M0 : zM} {md : Int} {T : zTb} {m : Nat} {B : Int → Int} {n dp : Nat} {ok : Int → Bool} {op : Int} {F : zPfu} (hn : n ≤ 1600) (h0 : 0 ≤ op) (hF : zTMc G h sl u Q M0 md T m B n op F) (hg : zGd ok n dp true F) {C W : List Int} {e0 : Nat} (hW : ¬ W.head? = some 10 ∧ ¬ W.head? = some 11) (he0 : C.length + W.length ≤ e0) :
    ∀ (d e : Nat) (D P C' : List Int), e ≤ n → n ≤ d + e → C' ++ P = C ++ D → (∀ x ∈ P, x = 10 ∨ x = 11) → zgA B n e = none → e0 + D.length ≤ e → (∀ e' D', zlpp (zbothF B n F) (zgO B n) (zto B n) d e D = .inr (e', D') → ∀ P2 C2 : List Int, (∀ x ∈ P2, x = 10 ∨ x = 11) → C2 ++ P2 = C ++ D' → zgA B n e' = none → zgO B n e' = none → e' ≤ n → e0 + D'.length ≤ e' → zTF G h sl u Q M0 md T m B n e' C2 (P2 ++ W) op) → (∀ f p, zlpp (zbothF B n F) (zgO B n) (zto B n) d e D = .inl (f, p) → zFT Q M0 f p) → zTF G h sl u Q M0 md T m B n e C' (P ++ W) op := by
  intro d
  induction d with
  | zero =>
    intro e D P C' he hd hc hP hp hl qo qn
    exact qo e D rfl P C' hP hc hp (zgO_end (by omega)) he hl
  | succ d ih =>
    intro e D P C' he hd hc hP hp hl qo qn
    have hlen := zlen2 hc
    cases cj : zgO B n e with
    | none => exact qo e D (zlpp_n cj _) P C' hP hc hp cj he hl
    | some j =>
      have hz := zgO_h cj
      have hb := zto_b (B := B) he
      have hb3 := hb.2.2 (by omega)
      have hfl := zfr_le B n e
      refine m_goO hsl hn he cj hP hW (by omega) ?_
      rw [hc]
      refine m_both hsl hn h0 hF hg hb.2.1 (fun y => ?_) (fun x hx => by rw [List.head?_cons] at hx; injection hx with hx; omega) (by simp only [List.length_append, List.length_cons]; omega) (fun e2 D2 h2 P2 C2 hP2 hc2 hp2 he2 hl2 => ?_) (fun f p h2 => qn f p (by rw [zlpp_s cj, h2, zbd_no]))
      · rw [List.head?_cons] at y; injection y with y; omega
      · have el : zlpp (zbothF B n F) (zgO B n) (zto B n) (d + 1) e D = zlpp (zbothF B n F) (zgO B n) (zto B n) d e2 (D ++ D2 ++ [j]) := by rw [zlpp_s cj, h2, zbd_ok]
        have := ih e2 (D ++ D2 ++ [j]) (P2 ++ [j]) C2 he2 (by omega) (by rw [← List.append_assoc, hc2]; simp only [List.append_assoc]) (fun x hx => by
          rw [List.mem_append, List.mem_singleton] at hx
          rcases hx with a | a
          · exact Or.inl (hP2 x a)
          · omega) hp2 (by simp only [List.length_append, List.length_cons, List.length_nil]; omega) (fun e' D' hq => qo e' D' (el.trans hq)) (fun f p hq => qn f p (el.trans hq))
        rw [show P2 ++ (j :: W) = (P2 ++ [j]) ++ W from by simp only [List.append_assoc, List.cons_append, List.nil_append]]
        exact this
theorem m_test {G : zG} {h sl : Nat} (hsl : 2 ≤ sl) {u : Nat × Nat × Nat × Nat} {Q : Int → zM → Prop} {M0 : zM} {md : Int} {T : zTb} {m : Nat} {B : Int → Int} {n dp : Nat} {ok : Int → Bool} {op : Int} {F : zPfu} (hn : n ≤ 1600) (h0 : 0 ≤ op) (hF : zTMc G h sl u Q M0 md T m B n op F) (hg : zGd ok n dp true F) {C W : List Int} {e : Nat} (he : e ≤ n) (hW : ¬ W.head? = some 10 ∧ ¬ W.head? = some 11) (hWw : zhw W) (he0 : C.length + W.length ≤ e) (qo : ∀ e' D, ztestF B n F e = .inr (e', D) → ∀ P2 C2 : List Int, (∀ x ∈ P2, x = 10 ∨ x = 11) → C2 ++ P2 = C ++ D → zgA B n e' = none → zgO B n e' = none → e' ≤ n → e + D.length ≤ e' → zTF G h sl u Q M0 md T m B n e' C2 (P2 ++ W) op) (qn : ∀ f p, ztestF B n F e = .inl (f, p) → zFT Q M0 f p) : zTP G h sl u Q M0 md T m B n e C W op := by
  refine m_both hsl hn h0 hF hg he hW.1 hWw he0 (fun e1 D1 h1 P1 C1 hP1 hc1 hp1 he1 hl1 => ?_) (fun f p h1 => qn f p (by unfold ztestF zlvl; rw [h1, zbd_no]))
  have el : ztestF B n F e = zlpp (zbothF B n F) (zgO B n) (zto B n) 1600 e1 D1 := by unfold ztestF; rw [zlvl, h1, zbd_ok]
  exact m_testL hsl hn h0 hF hg hW he0 1600 e1 D1 P1 C1 he1 (by omega) hc1 (fun x hx => Or.inl (hP1 x hx)) hp1 hl1 (fun e' D' hq => qo e' D' (el.trans hq)) (fun f p hq => qn f p (el.trans hq))
/-- behind a test in squares -/
theorem m_tclose {G : zG} {h sl : Nat} (hsl : 2 ≤ sl) {u : Nat × Nat × Nat × Nat} {Q : Int → zM → Prop} {M0 : zM} {md : Int} {T : zTb} {m : Nat} {B : Int → Int} {n e : Nat} {C P nots W : List Int} {op0 : Int} (hn : n ≤ 1600) (he : e ≤ n) (ha : zgA B n e = none) (ho : zgO B n e = none) (hP : ∀ x ∈ P, x = 10 ∨ x = 11) (hno : ∀ x ∈ nots, x = 12) (hn6 : nots.length ≤ 6) (hW : zhw W) (h0 : 0 ≤ op0 ∧ op0 ≤ 6) (hl : C.length + P.length + nots.length + W.length + 1 ≤ e) (q : zsg B n e 93 = true → zTF G h sl u Q M0 md T m B n (zto B n e) (C ++ P ++ nots) W op0) (qf : ¬ zsg B n e 93 = true → zFT Q M0 1 (zfr B n e : Nat)) : zTF G h sl u Q M0 md T m B n e C (P ++ (25 :: (nots ++ W))) (op0 + nots.length + 1) := by
  have hl2 : (P ++ (25 :: (nots ++ W))).length ≤ 1700 := by simp only [List.length_append, List.length_cons]; omega
  have hm25 : (25 : Int) ∈ P ++ (25 :: (nots ++ W)) := List.mem_append.2 (Or.inr (List.mem_cons_self ..))
  by_cases c : zsg B n e 93 = true
  · have hk := zsg_k c
    have hat := zrk_lt (B := B) (n := n) (e := e) (by omega)
    intro M u' hM hr
    refine B_Md_qGoesOnTest_0 hsl ⟨fun y => absurd hr.1.1.2.2 y, fun _ => m_look hsl hn he hr.1 (fun M1 h1 g1 => ?_)⟩
    have hr1 := hr.mv (zPwl_mt h1) g1.1
    have hM1 := hM.trans (zPwl_q h1)
    rw [zlk_s (by decide) (by decide)]
    refine ⟨fun y => absurd c y, fun _ => m_qHasSquare hsl hr1 hl2 (fun _ => ⟨fun y => absurd y (by decide), fun _ => ⟨by rw [g1.2]; unfold zI; omega, ?_⟩⟩) (fun y => absurd hm25 y)⟩
    have s2 : zSm zPmt M1 (zwr M1 125 2 (M1 125 2 + 1)) := (zSm.refl _ M1).wr ⟨rfl, by decide⟩
    have g2 : zMd B n (zto B n e) (zwr M1 125 2 (M1 125 2 + 1)) := by rw [g1.2]; exact zMd.sg g1 hk.2.1 rfl
    have hr2 := hr1.mv s2 g2
    exact m_go33 (h := h + 4) (M0 := M0) hsl (fun y => by have := hW 12 y; omega) h0 hno hn6 P C _ u' hP (by omega) (hM1.trans (zPmt_q s2)) hr2 (fun M3 h3 g3 => q c M3 u' h3 g3)
  · exact zTF.no hsl hn he hl2 (fun y => absurd y c) (fun M u' hM hr => m_go76 hsl hn he hl2 ha ho hM hr (fun _ M1 h1 g1 => (qf c).T hsl (by decide) h1 g1) (fun y => absurd hm25 y))
/-- a test's end -/
theorem m_tend {G : zG} {h sl : Nat} (hsl : 2 ≤ sl) {u : Nat × Nat × Nat × Nat} {Q : Int → zM → Prop} {M0 : zM} {md : Int} {T : zTb} {m : Nat} {B : Int → Int} {n e : Nat} {C P : List Int} {op : Int} (hn : n ≤ 1600) (he : e ≤ n) (ha : zgA B n e = none) (ho : zgO B n e = none) (hP : ∀ x ∈ P, x = 10 ∨ x = 11) (hl : C.length + P.length ≤ e) (q : ∀ M, zSm zPmq M0 M → zQs md T m B n 0 e C P op M → zX G (y_Md_qTest, h + 7 + 1, sl) u 2 [(0, (2, 125)), (1, (0, 0))] [] M Q) : zTF G h sl u Q M0 md T m B n e C P op := by
  have h25 : (25 : Int) ∉ P := fun y => by have := hP 25 y; omega
  exact zTF.no hsl hn he (by omega) (fun _ => h25) (fun M u' hM hr => m_go76 hsl hn he (by omega) ha ho hM hr (fun y => absurd y h25) (fun _ M1 h1 g1 => ⟨fun _ => q M1 h1 g1, fun y => absurd rfl y⟩))
