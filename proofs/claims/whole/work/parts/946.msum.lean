/-! PARSER, the Model's machine: products and sums. -/
/-- the machine reads what F says as a part -/
def zMc (G : zG) (h sl : Nat) (u : Nat × Nat × Nat × Nat) (l1 : Int) (Q : Int → zM → Prop) (M0 : zM) (md : Int) (T : zTb) (m : Nat) (B : Int → Int) (n bs : Nat) (op : Int) (F : zPfu) : Prop :=
  ∀ (e : Nat) (C os W : List Int), e ≤ n → C.length + os.length + W.length ≤ e → os.length ≤ 6 → (∀ x ∈ os, 60 ≤ x) → zstq bs W → ∀ op0 : Int, 0 ≤ op0 → op0 + os.length = op → (∀ e' D, F e = .inr (e', D) → zAF G h sl u l1 Q M0 md T m B n bs e' (C ++ D ++ os) W op0) → (∀ f p, F e = .inl (f, p) → zFL Q M0 f p) → zAP G h sl u l1 Q M0 md T m B n bs e C (os ++ W) op
theorem zgP_end {B : Int → Int} {n e : Nat} (h : n ≤ e) : zgP B n e = none := by
  cases c : zgP B n e with
  | none => rfl
  | some j =>
    have a := zgP_h c
    have b := zrk_lt (B := B) (n := n) (e := e) (by omega)
    have := zfr_le B n e
    omega
theorem zgS_end {B : Int → Int} {n e : Nat} (h : n ≤ e) : zgS B n e = none := by
  cases c : zgS B n e with
  | none => rfl
  | some j =>
    have a := zgS_h c
    have b := zrk_lt (B := B) (n := n) (e := e) (by omega)
    have := zfr_le B n e
    omega
theorem m_prodL {G : zG} {h sl : Nat} (hsl : 2 ≤ sl) {u : Nat × Nat × Nat × Nat} {l1 : Int} {Q : Int → zM → Prop} {M0 : zM} {md : Int} {T : zTb} {m : Nat} {B : Int → Int} {n bs dp : Nat} {ok : Int → Bool} {ty : Bool} {op : Int} {F : zPfu} (hn : n ≤ 1600) (h0 : 0 ≤ op) (hF : zMc G h sl u l1 Q M0 md T m B n bs op F) (hg : zGd ok n dp ty F) {C V : List Int} {e0 : Nat} (hV : ¬ V.head? = some 3 ∧ ¬ V.head? = some 4) (hVb : bs ≤ V.length) (he0 : C.length + V.length ≤ e0) :
    ∀ (d e : Nat) (D P C' : List Int), e ≤ n → n ≤ d + e → C' ++ P = C ++ D → (∀ x ∈ P, x = 3 ∨ x = 4) → e0 + D.length ≤ e → (∀ e' D', zlpp F (zgP B n) (zto B n) d e D = .inr (e', D') → ∀ P2 C2 : List Int, (∀ x ∈ P2, x = 3 ∨ x = 4) → C2 ++ P2 = C ++ D' → zgP B n e' = none → e' ≤ n → e0 + D'.length ≤ e' → zAF G h sl u l1 Q M0 md T m B n bs e' C2 (P2 ++ V) op) → (∀ f p, zlpp F (zgP B n) (zto B n) d e D = .inl (f, p) → zFL Q M0 f p) → zAF G h sl u l1 Q M0 md T m B n bs e C' (P ++ V) op := by
  intro d
  induction d with
  | zero =>
    intro e D P C' he hd hc hP hl qo qn
    exact qo e D rfl P C' hP hc (zgP_end (by omega)) he hl
  | succ d ih =>
    intro e D P C' he hd hc hP hl qo qn
    have hlen : C'.length + P.length = C.length + D.length := by
      have := congrArg List.length hc
      simp only [List.length_append] at this
      exact this
    cases cj : zgP B n e with
    | none => exact qo e D (zlpp_n cj _) P C' hP hc cj he hl
    | some j =>
      have hz := zgP_h cj
      have hb := zto_b (B := B) he
      have hb3 := hb.2.2 (by omega)
      have hfl := zfr_le B n e
      refine m_goP hsl hn he cj hP hV (by omega) ?_
      rw [hc]
      have hj : j = 3 ∨ j = 4 := by
        rcases hz.2 with a | a
        · exact Or.inl a.1
        · exact Or.inr a.1
      refine hF (zto B n e) (C ++ D) [] (j :: V) hb.2.1 (by simp only [List.length_append, List.length_cons, List.length_nil]; omega) (by decide) (fun x hx => by nomatch hx) ⟨by simp only [List.length_cons]; omega, Or.inr ⟨j, V, rfl, by omega⟩⟩ op h0 (by simp) (fun e2 D2 h2 => ?_) (fun f p h2 => qn f p (by rw [zlpp_s cj, h2, zbd_no]))
      have g2 := hg _ _ _ hb.2.1 h2
      have el : zlpp F (zgP B n) (zto B n) (d + 1) e D = zlpp F (zgP B n) (zto B n) d e2 (D ++ D2 ++ [j]) := by rw [zlpp_s cj, h2, zbd_ok]
      have := ih e2 (D ++ D2 ++ [j]) [j] (C ++ D ++ D2) g2.2.1 (by omega) (by simp only [List.append_assoc]) (fun x hx => by rw [List.mem_singleton] at hx; rw [hx]; exact hj) (by simp only [List.length_append, List.length_cons, List.length_nil]; omega) (fun e' D' hq => qo e' D' (el.trans hq)) (fun f p hq => qn f p (el.trans hq))
      rw [List.append_nil]
      exact this
theorem m_prod {G : zG} {h sl : Nat} (hsl : 2 ≤ sl) {u : Nat × Nat × Nat × Nat} {l1 : Int} {Q : Int → zM → Prop} {M0 : zM} {md : Int} {T : zTb} {m : Nat} {B : Int → Int} {n bs dp : Nat} {ok : Int → Bool} {ty : Bool} {op : Int} {F : zPfu} (hn : n ≤ 1600) (h0 : 0 ≤ op) (hF : zMc G h sl u l1 Q M0 md T m B n bs op F) (hg : zGd ok n dp ty F) {C V : List Int} {e : Nat} (he : e ≤ n) (hV : ¬ V.head? = some 3 ∧ ¬ V.head? = some 4) (hVb : zstq bs V) (he0 : C.length + V.length ≤ e) (qo : ∀ e' D, zprodF B n F e = .inr (e', D) → ∀ P2 C2 : List Int, (∀ x ∈ P2, x = 3 ∨ x = 4) → C2 ++ P2 = C ++ D → zgP B n e' = none → e' ≤ n → e + D.length ≤ e' → zAF G h sl u l1 Q M0 md T m B n bs e' C2 (P2 ++ V) op) (qn : ∀ f p, zprodF B n F e = .inl (f, p) → zFL Q M0 f p) : zAP G h sl u l1 Q M0 md T m B n bs e C V op := by
  refine hF e C [] V he (by simp only [List.length_nil]; omega) (by decide) (fun x hx => by nomatch hx) hVb op h0 (by simp) (fun e1 D1 h1 => ?_) (fun f p h1 => qn f p (by unfold zprodF zlvl; rw [h1, zbd_no]))
  have g1 := hg _ _ _ he h1
  have el : zprodF B n F e = zlpp F (zgP B n) (zto B n) 1600 e1 D1 := by unfold zprodF zlvl; rw [h1, zbd_ok]
  rw [List.append_nil]
  exact m_prodL hsl hn h0 hF hg hV hVb.1 he0 1600 e1 D1 [] (C ++ D1) g1.2.1 (by omega) (by rw [List.append_nil]) (fun x hx => by nomatch hx) g1.1 (fun e' D' hq => qo e' D' (el.trans hq)) (fun f p hq => qn f p (el.trans hq))
theorem m_sumL {G : zG} {h sl : Nat} (hsl : 2 ≤ sl) {u : Nat × Nat × Nat × Nat} {l1 : Int} {Q : Int → zM → Prop} {M0 : zM} {md : Int} {T : zTb} {m : Nat} {B : Int → Int} {n bs dp : Nat} {ok : Int → Bool} {op : Int} {F : zPfu} (hn : n ≤ 1600) (h0 : 0 ≤ op) (hF : zMc G h sl u l1 Q M0 md T m B n bs op F) (hg : zGd ok n dp false F) {C W : List Int} {e0 : Nat} (hW : ∀ x : Int, 1 ≤ x → x ≤ 4 → ¬ W.head? = some x) (hWb : bs ≤ W.length) (he0 : C.length + W.length ≤ e0) :
    ∀ (d e : Nat) (D P C' : List Int), e ≤ n → n ≤ d + e → C' ++ P = C ++ D → (∀ x ∈ P, 1 ≤ x ∧ x ≤ 4) → zgP B n e = none → e0 + D.length ≤ e → (∀ e' D', zlpp (zprodF B n F) (zgS B n) (zto B n) d e D = .inr (e', D') → ∀ P2 C2 : List Int, (∀ x ∈ P2, 1 ≤ x ∧ x ≤ 4) → C2 ++ P2 = C ++ D' → zgP B n e' = none → zgS B n e' = none → e' ≤ n → e0 + D'.length ≤ e' → zAF G h sl u l1 Q M0 md T m B n bs e' C2 (P2 ++ W) op) → (∀ f p, zlpp (zprodF B n F) (zgS B n) (zto B n) d e D = .inl (f, p) → zFL Q M0 f p) → zAF G h sl u l1 Q M0 md T m B n bs e C' (P ++ W) op := by
  intro d
  induction d with
  | zero =>
    intro e D P C' he hd hc hP hp hl qo qn
    exact qo e D rfl P C' hP hc hp (zgS_end (by omega)) he hl
  | succ d ih =>
    intro e D P C' he hd hc hP hp hl qo qn
    have hlen : C'.length + P.length = C.length + D.length := by
      have := congrArg List.length hc
      simp only [List.length_append] at this
      exact this
    cases cj : zgS B n e with
    | none => exact qo e D (zlpp_n cj _) P C' hP hc hp cj he hl
    | some j =>
      have hz := zgS_h cj
      have hb := zto_b (B := B) he
      have hb3 := hb.2.2 (by omega)
      have hfl := zfr_le B n e
      refine m_goS hsl hn he hp cj hP hW (by omega) ?_
      rw [hc]
      have hj : j = 1 ∨ j = 2 := by
        rcases hz.2 with a | a
        · exact Or.inl a.1
        · exact Or.inr a.1
      refine m_prod hsl hn h0 hF hg hb.2.1 ⟨fun y => ?_, fun y => ?_⟩ ⟨by simp only [List.length_cons]; omega, Or.inr ⟨j, W, rfl, by omega⟩⟩ (by simp only [List.length_append, List.length_cons]; omega) (fun e2 D2 h2 P2 C2 hP2 hc2 hp2 he2 hl2 => ?_) (fun f p h2 => qn f p (by rw [zlpp_s cj, h2, zbd_no]))
      · rw [List.head?_cons] at y; injection y with y; omega
      · rw [List.head?_cons] at y; injection y with y; omega
      · have el : zlpp (zprodF B n F) (zgS B n) (zto B n) (d + 1) e D = zlpp (zprodF B n F) (zgS B n) (zto B n) d e2 (D ++ D2 ++ [j]) := by rw [zlpp_s cj, h2, zbd_ok]
        have := ih e2 (D ++ D2 ++ [j]) (P2 ++ [j]) C2 he2 (by omega) (by rw [← List.append_assoc, hc2]; simp only [List.append_assoc]) (fun x hx => by
          rw [List.mem_append, List.mem_singleton] at hx
          rcases hx with a | a
          · have := hP2 x a; omega
          · omega) hp2 (by simp only [List.length_append, List.length_cons, List.length_nil]; omega) (fun e' D' hq => qo e' D' (el.trans hq)) (fun f p hq => qn f p (el.trans hq))
        rw [show P2 ++ (j :: W) = (P2 ++ [j]) ++ W from by simp only [List.append_assoc, List.cons_append, List.nil_append]]
        exact this
theorem m_sum {G : zG} {h sl : Nat} (hsl : 2 ≤ sl) {u : Nat × Nat × Nat × Nat} {l1 : Int} {Q : Int → zM → Prop} {M0 : zM} {md : Int} {T : zTb} {m : Nat} {B : Int → Int} {n bs dp : Nat} {ok : Int → Bool} {op : Int} {F : zPfu} (hn : n ≤ 1600) (h0 : 0 ≤ op) (hF : zMc G h sl u l1 Q M0 md T m B n bs op F) (hg : zGd ok n dp false F) {C W : List Int} {e : Nat} (he : e ≤ n) (hW : ∀ x : Int, 1 ≤ x → x ≤ 4 → ¬ W.head? = some x) (hWb : zstq bs W) (he0 : C.length + W.length ≤ e) (qo : ∀ e' D, zsumF B n F e = .inr (e', D) → ∀ P2 C2 : List Int, (∀ x ∈ P2, 1 ≤ x ∧ x ≤ 4) → C2 ++ P2 = C ++ D → zgP B n e' = none → zgS B n e' = none → e' ≤ n → e + D.length ≤ e' → zAF G h sl u l1 Q M0 md T m B n bs e' C2 (P2 ++ W) op) (qn : ∀ f p, zsumF B n F e = .inl (f, p) → zFL Q M0 f p) : zAP G h sl u l1 Q M0 md T m B n bs e C W op := by
  refine m_prod hsl hn h0 hF hg he ⟨hW 3 (by decide) (by decide), hW 4 (by decide) (by decide)⟩ hWb he0 (fun e1 D1 h1 P1 C1 hP1 hc1 hp1 he1 hl1 => ?_) (fun f p h1 => qn f p (by unfold zsumF zlvl; rw [h1, zbd_no]))
  have el : zsumF B n F e = zlpp (zprodF B n F) (zgS B n) (zto B n) 1600 e1 D1 := by unfold zsumF; rw [zlvl, h1, zbd_ok]
  exact m_sumL hsl hn h0 hF hg hW hWb.1 he0 1600 e1 D1 P1 C1 he1 (by omega) hc1 (fun x hx => by have := hP1 x hx; omega) hp1 hl1 (fun e' D' hq => qo e' D' (el.trans hq)) (fun f p hq => qn f p (el.trans hq))
