/-! PARSER, the Model's machine: words of sums. -/
theorem zWo_of {o : Int} {w : List Int} (h : (decide ((zK o).1 = 102) && (decide ((zK o).2 = w.length) && decide (∀ j, j < w.length → zFn o (j : Int) = w.getD j 0))) = true) : zWo o w := by
  simp only [Bool.and_eq_true, decide_eq_true_eq] at h
  exact ⟨h.1, h.2.1, h.2.2⟩
theorem zo_179 : zWo 179 zo_not := zWo_of (by decide +kernel)
theorem zo_180 : zWo 180 zo_and := zWo_of (by decide +kernel)
theorem zo_181 : zWo 181 zo_or := zWo_of (by decide +kernel)
theorem zo_182 : zWo 182 zo_all := zWo_of (by decide +kernel)
theorem zo_183 : zWo 183 zo_min := zWo_of (by decide +kernel)
theorem zo_184 : zWo 184 zo_max := zWo_of (by decide +kernel)
theorem zo_185 : zWo 185 zo_line := zWo_of (by decide +kernel)
theorem zo_186 : zWo 186 zo_prev := zWo_of (by decide +kernel)
theorem zo_187 : zWo 187 zo_number := zWo_of (by decide +kernel)
theorem zo_188 : zWo 188 zo_sort := zWo_of (by decide +kernel)
theorem zo_189 : zWo 189 zo_value := zWo_of (by decide +kernel)
theorem zo_190 : zWo 190 zo_drift := zWo_of (by decide +kernel)
theorem zo_191 : zWo 191 zo_ahead := zWo_of (by decide +kernel)
theorem zo_192 : zWo 192 zo_col := zWo_of (by decide +kernel)
theorem zwrd_uq {B : Int → Int} {n e : Nat} {v w : List Int} (h1 : zwrd B n e v = true) (h2 : zwrd B n e w = true) : v = w := by
  unfold zwrd at h1 h2
  have a := of_decide_eq_true h1
  have b := of_decide_eq_true h2
  have hl : v.length = w.length := by omega
  refine List.ext_getElem hl (fun j h3 h4 => ?_)
  have a2 := a.2.2 j h3
  have b2 := b.2.2 j h4
  rw [a2] at b2
  rw [List.getD_eq_getElem?_getD, List.getD_eq_getElem?_getD, List.getElem?_eq_getElem h3, List.getElem?_eq_getElem h4] at b2
  exact b2
def zqw (k : Int) : List Int := if k = 0 then zo_line else if k = 1 then zo_prev else if k = 2 then zo_number else if k = 3 then zo_sort else if k = 4 then zo_value else if k = 5 then zo_drift else if k = 6 then zo_ahead else zo_col
/-- which of these words is here -/
def zwh (B : Int → Int) (n e : Nat) : Int := if zwrd B n e zo_line = true then 0 else if zwrd B n e zo_prev = true then 1 else if zwrd B n e zo_number = true then 2 else if zwrd B n e zo_sort = true then 3 else if zwrd B n e zo_value = true then 4 else if zwrd B n e zo_drift = true then 5 else if zwrd B n e zo_ahead = true then 6 else if zwrd B n e zo_col = true then 7 else -1
theorem zwh_v (B : Int → Int) (n e : Nat) : (zwh B n e = -1 ∧ ∀ k : Int, 0 ≤ k → k ≤ 7 → ¬ zwrd B n e (zqw k) = true) ∨ (0 ≤ zwh B n e ∧ zwh B n e ≤ 7 ∧ zwrd B n e (zqw (zwh B n e)) = true) := by
  unfold zwh
  by_cases c0 : zwrd B n e zo_line = true
  · rw [if_pos c0]; exact Or.inr ⟨by decide, by decide, c0⟩
  · rw [if_neg c0]
    by_cases c1 : zwrd B n e zo_prev = true
    · rw [if_pos c1]; exact Or.inr ⟨by decide, by decide, c1⟩
    · rw [if_neg c1]
      by_cases c2 : zwrd B n e zo_number = true
      · rw [if_pos c2]; exact Or.inr ⟨by decide, by decide, c2⟩
      · rw [if_neg c2]
        by_cases c3 : zwrd B n e zo_sort = true
        · rw [if_pos c3]; exact Or.inr ⟨by decide, by decide, c3⟩
        · rw [if_neg c3]
          by_cases c4 : zwrd B n e zo_value = true
          · rw [if_pos c4]; exact Or.inr ⟨by decide, by decide, c4⟩
          · rw [if_neg c4]
            by_cases c5 : zwrd B n e zo_drift = true
            · rw [if_pos c5]; exact Or.inr ⟨by decide, by decide, c5⟩
            · rw [if_neg c5]
              by_cases c6 : zwrd B n e zo_ahead = true
              · rw [if_pos c6]; exact Or.inr ⟨by decide, by decide, c6⟩
              · rw [if_neg c6]
                by_cases c7 : zwrd B n e zo_col = true
                · rw [if_pos c7]; exact Or.inr ⟨by decide, by decide, c7⟩
                · rw [if_neg c7]
                  refine Or.inl ⟨rfl, fun k h0 h7 => ?_⟩
                  rcases (by omega : k = 0 ∨ k = 1 ∨ k = 2 ∨ k = 3 ∨ k = 4 ∨ k = 5 ∨ k = 6 ∨ k = 7) with rfl | rfl | rfl | rfl | rfl | rfl | rfl | rfl
                  · exact c0
                  · exact c1
                  · exact c2
                  · exact c3
                  · exact c4
                  · exact c5
                  · exact c6
                  · exact c7
theorem zqw_ne {k j : Int} (h0 : 0 ≤ k) (h7 : k ≤ 7) (g0 : 0 ≤ j) (g7 : j ≤ 7) (h : zqw k = zqw j) : k = j := by
  rcases (by omega : k = 0 ∨ k = 1 ∨ k = 2 ∨ k = 3 ∨ k = 4 ∨ k = 5 ∨ k = 6 ∨ k = 7) with rfl | rfl | rfl | rfl | rfl | rfl | rfl | rfl <;> rcases (by omega : j = 0 ∨ j = 1 ∨ j = 2 ∨ j = 3 ∨ j = 4 ∨ j = 5 ∨ j = 6 ∨ j = 7) with rfl | rfl | rfl | rfl | rfl | rfl | rfl | rfl <;> first | rfl | exact absurd h (by decide)
/-- the k-th word is here just when zwh is k -/
theorem zwh_k {B : Int → Int} {n e : Nat} {k : Int} (h0 : 0 ≤ k) (h7 : k ≤ 7) : zwrd B n e (zqw k) = true ↔ zwh B n e = k := by
  constructor
  · intro h
    rcases zwh_v B n e with a | a
    · exact absurd h (a.2 k h0 h7)
    · exact zqw_ne a.1 a.2.1 h0 h7 (zwrd_uq a.2.2 h)
  · intro h
    rcases zwh_v B n e with a | a
    · omega
    · rw [h] at a; exact a.2.2
theorem m_isH {G : zG} {h sl : Nat} (hsl : 2 ≤ sl) {B : Int → Int} {n e : Nat} {o : Int} {w : List Int} {M : zM} {Q : Int → zM → Prop} (hn : n ≤ 1600) (he : e ≤ n) (hx : zMd B n e M) (hw : zWo o w) (hw6 : w.length ≤ 6) (q1 : zwrd B n e w = true → ∀ M', zSm zPwl M M' → zMe B n e M' → Q 1 M') (q0 : ¬ zwrd B n e w = true → ∀ M', zSm zPwl M M' → zMe B n e M' → Q 0 M') : zCt G (h + 1) sl 0 0 y_Md_isHere [(2, 125), (2, o)] M Q :=
  m_isHere hsl hn he hx hw hw6 (fun M' hM' h' => by
    by_cases c : zwrd B n e w = true
    · rw [if_pos c]; exact q1 c M' hM' h'
    · rw [if_neg c]; exact q0 c M' hM' h')
theorem m_qWordHere {G : zG} {h sl : Nat} (hsl : 2 ≤ sl) {B : Int → Int} {n e : Nat} {M : zM} {Q : Int → zM → Prop} (hn : n ≤ 1600) (he : e ≤ n) (hx : zMd B n e M) (q : ∀ M', zSm zPwl M M' → zMe B n e M' → Q (zwh B n e) M') : zCt G (h + 2) sl 0 0 y_Md_qWordHere [(2, 125)] M Q := by
  unfold zwh at q
  refine E_Md_qWordHere hsl (m_isH hsl hn he hx zo_185 (by decide) (fun c M1 h1 g1 => ⟨fun y => absurd y (by decide), fun _ => by rw [if_pos c] at q; exact q M1 h1 g1⟩) (fun c M1 h1 g1 => ⟨fun _ => ?_, fun y => absurd rfl y⟩))
  rw [if_neg c] at q
  refine m_isH hsl hn he g1.1 zo_186 (by decide) (fun c M2 h2 g2 => ⟨fun y => absurd y (by decide), fun _ => by rw [if_pos c] at q; exact q M2 (h1.trans h2) g2⟩) (fun c M2 h2 g2 => ⟨fun _ => ?_, fun y => absurd rfl y⟩)
  rw [if_neg c] at q
  have h2 := h1.trans h2
  refine m_isH hsl hn he g2.1 zo_187 (by decide) (fun c M3 h3 g3 => ⟨fun y => absurd y (by decide), fun _ => by rw [if_pos c] at q; exact q M3 (h2.trans h3) g3⟩) (fun c M3 h3 g3 => ⟨fun _ => ?_, fun y => absurd rfl y⟩)
  rw [if_neg c] at q
  have h3 := h2.trans h3
  refine m_isH hsl hn he g3.1 zo_188 (by decide) (fun c M4 h4 g4 => ⟨fun y => absurd y (by decide), fun _ => by rw [if_pos c] at q; exact q M4 (h3.trans h4) g4⟩) (fun c M4 h4 g4 => ⟨fun _ => ?_, fun y => absurd rfl y⟩)
  rw [if_neg c] at q
  have h4 := h3.trans h4
  refine m_isH hsl hn he g4.1 zo_189 (by decide) (fun c M5 h5 g5 => ⟨fun y => absurd y (by decide), fun _ => by rw [if_pos c] at q; exact q M5 (h4.trans h5) g5⟩) (fun c M5 h5 g5 => ⟨fun _ => ?_, fun y => absurd rfl y⟩)
  rw [if_neg c] at q
  have h5 := h4.trans h5
  refine m_isH hsl hn he g5.1 zo_190 (by decide) (fun c M6 h6 g6 => ⟨fun y => absurd y (by decide), fun _ => by rw [if_pos c] at q; exact q M6 (h5.trans h6) g6⟩) (fun c M6 h6 g6 => ⟨fun _ => ?_, fun y => absurd rfl y⟩)
  rw [if_neg c] at q
  have h6 := h5.trans h6
  refine m_isH hsl hn he g6.1 zo_191 (by decide) (fun c M7 h7 g7 => ⟨fun y => absurd y (by decide), fun _ => by rw [if_pos c] at q; exact q M7 (h6.trans h7) g7⟩) (fun c M7 h7 g7 => ⟨fun _ => ?_, fun y => absurd rfl y⟩)
  rw [if_neg c] at q
  have h7 := h6.trans h7
  refine m_isH hsl hn he g7.1 zo_192 (by decide) (fun c M8 h8 g8 => ⟨fun y => absurd y (by decide), fun _ => by rw [if_pos c] at q; exact q M8 (h7.trans h8) g8⟩) (fun c M8 h8 g8 => ⟨fun _ => ?_, fun y => absurd rfl y⟩)
  rw [if_neg c] at q
  exact q M8 (h7.trans h8) g8
/-- which words a text allows -/
def zalw (md k : Int) : Prop := (md = 0 ∧ k < 2) ∨ (md = 1 ∧ k = 0) ∨ (md = 2 ∧ k ≠ 1)
theorem m_qWordOf {G : zG} {h sl : Nat} (hsl : 2 ≤ sl) {B : Int → Int} {n e : Nat} {md lo hi : Int} {M : zM} {Q : Int → zM → Prop} (hn : n ≤ 1600) (he : e ≤ n) (hx : zMd B n e M) (h50 : M 125 50 = md) (hmd : md = 0 ∨ md = 1 ∨ md = 2) (q1 : (lo ≤ zwh B n e ∧ zwh B n e < hi) ∧ zalw md (zwh B n e) → ∀ M', zSm zPwl M M' → zMe B n e M' → Q (zwh B n e) M') (q0 : ¬ ((lo ≤ zwh B n e ∧ zwh B n e < hi) ∧ zalw md (zwh B n e)) → ∀ M', zSm zPwl M M' → zMe B n e M' → Q (-1) M') : zCt G (h + 3) sl 0 0 y_Md_qWordOf [(2, 125), (0, lo), (0, hi)] M Q := by
  refine E_Md_qWordOf hsl (m_qWordHere hsl hn he hx (fun M1 h1 g1 => ⟨fun g => q0 (by omega) M1 h1 g1, fun g => ⟨fun g2 => q0 (by omega) M1 h1 g1, fun g2 => ?_⟩⟩))
  unfold zalw at q0 q1
  have e50 : M1 125 50 = md := by rw [h1 _ _ (by unfold zPwl; omega)]; exact h50
  have r0 : ∀ {r : Int}, r = 0 → ¬ ((lo ≤ zwh B n e ∧ zwh B n e < hi) ∧ (md = 0 ∧ zwh B n e < 2 ∨ md = 1 ∧ zwh B n e = 0 ∨ md = 2 ∧ zwh B n e ≠ 1)) → (r = 0 → Q (-1) M1) ∧ (¬ r = 0 → Q (zwh B n e) M1) := fun er c => ⟨fun _ => q0 c M1 h1 g1, fun y => absurd er y⟩
  have rr : ∀ {r : Int}, ¬ r = 0 → ((lo ≤ zwh B n e ∧ zwh B n e < hi) ∧ (md = 0 ∧ zwh B n e < 2 ∨ md = 1 ∧ zwh B n e = 0 ∨ md = 2 ∧ zwh B n e ≠ 1)) → (r = 0 → Q (-1) M1) ∧ (¬ r = 0 → Q (zwh B n e) M1) := fun er c => ⟨fun y => absurd y er, fun _ => q1 c M1 h1 g1⟩
  refine E_Md_isAllowed hsl ?_
  rw [e50]
  refine ⟨fun c => ⟨fun c2 => ⟨fun c3 => r0 rfl (by omega), fun c3 => rr (by decide) (by omega)⟩, fun c2 => ⟨fun c3 => r0 rfl (by omega), fun c3 => rr (by decide) (by omega)⟩⟩, fun c => ⟨fun c2 => r0 rfl (by omega), fun c2 => rr (by decide) (by omega)⟩⟩
theorem m_qAsksWord {G : zG} {h sl : Nat} (hsl : 2 ≤ sl) {B : Int → Int} {n e : Nat} {k : Int} {M : zM} {Q : Int → zM → Prop} (hn : n ≤ 1600) (he : e ≤ n) (hx : zMd B n e M) (h0 : 0 ≤ k ∧ k ≤ 7) (hk : zwh B n e = k) (q : ∀ M', zSm zPmt M M' → zMd B n (zto B n e) M' → Q 0 M') : zCt G (h + 4) sl 0 0 y_Md_qAsksWord [(2, 125), (0, k)] M Q := by
  have hw := (zwh_k (B := B) (n := n) (e := e) h0.1 h0.2).2 hk
  have go : ∀ (o j : Int) {w : List Int}, k = j → zqw j = w → zWo o w → w.length ≤ 6 → zCt G (h + 3) sl 0 0 y_Md_asks [(2, 125), (2, o)] M (fun r1 M2 => Q 0 M2) := fun o j w ej ew hwo h6 => by
    rw [ej, ew] at hw
    exact m_asks hsl hn he hx hwo h6 (fun _ M1 h1 g1 => q M1 h1 g1) (fun c => absurd hw c)
  refine E_Md_qAsksWord hsl ⟨fun c => go 185 0 c rfl zo_185 (by decide), fun c => go 186 1 c rfl zo_186 (by decide), fun c => go 187 2 c rfl zo_187 (by decide), fun c => go 188 3 c rfl zo_188 (by decide), fun c => go 189 4 c rfl zo_189 (by decide), fun c => go 190 5 c rfl zo_190 (by decide), fun c => go 191 6 c rfl zo_191 (by decide), fun c => go 192 7 (by omega) rfl zo_192 (by decide)⟩
/-- in a fault nothing is asked -/
theorem m_asksF {G : zG} {h sl : Nat} (hsl : 2 ≤ sl) {o : Int} {M : zM} {Q : Int → zM → Prop} (hb : ¬ M 125 5 = 0) (q : Q 0 M) : zCt G (h + 1) sl 0 0 y_Md_asks [(2, 125), (2, o)] M Q := E_Md_asks hsl ⟨fun _ => q, fun g => absurd hb g⟩
theorem m_asksSignF {G : zG} {h sl : Nat} (hsl : 2 ≤ sl) {o : Int} {M : zM} {Q : Int → zM → Prop} (hb : ¬ M 125 5 = 0) (q : Q 0 M) : zCt G (h + 1) sl 0 0 y_Md_asksSign [(2, 125), (0, o)] M Q := E_Md_asksSign hsl ⟨fun _ => q, fun g => absurd hb g⟩
theorem m_qAsksWordF {G : zG} {h sl : Nat} (hsl : 2 ≤ sl) {k : Int} {M : zM} {Q : Int → zM → Prop} (hb : ¬ M 125 5 = 0) (q : Q 0 M) : zCt G (h + 2) sl 0 0 y_Md_qAsksWord [(2, 125), (0, k)] M Q :=
  E_Md_qAsksWord hsl ⟨fun _ => m_asksF hsl hb q, fun _ => m_asksF hsl hb q, fun _ => m_asksF hsl hb q, fun _ => m_asksF hsl hb q, fun _ => m_asksF hsl hb q, fun _ => m_asksF hsl hb q, fun _ => m_asksF hsl hb q, fun _ => m_asksF hsl hb q⟩
theorem ztld_2 {T : zTb} {m : Nat} {B : Int → Int} {n e : Nat} : ztld 2 T m B n e = if zwh B n e = -1 ∨ zwh B n e = 1 ∨ 6 ≤ zwh B n e then -1 else zwh B n e := by
  have k0 := zwh_k (B := B) (n := n) (e := e) (k := 0) (by decide) (by decide)
  have k2 := zwh_k (B := B) (n := n) (e := e) (k := 2) (by decide) (by decide)
  have k3 := zwh_k (B := B) (n := n) (e := e) (k := 3) (by decide) (by decide)
  have k4 := zwh_k (B := B) (n := n) (e := e) (k := 4) (by decide) (by decide)
  have k5 := zwh_k (B := B) (n := n) (e := e) (k := 5) (by decide) (by decide)
  have hv := zwh_v B n e
  have k0 : zwrd B n e zo_line = true ↔ _ := k0
  have k2 : zwrd B n e zo_number = true ↔ _ := k2
  have k3 : zwrd B n e zo_sort = true ↔ _ := k3
  have k4 : zwrd B n e zo_value = true ↔ _ := k4
  have k5 : zwrd B n e zo_drift = true ↔ _ := k5
  unfold ztld
  rw [if_pos rfl]
  simp only [k0, k2, k3, k4, k5]
  have hb : -1 ≤ zwh B n e ∧ zwh B n e ≤ 7 := by
    rcases hv with a | a
    · omega
    · omega
  generalize zwh B n e = z at hb ⊢
  rcases (by omega : z = -1 ∨ z = 0 ∨ z = 1 ∨ z = 2 ∨ z = 3 ∨ z = 4 ∨ z = 5 ∨ z = 6 ∨ z = 7) with rfl | rfl | rfl | rfl | rfl | rfl | rfl | rfl | rfl <;> decide
theorem ztld_c {md : Int} {T : zTb} {m : Nat} {B : Int → Int} {n e : Nat} (h : md = 0 ∨ md = 1) : ztld md T m B n e = if zwh B n e = 0 then 0 else if md = 0 ∧ zwh B n e = 1 then 1 else if zcnm T m B n e = -1 then -1 else 8 + zcnm T m B n e := by
  have k0 : zwrd B n e zo_line = true ↔ _ := zwh_k (B := B) (n := n) (e := e) (k := 0) (by decide) (by decide)
  have k1 : zwrd B n e zo_prev = true ↔ _ := zwh_k (B := B) (n := n) (e := e) (k := 1) (by decide) (by decide)
  unfold ztld
  rw [if_neg (by omega)]
  simp only [k0, k1]
