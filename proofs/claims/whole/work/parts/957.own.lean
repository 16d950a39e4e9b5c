/-! NAMES: the own words (made by wip/whole/gen/own.py). -/
def zo_zig : List Int := [122, 105, 103]
def zo_arc : List Int := [97, 114, 99]
def zo_ring : List Int := [114, 105, 110, 103]
def zo_sum : List Int := [115, 117, 109]
def zo_from : List Int := [102, 114, 111, 109]
def zo_to : List Int := [116, 111]
def zo_by : List Int := [98, 121]
def zo_at : List Int := [97, 116]
def zo_up : List Int := [117, 112]
def zo_down : List Int := [100, 111, 119, 110]
def zo_of : List Int := [111, 102]
def zo_fast : List Int := [102, 97, 115, 116]
def zo_slow : List Int := [115, 108, 111, 119]
def zo_is : List Int := [105, 115]
def zo_marks : List Int := [109, 97, 114, 107, 115]
def zo_slip : List Int := [115, 108, 105, 112]
theorem zo_128 : zWo 128 zo_zig := zWo_of (by decide +kernel)
theorem zo_129 : zWo 129 zo_arc := zWo_of (by decide +kernel)
theorem zo_130 : zWo 130 zo_ring := zWo_of (by decide +kernel)
theorem zo_131 : zWo 131 zo_sum := zWo_of (by decide +kernel)
theorem zo_132 : zWo 132 zo_from := zWo_of (by decide +kernel)
theorem zo_133 : zWo 133 zo_to := zWo_of (by decide +kernel)
theorem zo_134 : zWo 134 zo_by := zWo_of (by decide +kernel)
theorem zo_135 : zWo 135 zo_at := zWo_of (by decide +kernel)
theorem zo_136 : zWo 136 zo_up := zWo_of (by decide +kernel)
theorem zo_137 : zWo 137 zo_down := zWo_of (by decide +kernel)
theorem zo_138 : zWo 138 zo_of := zWo_of (by decide +kernel)
theorem zo_139 : zWo 139 zo_fast := zWo_of (by decide +kernel)
theorem zo_140 : zWo 140 zo_slow := zWo_of (by decide +kernel)
theorem zo_141 : zWo 141 zo_is := zWo_of (by decide +kernel)
theorem zo_142 : zWo 142 zo_marks := zWo_of (by decide +kernel)
theorem zo_143 : zWo 143 zo_slip := zWo_of (by decide +kernel)
theorem zo_144 : zWo 144 zo_line := zWo_of (by decide +kernel)
theorem zo_145 : zWo 145 zo_prev := zWo_of (by decide +kernel)
theorem zo_146 : zWo 146 zo_number := zWo_of (by decide +kernel)
theorem zo_147 : zWo 147 zo_sort := zWo_of (by decide +kernel)
theorem zo_148 : zWo 148 zo_value := zWo_of (by decide +kernel)
theorem zo_149 : zWo 149 zo_drift := zWo_of (by decide +kernel)
theorem zo_150 : zWo 150 zo_ahead := zWo_of (by decide +kernel)
theorem zo_151 : zWo 151 zo_col := zWo_of (by decide +kernel)
theorem zo_152 : zWo 152 zo_or := zWo_of (by decide +kernel)
theorem zo_153 : zWo 153 zo_and := zWo_of (by decide +kernel)
theorem zo_154 : zWo 154 zo_not := zWo_of (by decide +kernel)
theorem zo_155 : zWo 155 zo_all := zWo_of (by decide +kernel)
theorem zo_156 : zWo 156 zo_min := zWo_of (by decide +kernel)
theorem zo_157 : zWo 157 zo_max := zWo_of (by decide +kernel)
def zowns : List (List Int) := [zo_zig, zo_arc, zo_ring, zo_sum, zo_from, zo_to, zo_by, zo_at, zo_up, zo_down, zo_of, zo_fast, zo_slow, zo_is, zo_marks, zo_slip, zo_line, zo_prev, zo_number, zo_sort, zo_value, zo_drift, zo_ahead, zo_col, zo_or, zo_and, zo_not, zo_all, zo_min, zo_max]
def zown (B : Int → Int) (n e : Nat) : Bool := zowns.any (zwrd B n e)
/-- the text spells these words from p on, a blank behind each -/
def zspl : Nat → List (List Int) → Bool
  | p, [] => decide (p = zsl 20)
  | p, w :: r => decide (1 ≤ w.length) && (decide (∀ j, j < w.length → zsb 20 (p + j) = w.getD j 0 ∧ w.getD j 0 ≠ 32) && (decide (zsb 20 (p + w.length) = 32) && (decide (p + w.length < zsl 20) && zspl (p + w.length + 1) r)))
theorem zspl_0 : zspl 0 zowns = true := by decide +kernel
theorem c_ownW {G : zG} {h sl : Nat} (hsl : 1 ≤ sl) {B : Int → Int} {n e p : Nat} {w : List Int} {M : zM} {Q : Int → zM → Prop} (hn : n ≤ 1600) (he : e ≤ n) (hr : zRd B n e M) (hk : zkd B n e = 1) (hw : ∀ j, j < w.length → zsb 20 (p + j) = w.getD j 0 ∧ w.getD j 0 ≠ 32) (hw0 : zsb 20 (p + w.length) = 32) (hp : p + w.length < zsl 20) (q1 : zwrd B n e w = true → Q 1 M) (q0 : ¬ zwrd B n e w = true → ∀ u, zX G (y_Reader_isOwnWord, h + 3 + 1, sl) u 7 [(0, (2, 72)), (1, (0, (zfr B n e : Nat))), (2, (0, ((p + w.length + 1 : Nat) : Int)))] [] M Q) :
    ∀ (d j : Nat) (a : Int) u, d + j = w.length → (a = ((zfr B n e + j : Nat) : Int) ∧ zfr B n e + j ≤ zto B n e ∧ (∀ i, i < j → B ((zfr B n e + i : Nat) : Int) = w.getD i 0) ∨ a = -1 ∧ ¬ zwrd B n e w = true) → zX G (y_Reader_isOwnWord, h + 3 + 1, sl) u 7 [(0, (2, 72)), (1, (0, a)), (2, (0, ((p + j : Nat) : Int)))] [] M Q := by
  have hb := zto_b (B := B) he
  have hd := zkd_ltr hk
  have hlen : zsl 20 < 200 := by decide +kernel
  have h20 : (20 : Nat) < zstr.length := by decide
  intro d
  induction d with
  | zero =>
    intro j a u ej ha
    have ej : j = w.length := by omega
    subst ej
    refine B_Reader_isOwnWord_7 hsl (sp_length (i := 20) h20 ⟨fun y => absurd y (by omega), fun _ => sp_charAt (i := 20) h20 (by omega) ?_⟩)
    rw [show (((p + w.length : Nat) : Int)).toNat = p + w.length from by omega, hw0]
    refine ⟨fun y => absurd rfl y, fun _ => ?_⟩
    rw [hr.2.2.2, hr.2.1]
    refine ⟨fun g => ⟨by unfold zI; omega, ?_⟩, fun g => q1 ?_⟩
    · refine q0 (fun y => ?_) u
      rcases ha with x | x
      · unfold zwrd at y
        have := (of_decide_eq_true y).2.1
        exact g (by omega)
      · exact x.2 y
    · have g := Classical.byContradiction g
      rcases ha with x | x
      · unfold zwrd
        exact decide_eq_true ⟨hk, by omega, x.2.2⟩
      · omega
  | succ d ih =>
    intro j a u ej ha
    have hj := hw j (by omega)
    have nx : ∀ a2 : Int, (a2 = ((zfr B n e + (j + 1) : Nat) : Int) ∧ zfr B n e + (j + 1) ≤ zto B n e ∧ (∀ i, i < j + 1 → B ((zfr B n e + i : Nat) : Int) = w.getD i 0) ∨ a2 = -1 ∧ ¬ zwrd B n e w = true) → zX G (y_Reader_isOwnWord, h + 3 + 1, sl) u 7 [(0, (2, 72)), (1, (0, a2)), (2, (0, ((p + j : Nat) : Int) + 1))] [] M Q := fun a2 h2 => by
      have := ih (j + 1) a2 u (by omega) h2
      rw [show ((p + (j + 1) : Nat) : Int) = ((p + j : Nat) : Int) + 1 from by omega] at this
      exact this
    refine B_Reader_isOwnWord_7 hsl (sp_length (i := 20) h20 ⟨fun y => absurd y (by omega), fun _ => sp_charAt (i := 20) h20 (by omega) ?_⟩)
    rw [show (((p + j : Nat) : Int)).toNat = p + j from by omega, hj.1]
    refine ⟨fun _ => ?_, fun y => absurd (Classical.byContradiction y) hj.2⟩
    rw [hr.2.1, hr.2.2.2]
    rcases ha with x | x
    · refine ⟨fun g => absurd g (by omega), fun _ => ⟨fun g => ⟨by unfold zI; omega, nx (-1) (Or.inr ⟨rfl, fun y => ?_⟩)⟩, fun g => ⟨by omega, ?_⟩⟩⟩
      · unfold zwrd at y
        have := (of_decide_eq_true y).2.1
        omega
      · rw [x.1, hr.1.2.1 _ (by omega) (by omega)]
        refine ⟨fun g2 => ⟨by unfold zI; omega, nx (-1) (Or.inr ⟨rfl, fun y => ?_⟩)⟩, fun g2 => ⟨by unfold zI; omega, by unfold zI; omega, nx _ (Or.inl ⟨by omega, by omega, fun i hi => ?_⟩)⟩⟩
        · unfold zwrd at y
          exact g2 ((of_decide_eq_true y).2.2 j (by omega))
        · by_cases c : i = j
          · rw [c]; exact Classical.byContradiction g2
          · exact x.2.2 i (by omega)
    · exact ⟨fun g => ⟨by unfold zI; omega, nx a (Or.inr x)⟩, fun g => absurd (by omega) g⟩
theorem c_ownL {G : zG} {h sl : Nat} (hsl : 1 ≤ sl) {B : Int → Int} {n e : Nat} {M : zM} {Q : Int → zM → Prop} (hn : n ≤ 1600) (he : e ≤ n) (hr : zRd B n e M) (hk : zkd B n e = 1) : ∀ (ws : List (List Int)) (p : Nat) u, zspl p ws = true → (ws.any (zwrd B n e) = true → Q 1 M) → (¬ ws.any (zwrd B n e) = true → Q 0 M) → zX G (y_Reader_isOwnWord, h + 3 + 1, sl) u 7 [(0, (2, 72)), (1, (0, (zfr B n e : Nat))), (2, (0, (p : Int)))] [] M Q
  | [], p, u, hs, q1, q0 => by
    unfold zspl at hs
    have hs := of_decide_eq_true hs
    refine B_Reader_isOwnWord_7 hsl (sp_length (i := 20) (by decide) ⟨fun _ => q0 (by simp), fun y => absurd (by omega) y⟩)
  | w :: r, p, u, hs, q1, q0 => by
    unfold zspl at hs
    simp only [Bool.and_eq_true, decide_eq_true_eq] at hs
    have hb := zto_b (B := B) he
    have k1 : zwrd B n e w = true → Q 1 M := fun c => q1 (by rw [List.any_cons, c]; rfl)
    have k0 : ¬ zwrd B n e w = true → ∀ u, zX G (y_Reader_isOwnWord, h + 3 + 1, sl) u 7 [(0, (2, 72)), (1, (0, (zfr B n e : Nat))), (2, (0, ((p + w.length + 1 : Nat) : Int)))] [] M Q := fun c u => c_ownL hsl hn he hr hk r (p + w.length + 1) u hs.2.2.2.2 (fun g => q1 (by rw [List.any_cons, g, Bool.or_true])) (fun g => q0 (by rw [List.any_cons]; intro y; rw [Bool.or_eq_true] at y; exact y.elim c g))
    exact c_ownW (h := h) (p := p) (w := w) hsl hn he hr hk hs.2.1 hs.2.2.1 hs.2.2.2.1 k1 k0 w.length 0 (zfr B n e : Nat) u (by omega) (Or.inl ⟨rfl, by omega, fun i hi => absurd hi (by omega)⟩)
theorem c_isOwnWord {G : zG} {h sl : Nat} (hsl : 1 ≤ sl) {B : Int → Int} {n e : Nat} {M : zM} {Q : Int → zM → Prop} (hn : n ≤ 1600) (he : e ≤ n) (hr : zRd B n e M) (hk : zkd B n e = 1) (q1 : zown B n e = true → Q 1 M) (q0 : ¬ zown B n e = true → Q 0 M) : zCt G (h + 4) sl 0 0 y_Reader_isOwnWord [(2, 72)] M Q := by
  refine E_Reader_isOwnWord hsl ?_
  rw [hr.2.1]
  exact c_ownL hsl hn he hr hk zowns 0 _ zspl_0 q1 q0
theorem m_isOwnHere {G : zG} {h sl : Nat} (hsl : 2 ≤ sl) {B : Int → Int} {n e : Nat} {M : zM} {Q : Int → zM → Prop} (hn : n ≤ 1600) (he : e ≤ n) (hx : zMd B n e M) (q1 : zown B n e = true → ∀ M', zSm zPwl M M' → zMe B n e M' → Q 1 M') (q0 : ¬ zown B n e = true → ∀ M', zSm zPwl M M' → zMe B n e M' → Q 0 M') : zCt G (h + 2) sl 0 0 y_Md_isOwnHere [(2, 125)] M Q := by
  have y299 : ∀ M' u, zown B n e = true → zSm zPwl M M' → zMe B n e M' → zX G (y_Md_isOwnHere, h + 1 + 1, sl) u 299 [(0, (2, 125))] [(0, 1)] M' Q := fun M' u c h1 g1 => B_Md_isOwnHere_299 hsl ⟨fun _ => q1 c M' h1 g1, fun y => absurd (by decide) y⟩
  have y223 : ∀ M' u, zown B n e = true → zSm zPwl M M' → zMe B n e M' → zX G (y_Md_isOwnHere, h + 1 + 1, sl) u 223 [(0, (2, 125))] [(0, 1)] M' Q := fun M' u c h1 g1 => B_Md_isOwnHere_223 hsl ⟨fun _ => y299 M' u c h1 g1, fun y => absurd (by decide) y⟩
  have y147 : ∀ M' u, zown B n e = true → zSm zPwl M M' → zMe B n e M' → zX G (y_Md_isOwnHere, h + 1 + 1, sl) u 147 [(0, (2, 125))] [(0, 1)] M' Q := fun M' u c h1 g1 => B_Md_isOwnHere_147 hsl ⟨fun _ => y223 M' u c h1 g1, fun y => absurd (by decide) y⟩
  have y71 : ∀ M' u, zown B n e = true → zSm zPwl M M' → zMe B n e M' → zX G (y_Md_isOwnHere, h + 1 + 1, sl) u 71 [(0, (2, 125))] [(0, 1)] M' Q := fun M' u c h1 g1 => B_Md_isOwnHere_71 hsl ⟨fun _ => y147 M' u c h1 g1, fun y => absurd (by decide) y⟩
  have s0 : zown B n e = zowns.any (zwrd B n e) := rfl
  unfold zowns at s0
  refine E_Md_isOwnHere hsl (m_isH hsl hn he hx zo_128 (by decide) (fun c M1 h1 g1 => ⟨fun _ => y71 M1 _ (by rw [s0, List.any_cons, c]; rfl) (h1) g1, fun y => absurd (by decide) y⟩) (fun c M1 h1 g1 => ⟨fun y => absurd rfl y, fun _ => ?_⟩))
  have s1 : zown B n e = List.any [zo_arc, zo_ring, zo_sum, zo_from, zo_to, zo_by, zo_at, zo_up, zo_down, zo_of, zo_fast, zo_slow, zo_is, zo_marks, zo_slip, zo_line, zo_prev, zo_number, zo_sort, zo_value, zo_drift, zo_ahead, zo_col, zo_or, zo_and, zo_not, zo_all, zo_min, zo_max] (zwrd B n e) := by rw [s0, List.any_cons, Bool.eq_false_iff.2 c, Bool.false_or]
  refine m_isH hsl hn he g1.1 zo_129 (by decide) (fun c M2 h2 g2 => ⟨fun _ => y71 M2 _ (by rw [s1, List.any_cons, c]; rfl) (h1.trans h2) g2, fun y => absurd (by decide) y⟩) (fun c M2 h2 g2 => ⟨fun y => absurd rfl y, fun _ => ?_⟩)
  have s2 : zown B n e = List.any [zo_ring, zo_sum, zo_from, zo_to, zo_by, zo_at, zo_up, zo_down, zo_of, zo_fast, zo_slow, zo_is, zo_marks, zo_slip, zo_line, zo_prev, zo_number, zo_sort, zo_value, zo_drift, zo_ahead, zo_col, zo_or, zo_and, zo_not, zo_all, zo_min, zo_max] (zwrd B n e) := by rw [s1, List.any_cons, Bool.eq_false_iff.2 c, Bool.false_or]
  have h2 := h1.trans h2
  refine m_isH hsl hn he g2.1 zo_130 (by decide) (fun c M3 h3 g3 => ⟨fun _ => y71 M3 _ (by rw [s2, List.any_cons, c]; rfl) (h2.trans h3) g3, fun y => absurd (by decide) y⟩) (fun c M3 h3 g3 => ⟨fun y => absurd rfl y, fun _ => ?_⟩)
  have s3 : zown B n e = List.any [zo_sum, zo_from, zo_to, zo_by, zo_at, zo_up, zo_down, zo_of, zo_fast, zo_slow, zo_is, zo_marks, zo_slip, zo_line, zo_prev, zo_number, zo_sort, zo_value, zo_drift, zo_ahead, zo_col, zo_or, zo_and, zo_not, zo_all, zo_min, zo_max] (zwrd B n e) := by rw [s2, List.any_cons, Bool.eq_false_iff.2 c, Bool.false_or]
  have h3 := h2.trans h3
  refine m_isH hsl hn he g3.1 zo_131 (by decide) (fun c M4 h4 g4 => ⟨fun _ => y71 M4 _ (by rw [s3, List.any_cons, c]; rfl) (h3.trans h4) g4, fun y => absurd (by decide) y⟩) (fun c M4 h4 g4 => ⟨fun y => absurd rfl y, fun _ => ?_⟩)
  have s4 : zown B n e = List.any [zo_from, zo_to, zo_by, zo_at, zo_up, zo_down, zo_of, zo_fast, zo_slow, zo_is, zo_marks, zo_slip, zo_line, zo_prev, zo_number, zo_sort, zo_value, zo_drift, zo_ahead, zo_col, zo_or, zo_and, zo_not, zo_all, zo_min, zo_max] (zwrd B n e) := by rw [s3, List.any_cons, Bool.eq_false_iff.2 c, Bool.false_or]
  have h4 := h3.trans h4
  refine m_isH hsl hn he g4.1 zo_132 (by decide) (fun c M5 h5 g5 => ⟨fun _ => y71 M5 _ (by rw [s4, List.any_cons, c]; rfl) (h4.trans h5) g5, fun y => absurd (by decide) y⟩) (fun c M5 h5 g5 => ⟨fun y => absurd rfl y, fun _ => ?_⟩)
  have s5 : zown B n e = List.any [zo_to, zo_by, zo_at, zo_up, zo_down, zo_of, zo_fast, zo_slow, zo_is, zo_marks, zo_slip, zo_line, zo_prev, zo_number, zo_sort, zo_value, zo_drift, zo_ahead, zo_col, zo_or, zo_and, zo_not, zo_all, zo_min, zo_max] (zwrd B n e) := by rw [s4, List.any_cons, Bool.eq_false_iff.2 c, Bool.false_or]
  have h5 := h4.trans h5
  refine m_isH hsl hn he g5.1 zo_133 (by decide) (fun c M6 h6 g6 => ⟨fun y => absurd y (by decide), fun _ => y71 M6 _ (by rw [s5, List.any_cons, c]; rfl) (h5.trans h6) g6⟩) (fun c M6 h6 g6 => ⟨fun _ => ?_, fun y => absurd rfl y⟩)
  have s6 : zown B n e = List.any [zo_by, zo_at, zo_up, zo_down, zo_of, zo_fast, zo_slow, zo_is, zo_marks, zo_slip, zo_line, zo_prev, zo_number, zo_sort, zo_value, zo_drift, zo_ahead, zo_col, zo_or, zo_and, zo_not, zo_all, zo_min, zo_max] (zwrd B n e) := by rw [s5, List.any_cons, Bool.eq_false_iff.2 c, Bool.false_or]
  have h6 := h5.trans h6
  refine B_Md_isOwnHere_71 hsl ⟨fun y => absurd rfl y, fun _ => m_isH hsl hn he g6.1 zo_134 (by decide) (fun c M7 h7 g7 => ⟨fun _ => y147 M7 _ (by rw [s6, List.any_cons, c]; rfl) (h6.trans h7) g7, fun y => absurd (by decide) y⟩) (fun c M7 h7 g7 => ⟨fun y => absurd rfl y, fun _ => ?_⟩)⟩
  have s7 : zown B n e = List.any [zo_at, zo_up, zo_down, zo_of, zo_fast, zo_slow, zo_is, zo_marks, zo_slip, zo_line, zo_prev, zo_number, zo_sort, zo_value, zo_drift, zo_ahead, zo_col, zo_or, zo_and, zo_not, zo_all, zo_min, zo_max] (zwrd B n e) := by rw [s6, List.any_cons, Bool.eq_false_iff.2 c, Bool.false_or]
  have h7 := h6.trans h7
  refine m_isH hsl hn he g7.1 zo_135 (by decide) (fun c M8 h8 g8 => ⟨fun _ => y147 M8 _ (by rw [s7, List.any_cons, c]; rfl) (h7.trans h8) g8, fun y => absurd (by decide) y⟩) (fun c M8 h8 g8 => ⟨fun y => absurd rfl y, fun _ => ?_⟩)
  have s8 : zown B n e = List.any [zo_up, zo_down, zo_of, zo_fast, zo_slow, zo_is, zo_marks, zo_slip, zo_line, zo_prev, zo_number, zo_sort, zo_value, zo_drift, zo_ahead, zo_col, zo_or, zo_and, zo_not, zo_all, zo_min, zo_max] (zwrd B n e) := by rw [s7, List.any_cons, Bool.eq_false_iff.2 c, Bool.false_or]
  have h8 := h7.trans h8
  refine m_isH hsl hn he g8.1 zo_136 (by decide) (fun c M9 h9 g9 => ⟨fun _ => y147 M9 _ (by rw [s8, List.any_cons, c]; rfl) (h8.trans h9) g9, fun y => absurd (by decide) y⟩) (fun c M9 h9 g9 => ⟨fun y => absurd rfl y, fun _ => ?_⟩)
  have s9 : zown B n e = List.any [zo_down, zo_of, zo_fast, zo_slow, zo_is, zo_marks, zo_slip, zo_line, zo_prev, zo_number, zo_sort, zo_value, zo_drift, zo_ahead, zo_col, zo_or, zo_and, zo_not, zo_all, zo_min, zo_max] (zwrd B n e) := by rw [s8, List.any_cons, Bool.eq_false_iff.2 c, Bool.false_or]
  have h9 := h8.trans h9
  refine m_isH hsl hn he g9.1 zo_137 (by decide) (fun c M10 h10 g10 => ⟨fun _ => y147 M10 _ (by rw [s9, List.any_cons, c]; rfl) (h9.trans h10) g10, fun y => absurd (by decide) y⟩) (fun c M10 h10 g10 => ⟨fun y => absurd rfl y, fun _ => ?_⟩)
  have s10 : zown B n e = List.any [zo_of, zo_fast, zo_slow, zo_is, zo_marks, zo_slip, zo_line, zo_prev, zo_number, zo_sort, zo_value, zo_drift, zo_ahead, zo_col, zo_or, zo_and, zo_not, zo_all, zo_min, zo_max] (zwrd B n e) := by rw [s9, List.any_cons, Bool.eq_false_iff.2 c, Bool.false_or]
  have h10 := h9.trans h10
  refine m_isH hsl hn he g10.1 zo_138 (by decide) (fun c M11 h11 g11 => ⟨fun _ => y147 M11 _ (by rw [s10, List.any_cons, c]; rfl) (h10.trans h11) g11, fun y => absurd (by decide) y⟩) (fun c M11 h11 g11 => ⟨fun y => absurd rfl y, fun _ => ?_⟩)
  have s11 : zown B n e = List.any [zo_fast, zo_slow, zo_is, zo_marks, zo_slip, zo_line, zo_prev, zo_number, zo_sort, zo_value, zo_drift, zo_ahead, zo_col, zo_or, zo_and, zo_not, zo_all, zo_min, zo_max] (zwrd B n e) := by rw [s10, List.any_cons, Bool.eq_false_iff.2 c, Bool.false_or]
  have h11 := h10.trans h11
  refine m_isH hsl hn he g11.1 zo_139 (by decide) (fun c M12 h12 g12 => ⟨fun y => absurd y (by decide), fun _ => y147 M12 _ (by rw [s11, List.any_cons, c]; rfl) (h11.trans h12) g12⟩) (fun c M12 h12 g12 => ⟨fun _ => ?_, fun y => absurd rfl y⟩)
  have s12 : zown B n e = List.any [zo_slow, zo_is, zo_marks, zo_slip, zo_line, zo_prev, zo_number, zo_sort, zo_value, zo_drift, zo_ahead, zo_col, zo_or, zo_and, zo_not, zo_all, zo_min, zo_max] (zwrd B n e) := by rw [s11, List.any_cons, Bool.eq_false_iff.2 c, Bool.false_or]
  have h12 := h11.trans h12
  refine B_Md_isOwnHere_147 hsl ⟨fun y => absurd rfl y, fun _ => m_isH hsl hn he g12.1 zo_140 (by decide) (fun c M13 h13 g13 => ⟨fun _ => y223 M13 _ (by rw [s12, List.any_cons, c]; rfl) (h12.trans h13) g13, fun y => absurd (by decide) y⟩) (fun c M13 h13 g13 => ⟨fun y => absurd rfl y, fun _ => ?_⟩)⟩
  have s13 : zown B n e = List.any [zo_is, zo_marks, zo_slip, zo_line, zo_prev, zo_number, zo_sort, zo_value, zo_drift, zo_ahead, zo_col, zo_or, zo_and, zo_not, zo_all, zo_min, zo_max] (zwrd B n e) := by rw [s12, List.any_cons, Bool.eq_false_iff.2 c, Bool.false_or]
  have h13 := h12.trans h13
  refine m_isH hsl hn he g13.1 zo_141 (by decide) (fun c M14 h14 g14 => ⟨fun _ => y223 M14 _ (by rw [s13, List.any_cons, c]; rfl) (h13.trans h14) g14, fun y => absurd (by decide) y⟩) (fun c M14 h14 g14 => ⟨fun y => absurd rfl y, fun _ => ?_⟩)
  have s14 : zown B n e = List.any [zo_marks, zo_slip, zo_line, zo_prev, zo_number, zo_sort, zo_value, zo_drift, zo_ahead, zo_col, zo_or, zo_and, zo_not, zo_all, zo_min, zo_max] (zwrd B n e) := by rw [s13, List.any_cons, Bool.eq_false_iff.2 c, Bool.false_or]
  have h14 := h13.trans h14
  refine m_isH hsl hn he g14.1 zo_142 (by decide) (fun c M15 h15 g15 => ⟨fun _ => y223 M15 _ (by rw [s14, List.any_cons, c]; rfl) (h14.trans h15) g15, fun y => absurd (by decide) y⟩) (fun c M15 h15 g15 => ⟨fun y => absurd rfl y, fun _ => ?_⟩)
  have s15 : zown B n e = List.any [zo_slip, zo_line, zo_prev, zo_number, zo_sort, zo_value, zo_drift, zo_ahead, zo_col, zo_or, zo_and, zo_not, zo_all, zo_min, zo_max] (zwrd B n e) := by rw [s14, List.any_cons, Bool.eq_false_iff.2 c, Bool.false_or]
  have h15 := h14.trans h15
  refine m_isH hsl hn he g15.1 zo_143 (by decide) (fun c M16 h16 g16 => ⟨fun _ => y223 M16 _ (by rw [s15, List.any_cons, c]; rfl) (h15.trans h16) g16, fun y => absurd (by decide) y⟩) (fun c M16 h16 g16 => ⟨fun y => absurd rfl y, fun _ => ?_⟩)
  have s16 : zown B n e = List.any [zo_line, zo_prev, zo_number, zo_sort, zo_value, zo_drift, zo_ahead, zo_col, zo_or, zo_and, zo_not, zo_all, zo_min, zo_max] (zwrd B n e) := by rw [s15, List.any_cons, Bool.eq_false_iff.2 c, Bool.false_or]
  have h16 := h15.trans h16
  refine m_isH hsl hn he g16.1 zo_144 (by decide) (fun c M17 h17 g17 => ⟨fun _ => y223 M17 _ (by rw [s16, List.any_cons, c]; rfl) (h16.trans h17) g17, fun y => absurd (by decide) y⟩) (fun c M17 h17 g17 => ⟨fun y => absurd rfl y, fun _ => ?_⟩)
  have s17 : zown B n e = List.any [zo_prev, zo_number, zo_sort, zo_value, zo_drift, zo_ahead, zo_col, zo_or, zo_and, zo_not, zo_all, zo_min, zo_max] (zwrd B n e) := by rw [s16, List.any_cons, Bool.eq_false_iff.2 c, Bool.false_or]
  have h17 := h16.trans h17
  refine m_isH hsl hn he g17.1 zo_145 (by decide) (fun c M18 h18 g18 => ⟨fun y => absurd y (by decide), fun _ => y223 M18 _ (by rw [s17, List.any_cons, c]; rfl) (h17.trans h18) g18⟩) (fun c M18 h18 g18 => ⟨fun _ => ?_, fun y => absurd rfl y⟩)
  have s18 : zown B n e = List.any [zo_number, zo_sort, zo_value, zo_drift, zo_ahead, zo_col, zo_or, zo_and, zo_not, zo_all, zo_min, zo_max] (zwrd B n e) := by rw [s17, List.any_cons, Bool.eq_false_iff.2 c, Bool.false_or]
  have h18 := h17.trans h18
  refine B_Md_isOwnHere_223 hsl ⟨fun y => absurd rfl y, fun _ => m_isH hsl hn he g18.1 zo_146 (by decide) (fun c M19 h19 g19 => ⟨fun _ => y299 M19 _ (by rw [s18, List.any_cons, c]; rfl) (h18.trans h19) g19, fun y => absurd (by decide) y⟩) (fun c M19 h19 g19 => ⟨fun y => absurd rfl y, fun _ => ?_⟩)⟩
  have s19 : zown B n e = List.any [zo_sort, zo_value, zo_drift, zo_ahead, zo_col, zo_or, zo_and, zo_not, zo_all, zo_min, zo_max] (zwrd B n e) := by rw [s18, List.any_cons, Bool.eq_false_iff.2 c, Bool.false_or]
  have h19 := h18.trans h19
  refine m_isH hsl hn he g19.1 zo_147 (by decide) (fun c M20 h20 g20 => ⟨fun _ => y299 M20 _ (by rw [s19, List.any_cons, c]; rfl) (h19.trans h20) g20, fun y => absurd (by decide) y⟩) (fun c M20 h20 g20 => ⟨fun y => absurd rfl y, fun _ => ?_⟩)
  have s20 : zown B n e = List.any [zo_value, zo_drift, zo_ahead, zo_col, zo_or, zo_and, zo_not, zo_all, zo_min, zo_max] (zwrd B n e) := by rw [s19, List.any_cons, Bool.eq_false_iff.2 c, Bool.false_or]
  have h20 := h19.trans h20
  refine m_isH hsl hn he g20.1 zo_148 (by decide) (fun c M21 h21 g21 => ⟨fun _ => y299 M21 _ (by rw [s20, List.any_cons, c]; rfl) (h20.trans h21) g21, fun y => absurd (by decide) y⟩) (fun c M21 h21 g21 => ⟨fun y => absurd rfl y, fun _ => ?_⟩)
  have s21 : zown B n e = List.any [zo_drift, zo_ahead, zo_col, zo_or, zo_and, zo_not, zo_all, zo_min, zo_max] (zwrd B n e) := by rw [s20, List.any_cons, Bool.eq_false_iff.2 c, Bool.false_or]
  have h21 := h20.trans h21
  refine m_isH hsl hn he g21.1 zo_149 (by decide) (fun c M22 h22 g22 => ⟨fun _ => y299 M22 _ (by rw [s21, List.any_cons, c]; rfl) (h21.trans h22) g22, fun y => absurd (by decide) y⟩) (fun c M22 h22 g22 => ⟨fun y => absurd rfl y, fun _ => ?_⟩)
  have s22 : zown B n e = List.any [zo_ahead, zo_col, zo_or, zo_and, zo_not, zo_all, zo_min, zo_max] (zwrd B n e) := by rw [s21, List.any_cons, Bool.eq_false_iff.2 c, Bool.false_or]
  have h22 := h21.trans h22
  refine m_isH hsl hn he g22.1 zo_150 (by decide) (fun c M23 h23 g23 => ⟨fun _ => y299 M23 _ (by rw [s22, List.any_cons, c]; rfl) (h22.trans h23) g23, fun y => absurd (by decide) y⟩) (fun c M23 h23 g23 => ⟨fun y => absurd rfl y, fun _ => ?_⟩)
  have s23 : zown B n e = List.any [zo_col, zo_or, zo_and, zo_not, zo_all, zo_min, zo_max] (zwrd B n e) := by rw [s22, List.any_cons, Bool.eq_false_iff.2 c, Bool.false_or]
  have h23 := h22.trans h23
  refine m_isH hsl hn he g23.1 zo_151 (by decide) (fun c M24 h24 g24 => ⟨fun y => absurd y (by decide), fun _ => y299 M24 _ (by rw [s23, List.any_cons, c]; rfl) (h23.trans h24) g24⟩) (fun c M24 h24 g24 => ⟨fun _ => ?_, fun y => absurd rfl y⟩)
  have s24 : zown B n e = List.any [zo_or, zo_and, zo_not, zo_all, zo_min, zo_max] (zwrd B n e) := by rw [s23, List.any_cons, Bool.eq_false_iff.2 c, Bool.false_or]
  have h24 := h23.trans h24
  refine B_Md_isOwnHere_299 hsl ⟨fun y => absurd rfl y, fun _ => m_isH hsl hn he g24.1 zo_152 (by decide) (fun c M25 h25 g25 => ⟨fun _ => q1 (by rw [s24, List.any_cons, c]; rfl) M25 (h24.trans h25) g25, fun y => absurd (by decide) y⟩) (fun c M25 h25 g25 => ⟨fun y => absurd rfl y, fun _ => ?_⟩)⟩
  have s25 : zown B n e = List.any [zo_and, zo_not, zo_all, zo_min, zo_max] (zwrd B n e) := by rw [s24, List.any_cons, Bool.eq_false_iff.2 c, Bool.false_or]
  have h25 := h24.trans h25
  refine m_isH hsl hn he g25.1 zo_153 (by decide) (fun c M26 h26 g26 => ⟨fun _ => q1 (by rw [s25, List.any_cons, c]; rfl) M26 (h25.trans h26) g26, fun y => absurd (by decide) y⟩) (fun c M26 h26 g26 => ⟨fun y => absurd rfl y, fun _ => ?_⟩)
  have s26 : zown B n e = List.any [zo_not, zo_all, zo_min, zo_max] (zwrd B n e) := by rw [s25, List.any_cons, Bool.eq_false_iff.2 c, Bool.false_or]
  have h26 := h25.trans h26
  refine m_isH hsl hn he g26.1 zo_154 (by decide) (fun c M27 h27 g27 => ⟨fun _ => q1 (by rw [s26, List.any_cons, c]; rfl) M27 (h26.trans h27) g27, fun y => absurd (by decide) y⟩) (fun c M27 h27 g27 => ⟨fun y => absurd rfl y, fun _ => ?_⟩)
  have s27 : zown B n e = List.any [zo_all, zo_min, zo_max] (zwrd B n e) := by rw [s26, List.any_cons, Bool.eq_false_iff.2 c, Bool.false_or]
  have h27 := h26.trans h27
  refine m_isH hsl hn he g27.1 zo_155 (by decide) (fun c M28 h28 g28 => ⟨fun _ => q1 (by rw [s27, List.any_cons, c]; rfl) M28 (h27.trans h28) g28, fun y => absurd (by decide) y⟩) (fun c M28 h28 g28 => ⟨fun y => absurd rfl y, fun _ => ?_⟩)
  have s28 : zown B n e = List.any [zo_min, zo_max] (zwrd B n e) := by rw [s27, List.any_cons, Bool.eq_false_iff.2 c, Bool.false_or]
  have h28 := h27.trans h28
  refine m_isH hsl hn he g28.1 zo_156 (by decide) (fun c M29 h29 g29 => ⟨fun _ => q1 (by rw [s28, List.any_cons, c]; rfl) M29 (h28.trans h29) g29, fun y => absurd (by decide) y⟩) (fun c M29 h29 g29 => ⟨fun y => absurd rfl y, fun _ => ?_⟩)
  have s29 : zown B n e = List.any [zo_max] (zwrd B n e) := by rw [s28, List.any_cons, Bool.eq_false_iff.2 c, Bool.false_or]
  have h29 := h28.trans h29
  refine m_isH hsl hn he g29.1 zo_157 (by decide) (fun c M30 h30 g30 => ⟨fun y => absurd y (by decide), fun _ => q1 (by rw [s29, List.any_cons, c]; rfl) M30 (h29.trans h30) g30⟩) (fun c M30 h30 g30 => ⟨fun _ => ?_, fun y => absurd rfl y⟩)
  have s30 : zown B n e = List.any [] (zwrd B n e) := by rw [s29, List.any_cons, Bool.eq_false_iff.2 c, Bool.false_or]
  have h30 := h29.trans h30
  exact q0 (by rw [s30]; simp) M30 h30 g30
