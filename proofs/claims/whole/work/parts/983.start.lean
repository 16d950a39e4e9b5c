/-! THE START: what both constructors leave. -/
def zFR (t : Int) : Int → Int → Prop := fun a k => a = t ∧ (k = 8 ∨ k = 9) ∨ a = t + 4 ∨ (a = 4 ∨ a = 9 ∨ a = 14) ∧ (k = 1 ∨ k = 2) ∨ a = 5 ∨ a = 10 ∨ a = 15 ∨ (a = 8 ∨ a = 13) ∧ (k = 3 ∨ k = 4) ∨ a = 11 ∨ a = 12 ∨ a = 16 ∨ a = 17 ∨ a = 18 ∧ (k = 4 ∨ k = 6) ∨ a = 63 ∧ (k = 8 ∨ k = 14 ∨ k = 15 ∨ k = 16)
theorem c_startAgain {G : zG} {h sl : Nat} (hsl : 1 ≤ sl) {T' : zTb} {t' : Int} {M6 : zM} {Q : Int → zM → Prop} (ht' : t' = 79 ∨ t' = 102) (v611 : M6 1 11 = t') (hT' : zTok T') (c6 : zTc T' M6 t')
    (qo : ∀ M', zSm (zFR t') M6 M' → zCk T' (zbg T') t' M' → M' 18 4 = 0 → M' 18 6 = 0 → M' 63 8 = 0 → M' 63 14 = 0 → M' 63 15 = 0 → M' 63 16 = -1 → Q 0 M') : zCt G (h + 4) sl 0 0 y_Zt_startAgain [(2, 1)] M6 Q := by
  have tk : zK t' = (8, 0) := by rcases ht' with a | a <;> rw [a] <;> decide
  have hb' := zbg_ok hT'
  refine E_Zt_startAgain hsl ⟨by rw [v611]; exact tk, ?_⟩
  rw [v611]
  refine c_begin (h := h) hsl tk (by omega) (by decide) hT' c6 (fun M7 h7 l7 => ?_)
  have c7 := c6.fr (by omega) h7
  have u7 : ∀ a k, ¬ zPC t' 4 a k → M7 a k = M6 a k := fun a k p => h7 a k p
  rw [show M7 1 11 = t' from by rw [u7 _ _ (by unfold zPC zPLn; omega)]; exact v611]
  refine c_coBegin (h := h) hsl (Or.inl rfl) (by decide) (Or.inl (by decide)) hT' l7 (fun M8 h8 o8 => ?_)
  have l8 : zLc (T'.1 8 0) (zbg T') M8 4 := l7.fr (h8 _ _ (by unfold zPLn; omega)) (h8 _ _ (by unfold zPLn; omega)) (fun j => h8 _ _ (by unfold zPLn; omega))
  rw [show M8 1 11 = t' from by rw [h8 _ _ (by unfold zPLn; omega), u7 _ _ (by unfold zPC zPLn; omega)]; exact v611]
  refine c_coBegin (h := h) hsl (Or.inr rfl) (by decide) (Or.inl (by decide)) hT' l8 (fun M9 h9 o9 => ?_)
  refine E_History_forget hsl (E_Piece_forget hsl (E_Piece_changed hsl ?_))
  generalize eM : zwr (zwr (zwr (zwr (zwr (zwr M9 18 4 0) 18 6 0) 63 8 0) 63 14 0) 63 15 0) 63 16 (-1) = M10
  have w : ∀ a k, ¬ (a = 18 ∧ (k = 4 ∨ k = 6)) → ¬ (a = 63 ∧ (k = 8 ∨ k = 14 ∨ k = 15 ∨ k = 16)) → M10 a k = M9 a k := fun a k p1 p2 => by rw [← eM, zwr_i, if_neg (by omega), zwr_i, if_neg (by omega), zwr_i, if_neg (by omega), zwr_i, if_neg (by omega), zwr_i, if_neg (by omega), zwr_i, if_neg (by omega)]
  have lo : ∀ a k, ¬ (a = 18 ∧ (k = 4 ∨ k = 6)) → ¬ (a = 63 ∧ (k = 8 ∨ k = 14 ∨ k = 15 ∨ k = 16)) → ¬ ((a = 8 ∨ a = 13) ∧ (k = 3 ∨ k = 4)) → ¬ ((a = 9 ∨ a = 14) ∧ (k = 1 ∨ k = 2)) → ¬ (a = 10 ∨ a = 11 ∨ a = 12 ∨ a = 15 ∨ a = 16 ∨ a = 17) → ¬ zPC t' 4 a k → M10 a k = M6 a k := fun a k p1 p2 p3 p5 p6 p4 => by rw [w a k p1 p2, h9 a k (by unfold zPLn; omega), h8 a k (by unfold zPLn; omega), u7 a k p4]
  have e111 : M10 1 11 = t' := by rw [lo _ _ (by omega) (by omega) (by omega) (by omega) (by omega) (by unfold zPC zPLn; omega)]; exact v611
  have c10 : zTc T' M10 t' := c7.frG hT' (fun a k p1 p2 _ _ => by rw [w _ _ (by omega) (by omega), h9 _ _ (by unfold zPLn; omega), h8 _ _ (by unfold zPLn; omega)])
  have o89 : zCo T' (zbg T') 1 M9 8 t' := o8.fr (fun a k p => h9 a k (by unfold zdCo at p; unfold zPLn; omega))
  have fro : ∀ {o : Int}, o = 8 ∨ o = 13 → zCo T' (zbg T') 1 M9 o t' → zCo T' (zbg T') 1 M10 o t' := fun ho hh => hh.fr (fun a k p => w a k (by unfold zdCo at p; omega) (by unfold zdCo at p; omega))
  have ck : zCk T' (zbg T') t' M10 := ⟨ht', e111, c10, (l8.fr (h9 _ _ (by unfold zPLn; omega)) (h9 _ _ (by unfold zPLn; omega)) (fun j => h9 _ _ (by unfold zPLn; omega))).fr (w _ _ (by omega) (by omega)) (w _ _ (by omega) (by omega)) (fun j => w _ _ (by omega) (by omega)), ⟨1, by rw [hb'.1]; decide, fro (Or.inl rfl) o89⟩, ⟨1, fro (Or.inr rfl) o9⟩⟩
  have fz : zSm (zFR t') M6 M10 := fun a k p => by
    have p1 : ¬ (a = t' ∧ (k = 8 ∨ k = 9)) := fun y => p (Or.inl y)
    have p2 : ¬ a = t' + 4 := fun y => p (Or.inr (Or.inl y))
    have p3 := fun y => p (Or.inr (Or.inr y))
    refine lo a k (fun y => p3 ?_) (fun y => p3 ?_) (fun y => p3 ?_) (fun y => p3 ?_) (fun y => p3 ?_) (fun y => ?_)
    · omega
    · omega
    · omega
    · omega
    · omega
    · rcases y with (y | y) | y | y
      · exact p3 (by omega)
      · exact p3 (by omega)
      · exact p1 y
      · exact p2 y
  refine qo M10 fz ck ?_ ?_ ?_ ?_ ?_ ?_
  · rw [← eM]; simp [zwr]
  · rw [← eM]; simp [zwr]
  · rw [← eM]; simp [zwr]
  · rw [← eM]; simp [zwr]
  · rw [← eM]; simp [zwr]
  · rw [← eM]; simp [zwr]
/-! what stays, looked up -/
def zckl (l : List (Int × Int × Int)) (sl o n : Nat) : Bool := (List.range n).all (fun i => let r := l.filter (fun q => q.1 == ((o + i : Nat) : Int)); (List.range 103).all (fun (k : Nat) => (zlv ((o + i : Nat) : Int) k == 0 || sl < zlv ((o + i : Nat) : Int) k) || (zvk2 r ((o + i : Nat) : Int) k).getD 0 == zFn ((o + i : Nat) : Int) k))
theorem zvk2_fil {o k : Int} : ∀ l : List (Int × Int × Int), zvk2 (l.filter (fun q => q.1 == o)) o k = zvk2 l o k
  | [] => rfl
  | (a, b, v) :: r => by
    have e : zvk2 ((a, b, v) :: r) o k = if o = a ∧ k = b then some v else zvk2 r o k := rfl
    rw [e, List.filter_cons]
    by_cases c : a = o
    · subst c
      rw [if_pos (by simp)]
      show (if a = a ∧ k = b then some v else zvk2 (r.filter _) a k) = _
      rw [zvk2_fil r]
    · rw [if_neg (by simpa using c), zvk2_fil r, if_neg (fun y => c y.1.symm)]
theorem zckl_at {l : List (Int × Int × Int)} {sl o n : Nat} (h : zckl l sl o n = true) {a k : Int} (ha : (o : Int) ≤ a ∧ a < ((o + n : Nat) : Int)) (hk : 0 ≤ k ∧ k < 103) (h1 : 0 < zlv a k) (h2 : zlv a k ≤ sl) : (zvk2 l a k).getD 0 = zFn a k := by
  unfold zckl at h
  have e1 := List.all_eq_true.mp h (a.toNat - o) (List.mem_range.mpr (by omega))
  have ea : ((o + (a.toNat - o) : Nat) : Int) = a := by omega
  simp only [ea] at e1
  have e2 := List.all_eq_true.mp e1 k.toNat (List.mem_range.mpr (by omega))
  have ek : (k.toNat : Int) = k := by omega
  simp only [ek] at e2
  rw [zvk2_fil] at e2
  rcases (Bool.or_eq_true _ _).mp e2 with e3 | e3
  · rcases (Bool.or_eq_true _ _).mp e3 with e4 | e4
    · have := beq_iff_eq.mp e4
      omega
    · have := of_decide_eq_true e4
      omega
  · exact beq_iff_eq.mp e3
theorem zvk2_out {o k : Int} : ∀ (l : List (Int × Int × Int)), l.all (fun q => q.1 == 0 || decide (q.2.1 < 103)) = true → o ≠ 0 → 103 ≤ k → zvk2 l o k = none
  | [], _, _, _ => rfl
  | (a, b, v) :: r, h, ho, hk => by
    rw [List.all_cons, Bool.and_eq_true] at h
    show (if o = a ∧ k = b then some v else zvk2 r o k) = none
    rw [if_neg (fun y => ?_)]
    · exact zvk2_out r h.2 ho hk
    · rcases (Bool.or_eq_true _ _).mp h.1 with e | e
      · exact ho (y.1.trans (beq_iff_eq.mp e))
      · have e := of_decide_eq_true e
        have e : b < 103 := e
        omega
theorem zvk2_nob {o : Int} : ∀ (l : List (Int × Int × Int)), l.all (fun q => !(q.1 == o)) = true → ∀ k, zvk2 l o k = none
  | [], _, _ => rfl
  | (a, b, v) :: r, h, k => by
    rw [List.all_cons, Bool.and_eq_true] at h
    show (if o = a ∧ k = b then some v else zvk2 r o k) = none
    rw [if_neg (fun y => ?_)]
    · exact zvk2_nob r h.2 k
    · have e : (a == o) = false := by simpa using h.1
      rw [y.1] at e
      simp at e
theorem zvk2_lt {o : Int} : ∀ (l : List (Int × Int × Int)) (m : Int), l.all (fun q => q.1 == 0 || decide (m ≤ q.1)) = true → o ≠ 0 → o < m → ∀ k, zvk2 l o k = none
  | [], _, _, _, _, _ => rfl
  | (a, b, v) :: r, m, h, ho, hm, k => by
    rw [List.all_cons, Bool.and_eq_true] at h
    show (if o = a ∧ k = b then some v else zvk2 r o k) = none
    rw [if_neg (fun y => ?_)]
    · exact zvk2_lt r m h.2 ho hm k
    · rcases (Bool.or_eq_true _ _).mp h.1 with e | e
      · exact ho (y.1.trans (beq_iff_eq.mp e))
      · have e := of_decide_eq_true e
        have e : m ≤ a := e
        omega
theorem zvk2_gt {o : Int} : ∀ (l : List (Int × Int × Int)) (m : Int), l.all (fun q => decide (q.1 < m)) = true → m ≤ o → ∀ k, zvk2 l o k = none
  | [], _, _, _, _ => rfl
  | (a, b, v) :: r, m, h, hm, k => by
    rw [List.all_cons, Bool.and_eq_true] at h
    show (if o = a ∧ k = b then some v else zvk2 r o k) = none
    rw [if_neg (fun y => ?_)]
    · exact zvk2_gt r m h.2 hm k
    · have e := of_decide_eq_true h.1
      have e : a < m := e
      omega
theorem zvl2_get (l : List (Int × Int × Int)) (M : zM) (a b : Int) : zvl2 l M a b = (zvk2 l a b).getD (M a b) := by
  cases h : zvk2 l a b with
  | none => exact zvl2_none h
  | some v => exact zvl2_at h
theorem zfl_len : ∀ (o k : Int), 103 ≤ k → zFn o k = 0 := by
  have h : zfl.all (fun r => decide (r.length ≤ 103)) = true := by decide +kernel
  intro o k hk
  unfold zFn
  by_cases c : o ≤ 0
  · rw [if_pos c]
  · rw [if_neg c, if_neg (by omega)]
    have h2 : ((zfl.getD (o.toNat - 1) []).length) ≤ 103 := by
      rw [List.getD_eq_getElem?_getD]
      cases e : zfl[o.toNat - 1]? with
      | none => exact Nat.zero_le _
      | some r =>
        have := List.all_eq_true.mp h r (List.mem_of_getElem? e)
        exact of_decide_eq_true this
    rw [List.getD_eq_getElem?_getD, List.getElem?_eq_none (by omega)]
    rfl
theorem zK_len : zkl.length = 196 := by decide +kernel
theorem zlv_big {o k : Int} (h : 196 < o) : zlv o k = 0 := by
  have e : zK o = (999, 0) := by
    unfold zK
    rw [if_neg (by omega), List.getD_eq_getElem?_getD, List.getElem?_eq_none (by rw [zK_len]; omega)]
    rfl
  unfold zlv zkf
  rw [e]
  by_cases c : k < 0
  · rw [if_pos c]
  · rw [if_neg c]; rfl
theorem zlv_neg {o k : Int} (h : k < 0) : zlv o k = 0 := by unfold zlv zkf; rw [if_pos h]
theorem zlv_nul {o k : Int} (h : o ≤ 0) : zlv o k = 0 := by
  have e : zK o = (999, 0) := by unfold zK; rw [if_pos h]
  unfold zlv zkf
  rw [e]
  by_cases c : k < 0
  · rw [if_pos c]
  · rw [if_neg c]; rfl
/-- a store that a list tells, on no ground: what stays -/
theorem zfin_l {l : List (Int × Int × Int)} {sl o n : Nat} (hc : zckl l sl o n = true) (hx : l.all (fun q => q.1 == 0 || decide (q.2.1 < 103)) = true) {M : zM} {a k : Int} (ha : (o : Int) ≤ a ∧ a < ((o + n : Nat) : Int)) (o1 : 1 ≤ o) (hM : M a k = 0) (h1 : 0 < zlv a k) (h2 : zlv a k ≤ sl) : zvl2 l M a k = zFn a k := by
  have k0 : 0 ≤ k := by
    by_cases c : k < 0
    · rw [zlv_neg c] at h1; omega
    · omega
  rw [zvl2_get, hM]
  by_cases c : k < 103
  · exact zckl_at hc ha ⟨k0, c⟩ h1 h2
  · rw [zvk2_out l hx (by omega) (by omega), zfl_len _ _ (by omega)]; rfl
set_option maxRecDepth 100000 in
theorem zck_Zt : zckl l_Zt 1 1 124 = true := by decide +kernel
set_option maxRecDepth 100000 in
theorem zck_Md : zckl l_Md 2 125 72 = true := by decide +kernel
theorem zlx_Zt : l_Zt.all (fun q => q.1 == 0 || decide (q.2.1 < 103)) = true := by decide +kernel
theorem zlx_Md : l_Md.all (fun q => q.1 == 0 || decide (q.2.1 < 103)) = true := by decide +kernel
theorem zlg_Zt : l_Zt.all (fun q => decide (q.1 < 125)) = true := by decide +kernel
theorem zll_Md : l_Md.all (fun q => q.1 == 0 || decide (125 ≤ q.1)) = true := by decide +kernel
/-- kinds below 125 hold nothing of the second degree, those from 125 on nothing of the first -/
theorem zkn_lo : ∀ o : Nat, o < 125 → (zK o).1 < 11 ∨ (zK o).1 = 100 ∨ (zK o).1 = 101 ∨ 103 ≤ (zK o).1 := by decide +kernel
theorem zkn_hi : ∀ o : Nat, o < 72 → (zK (125 + o : Nat)).1 = 11 ∨ (zK (125 + o : Nat)).1 = 100 ∨ (zK (125 + o : Nat)).1 = 101 ∨ (zK (125 + o : Nat)).1 = 102 ∨ (zK (125 + o : Nat)).1 = 103 := by decide +kernel
theorem zfn_lo : ∀ c : Nat, c < 11 → ∀ v ∈ zfnl.getD c [], v ≤ 1 := by decide +kernel
theorem zfn_hi : ∀ v ∈ zfnl.getD 11 [], v ≠ 1 := by decide +kernel
theorem zgetD_mem (l : List Nat) (k : Nat) : l.getD k 0 = 0 ∨ l.getD k 0 ∈ l := by
  rw [List.getD_eq_getElem?_getD]
  cases e : l[k]? with
  | none => exact Or.inl rfl
  | some v => exact Or.inr (List.mem_of_getElem? e)
theorem zlv_lo {o k : Int} (h : o < 125) : zlv o k ≤ 1 := by
  by_cases o0 : o ≤ 0
  · rw [zlv_nul o0]; decide
  by_cases c : k < 0
  · rw [zlv_neg c]; decide
  have e := zkn_lo o.toNat (by omega)
  rw [show ((o.toNat : Nat) : Int) = o from by omega] at e
  unfold zlv zkf
  rw [if_neg c]
  by_cases d : (zK o).1 < 100
  · rw [if_pos d]
    rcases zgetD_mem (zfnl.getD (zK o).1 []) k.toNat with q | q
    · rw [q]; decide
    · exact zfn_lo _ (by omega) _ q
  · rw [if_neg d, if_neg (by omega)]
    by_cases e4 : (zK o).1 = 104
    · rw [if_pos e4]; decide
    · rw [if_neg e4]
      by_cases e5 : (zK o).1 = 105
      · rw [if_pos e5]; decide
      · rw [if_neg e5]; decide
theorem zlv_hi {o k : Int} (h : 125 ≤ o) : zlv o k ≠ 1 := by
  by_cases o0 : 196 < o
  · rw [zlv_big o0]; decide
  by_cases c : k < 0
  · rw [zlv_neg c]; decide
  have e := zkn_hi (o.toNat - 125) (by omega)
  rw [show ((125 + (o.toNat - 125) : Nat) : Int) = o from by omega] at e
  unfold zlv zkf
  rw [if_neg c]
  by_cases d : (zK o).1 < 100
  · rw [if_pos d, show (zK o).1 = 11 from by omega]
    rcases zgetD_mem (zfnl.getD 11 []) k.toNat with q | q
    · rw [q]; decide
    · exact zfn_hi _ q
  · rw [if_neg d]
    by_cases e2 : (zK o).1 = 102
    · rw [if_pos e2]; decide
    · rw [if_neg e2, if_neg (by omega), if_neg (by omega)]; decide
theorem zlv_arr {o k : Int} (h : (zK o).1 = 100 ∨ (zK o).1 = 101) : zlv o k = 0 := by
  unfold zlv zkf
  by_cases c : k < 0
  · rw [if_pos c]
  · rw [if_neg c, if_neg (by omega), if_neg (by omega), if_neg (by omega), if_neg (by omega)]
theorem zFR_lv {a k : Int} (h : zFR 79 a k) : zlv a k = 0 := by
  rcases h with ⟨h, p | p⟩ | h | ⟨h | h | h, p | p⟩ | h | h | h | ⟨h | h, p | p⟩ | h | h | h | h | ⟨h, p | p⟩ | ⟨h, p | p | p | p⟩ <;> subst h <;> first | (subst p; decide) | exact zlv_arr (by decide)
/-- nothing is made yet -/
def zB (f : Int → Int) (n : Int) : zM := fun a k => if a = -1 then f k else if a = -2 then (if k = 0 then n else 0) else 0
theorem zB_0 {f : Int → Int} {n a k : Int} (h : 0 ≤ a) : zB f n a k = 0 := by unfold zB; rw [if_neg (by omega), if_neg (by omega)]
def zTbz : zTb := (fun _ _ => 0, fun _ => [])
theorem zTbz_ok : zTok zTbz := ⟨by decide, by decide, by decide, by decide, by decide, by decide, Or.inl rfl, fun c c0 cn => by have cn : c < 0 := cn; omega⟩
theorem zfin_Zt {M : zM} (hM : ∀ a k, 1 ≤ a → M a k = 0) : zFin 1 (zvl2 l_Zt M) := fun o k h1 h2 => by
  by_cases o0 : o ≤ 0
  · rw [zlv_nul o0] at h1; omega
  by_cases o1 : o < 125
  · exact zfin_l zck_Zt zlx_Zt (by omega) (by decide) (hM _ _ (by omega)) h1 h2
  · have := zlv_hi (o := o) (k := k) (by omega)
    omega
theorem zfin_Md {M : zM} (hM : ∀ a k, 125 ≤ a → M a k = 0) (hf : zFin 1 M) : zFin 2 (zvl2 l_Md M) := fun o k h1 h2 => by
  by_cases o0 : o ≤ 0
  · rw [zlv_nul o0] at h1; omega
  by_cases o1 : o < 125
  · rw [zvl2_none (zvk2_lt l_Md 125 zll_Md (by omega) o1 k)]
    exact hf o k h1 (zlv_lo o1)
  · by_cases o2 : o < 197
    · exact zfin_l zck_Md zlx_Md (by omega) (by decide) (hM _ _ (by omega)) h1 h2
    · rw [zlv_big (by omega)] at h1; omega
/-- the class, made -/
def zPZ (M M' : zM) : Prop := zSm (zFR 79) (zvl2 l_Zt M) M' ∧ zCk zTbz (zbg zTbz) 79 M' ∧ M' 18 4 = 0 ∧ M' 18 6 = 0 ∧ M' 63 8 = 0 ∧ M' 63 14 = 0 ∧ M' 63 15 = 0 ∧ M' 63 16 = -1
theorem I_Zt2 {G : zG} {h : Nat} {M : zM} {Q : Int → zM → Prop} (hc : M 0 0 = 1) (hM : ∀ a k, 1 ≤ a → M a k = 0) (q : ∀ M', zPZ M M' → Q 0 M') : zCt G (h + 8) 0 123 22585 y_Zt_init [(2, 1)] M Q := by
  refine I_Zt hc ?_
  have z0 : ∀ a k : Int, 1 ≤ a → zvk2 l_Zt a k = none → zvl2 l_Zt M a k = 0 := fun a k ha e => (zvl2_none e).trans (hM a k ha)
  refine zX.seal (sl' := 1) (zfin_Zt hM) (by decide) ?_
  refine x_aload_n (zdm d_Zt_init_1 23 rfl) rfl (n := 0) rfl ?_
  refine x_callVv (h := h + 7) (n := 0) (ci := 10) (Q1 := fun _ M' => zPZ M M') (zdm d_Zt_init_1 24 rfl) k_Zt_97 (As := []) rfl rfl (by decide) ⟨_, _, rfl⟩ (Nat.le_of_ble_eq_true rfl) rfl ?_ (fun x M' hx h2 => ?_)
  · refine c_startAgain (h := h + 3) (by decide) (T' := zTbz) (t' := 79) (Or.inl rfl) (zvl2_at (by decide +kernel)) zTbz_ok ⟨⟨z0 _ _ (by decide) (by decide +kernel), z0 _ _ (by decide) (by decide +kernel), z0 _ _ (by decide) (by decide +kernel), z0 _ _ (by decide) (by decide +kernel), by rw [z0 _ _ (by decide) (by decide +kernel)]; decide⟩, fun c c0 cn => ?_, fun y => ?_⟩ (fun M' a b c d e f g i => ⟨a, b, c, d, e, f, g, i⟩)
    · have cn : c < 0 := cn
      omega
    · have y : (0 : Int) = 1 := y
      omega
  · exact x_return (zdm d_Zt_init_1 25 rfl) rfl (q _ h2)
