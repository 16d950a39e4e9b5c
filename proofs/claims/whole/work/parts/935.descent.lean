/-! PARSER: sums and tests, pure. md 0: a column's sum, 1: the marks, 2: a question. -/
def zo_min : List Int := [109, 105, 110]
def zo_max : List Int := [109, 97, 120]
def zo_ahead : List Int := [97, 104, 101, 97, 100]
def zo_col : List Int := [99, 111, 108]
def zo_number : List Int := [110, 117, 109, 98, 101, 114]
def zo_sort : List Int := [115, 111, 114, 116]
def zo_value : List Int := [118, 97, 108, 117, 101]
def zo_drift : List Int := [100, 114, 105, 102, 116]
def zo_line : List Int := [108, 105, 110, 101]
def zo_prev : List Int := [112, 114, 101, 118]
def zo_not : List Int := [110, 111, 116]
def zo_and : List Int := [97, 110, 100]
def zo_or : List Int := [111, 114]
def zo_all : List Int := [97, 108, 108]
abbrev zPfu : Type := Nat → zRs (Nat × List Int)
def zlpp (f : zPfu) (sg : Nat → Option Int) (nx : Nat → Nat) : Nat → Nat → List Int → zRs (Nat × List Int)
  | 0, e, C => .inr (e, C)
  | d + 1, e, C => match sg e with
    | none => .inr (e, C)
    | some j => zbd (f (nx e)) (fun r => zlpp f sg nx d r.1 (C ++ r.2 ++ [j]))
/-- one, and more of them behind signs -/
def zlvl (B : Int → Int) (n : Nat) (sg : Nat → Option Int) (f : zPfu) : zPfu := fun e => zbd (f e) (fun r => zlpp f sg (zto B n) 1600 r.1 r.2)
def zgP (B : Int → Int) (n e : Nat) : Option Int := if zsg B n e 42 = true then some 3 else if zsg B n e 47 = true then some 4 else none
def zgS (B : Int → Int) (n e : Nat) : Option Int := if zsg B n e 43 = true then some 1 else if zsg B n e 45 = true then some 2 else none
def zgA (B : Int → Int) (n e : Nat) : Option Int := if zwrd B n e zo_and = true then some 10 else none
def zgO (B : Int → Int) (n e : Nat) : Option Int := if zwrd B n e zo_or = true then some 11 else none
def zprodF (B : Int → Int) (n : Nat) (f : zPfu) : zPfu := zlvl B n (zgP B n) f
def zsumF (B : Int → Int) (n : Nat) (f : zPfu) : zPfu := zlvl B n (zgS B n) (zprodF B n f)
def zbothF (B : Int → Int) (n : Nat) (f : zPfu) : zPfu := zlvl B n (zgA B n) f
def ztestF (B : Int → Int) (n : Nat) (f : zPfu) : zPfu := zlvl B n (zgO B n) (zbothF B n f)
def zsgn (B : Int → Int) (n e : Nat) (x : Int) : zRs Nat := if zsg B n e x = true then .inr (zto B n e) else .inl (1, (zfr B n e : Nat))
/-- behind an opening sign, if one more may be open -/
def zins (B : Int → Int) (n : Nat) (I : Option zPfu) (e : Nat) (g : zPfu → zRs (Nat × List Int)) : zRs (Nat × List Int) := match I with
  | none => .inl (4, (zfr B n e : Nat))
  | some f => g f
def zpair (B : Int → Int) (n : Nat) (I : Option zPfu) (e : Nat) (j : Int) : zRs (Nat × List Int) :=
  if ¬ zsg B n e 40 = true then .inl (1, (zfr B n e : Nat))
  else zins B n I e (fun f => zbd (zsumF B n f (zto B n e)) (fun r => zbd (zsgn B n r.1 44) (fun e2 => zbd (zsumF B n f e2) (fun r2 => zbd (zsgn B n r2.1 41) (fun e3 => .inr (e3, r.2 ++ r2.2 ++ [j]))))))
/-- a part without a part in it -/
def ztld (md : Int) (T : zTb) (m : Nat) (B : Int → Int) (n e : Nat) : Int :=
  if md = 2 then (if zwrd B n e zo_number = true then 2 else if zwrd B n e zo_sort = true then 3 else if zwrd B n e zo_value = true then 4 else if zwrd B n e zo_drift = true then 5 else if zwrd B n e zo_line = true then 0 else -1)
  else if zwrd B n e zo_line = true then 0 else if md = 0 ∧ zwrd B n e zo_prev = true then 1 else if zcnm T m B n e = -1 then -1 else 8 + zcnm T m B n e
def zpartS (md : Int) (T : zTb) (m : Nat) (B : Int → Int) (n : Nat) (I : Option zPfu) (e : Nat) : zRs (Nat × List Int) :=
  if zkd B n e = 2 then zbd (znum B n e 0 9999) (fun r => .inr (r.1, [1000 + r.2]))
  else if zsg B n e 40 = true then zins B n I e (fun f => zbd (zsumF B n f (zto B n e)) (fun r => zbd (zsgn B n r.1 41) (fun e2 => .inr (e2, r.2))))
  else if zwrd B n e zo_min = true then zpair B n I (zto B n e) 5
  else if zwrd B n e zo_max = true then zpair B n I (zto B n e) 6
  else if md = 2 ∧ (zwrd B n e zo_ahead = true ∨ zwrd B n e zo_col = true) then zins B n I e (fun f => zbd (f (zto B n e)) (fun r => .inr (r.1, r.2 ++ [if zwrd B n e zo_ahead = true then 60 else 61])))
  else if ztld md T m B n e = -1 then .inl (1, (zfr B n e : Nat))
  else .inr (zto B n e, [40 + ztld md T m B n e])
def zpart (md : Int) (T : zTb) (m : Nat) (B : Int → Int) (n : Nat) : Nat → zPfu
  | 0 => zpartS md T m B n none
  | k + 1 => zpartS md T m B n (some (zpart md T m B n k))
def zcmpr (B : Int → Int) (n e : Nat) : Int := if zsg B n e 60 = true then 7 else if zsg B n e 62 = true then 8 else if zsg B n e 61 = true then 9 else -1
def zfactS (B : Int → Int) (n : Nat) (P : zPfu) (I : Option zPfu) (e : Nat) : zRs (Nat × List Int) :=
  if zwrd B n e zo_not = true then zins B n I e (fun f => zbd (f (zto B n e)) (fun r => .inr (r.1, r.2 ++ [12])))
  else if zsg B n e 91 = true then zins B n I e (fun f => zbd (ztestF B n f (zto B n e)) (fun r => zbd (zsgn B n r.1 93) (fun e2 => .inr (e2, r.2))))
  else if zwrd B n e zo_all = true then .inr (zto B n e, [13])
  else zbd (zsumF B n P e) (fun r => if zcmpr B n r.1 = -1 then .inl (1, (zfr B n r.1 : Nat)) else zbd (zsumF B n P (zto B n r.1)) (fun r2 => .inr (r2.1, r.2 ++ r2.2 ++ [zcmpr B n r.1])))
def zfact (md : Int) (T : zTb) (m : Nat) (B : Int → Int) (n : Nat) : Nat → zPfu
  | 0 => zfactS B n (zpart md T m B n 0) none
  | k + 1 => zfactS B n (zpart md T m B n (k + 1)) (some (zfact md T m B n k))
def zsumK (md : Int) (T : zTb) (m : Nat) (B : Int → Int) (n k : Nat) : zPfu := zsumF B n (zpart md T m B n k)
def ztestK (md : Int) (T : zTb) (m : Nat) (B : Int → Int) (n k : Nat) : zPfu := ztestF B n (zfact md T m B n k)
theorem zbd_inv {α β : Type} {x : zRs α} {g : α → zRs β} {y : β} (h : zbd x g = .inr y) : ∃ a, x = .inr a ∧ g a = .inr y := by
  cases x with
  | inl f => exact absurd h (by intro e; nomatch e)
  | inr a => exact ⟨a, rfl, h⟩
theorem zty_ap {ok : Int → Bool} : ∀ (a b : List Int) (ts : List Bool), zty ok (a ++ b) ts = (zty ok a ts).bind (zty ok b)
  | [], b, ts => rfl
  | v :: r, b, ts => by
    show (ztq ok v ts).bind (zty ok (r ++ b)) = ((ztq ok v ts).bind (zty ok r)).bind (zty ok b)
    cases ztq ok v ts with
    | none => rfl
    | some t => exact zty_ap r b t
theorem zty_st {ok : Int → Bool} {a b : List Int} {ts us : List Bool} (h : zty ok a ts = some us) : zty ok (a ++ b) ts = zty ok b us := by
  rw [zty_ap, h]; rfl
theorem zty_1 {ok : Int → Bool} {v : Int} {ts us : List Bool} (h : ztq ok v ts = some us) : zty ok [v] ts = some us := by
  show (ztq ok v ts).bind _ = _
  rw [h]; rfl
/-- reads codes of one type, no more than bytes -/
def zGd (ok : Int → Bool) (n dp : Nat) (ty : Bool) (F : zPfu) : Prop := ∀ e e' D, e ≤ n → F e = .inr (e', D) → e + D.length ≤ e' ∧ e' ≤ n ∧ ∀ ts : List Bool, ts.length + dp ≤ 64 → zty ok D ts = some (ty :: ts)
theorem zlpp_gd {ok : Int → Bool} {B : Int → Int} {n dp : Nat} {ty : Bool} {F : zPfu} {sg : Nat → Option Int} (hF : zGd ok n dp ty F) (hs : ∀ e j, sg e = some j → zrk B n e ≠ 0 ∧ ∀ ts : List Bool, ztq ok j (ty :: ty :: ts) = some (ty :: ts)) {e0 : Nat} :
    ∀ (d e : Nat) (C : List Int) (e' : Nat) (D : List Int), e ≤ n → e0 + C.length ≤ e → (∀ ts : List Bool, ts.length + (dp + 1) ≤ 64 → zty ok C ts = some (ty :: ts)) → zlpp F sg (zto B n) d e C = .inr (e', D) → e0 + D.length ≤ e' ∧ e' ≤ n ∧ ∀ ts : List Bool, ts.length + (dp + 1) ≤ 64 → zty ok D ts = some (ty :: ts)
  | 0, e, C, e', D, he, h1, h2, h => by
    injection h with h; injection h with h3 h4
    subst h3; subst h4
    exact ⟨h1, he, h2⟩
  | d + 1, e, C, e', D, he, h1, h2, h => by
    have h : (match sg e with | none => (.inr (e, C) : zRs (Nat × List Int)) | some j => zbd (F (zto B n e)) (fun r => zlpp F sg (zto B n) d r.1 (C ++ r.2 ++ [j]))) = .inr (e', D) := h
    cases c : sg e with
    | none =>
      rw [c] at h
      injection h with h; injection h with h3 h4
      subst h3; subst h4
      exact ⟨h1, he, h2⟩
    | some j =>
      rw [c] at h
      obtain ⟨⟨e2, D2⟩, hf, h⟩ := zbd_inv h
      have hj := hs e j c
      have hb := zto_b (B := B) he
      have hz := hb.2.2 hj.1
      have hfl := zfr_le B n e
      have g := hF _ _ _ hb.2.1 hf
      refine zlpp_gd hF hs d e2 _ e' D g.2.1 ?_ (fun ts ht => ?_) h
      · simp only [List.length_append, List.length_cons, List.length_nil]
        omega
      · rw [List.append_assoc, zty_st (h2 ts ht), zty_st (g.2.2 (ty :: ts) (by simp only [List.length_cons]; omega))]
        exact zty_1 (hj.2 ts)
theorem zlvl_gd {ok : Int → Bool} {B : Int → Int} {n dp : Nat} {ty : Bool} {F : zPfu} {sg : Nat → Option Int} (hF : zGd ok n dp ty F) (hs : ∀ e j, sg e = some j → zrk B n e ≠ 0 ∧ ∀ ts : List Bool, ztq ok j (ty :: ty :: ts) = some (ty :: ts)) : zGd ok n (dp + 1) ty (zlvl B n sg F) := fun e e' D he h => by
  obtain ⟨⟨e2, D2⟩, hf, h⟩ := zbd_inv h
  have g := hF _ _ _ he hf
  exact zlpp_gd hF hs 1600 e2 D2 e' D g.2.1 g.1 (fun ts ht => g.2.2 ts (by omega)) h
theorem ztq_sum {ok : Int → Bool} {j : Int} (h1 : 1 ≤ j) (h6 : j ≤ 6) (ts : List Bool) : ztq ok j (false :: false :: ts) = some (false :: ts) := by
  unfold ztq
  rw [if_neg (by omega), if_neg (by omega), if_neg (by omega), if_neg (by omega), if_neg (by omega), if_neg (by omega), if_pos h6]
  rfl
theorem ztq_cmp {ok : Int → Bool} {j : Int} (h1 : 7 ≤ j) (h6 : j ≤ 9) (ts : List Bool) : ztq ok j (false :: false :: ts) = some (true :: ts) := by
  unfold ztq
  rw [if_neg (by omega), if_neg (by omega), if_neg (by omega), if_neg (by omega), if_neg (by omega), if_neg (by omega), if_neg (by omega), if_pos h6]
  rfl
theorem ztq_tst {ok : Int → Bool} {j : Int} (h1 : 10 ≤ j) (h6 : j ≤ 11) (ts : List Bool) : ztq ok j (true :: true :: ts) = some (true :: ts) := by
  unfold ztq
  rw [if_neg (by omega), if_neg (by omega), if_neg (by omega), if_neg (by omega), if_neg (by omega), if_neg (by omega), if_neg (by omega), if_neg (by omega), if_pos ⟨h6, rfl⟩]
  rfl
theorem zgP_h {B : Int → Int} {n e : Nat} {j : Int} (h : zgP B n e = some j) : zrk B n e = 3 ∧ (j = 3 ∧ zsg B n e 42 = true ∨ j = 4 ∧ zsg B n e 47 = true) := by
  unfold zgP at h
  by_cases c : zsg B n e 42 = true
  · rw [if_pos c] at h; injection h with h
    exact ⟨(zsg_k c).2.1, Or.inl ⟨h.symm, c⟩⟩
  · rw [if_neg c] at h
    by_cases c2 : zsg B n e 47 = true
    · rw [if_pos c2] at h; injection h with h
      exact ⟨(zsg_k c2).2.1, Or.inr ⟨h.symm, c2⟩⟩
    · rw [if_neg c2] at h; nomatch h
theorem zgS_h {B : Int → Int} {n e : Nat} {j : Int} (h : zgS B n e = some j) : zrk B n e = 3 ∧ (j = 1 ∧ zsg B n e 43 = true ∨ j = 2 ∧ zsg B n e 45 = true) := by
  unfold zgS at h
  by_cases c : zsg B n e 43 = true
  · rw [if_pos c] at h; injection h with h
    exact ⟨(zsg_k c).2.1, Or.inl ⟨h.symm, c⟩⟩
  · rw [if_neg c] at h
    by_cases c2 : zsg B n e 45 = true
    · rw [if_pos c2] at h; injection h with h
      exact ⟨(zsg_k c2).2.1, Or.inr ⟨h.symm, c2⟩⟩
    · rw [if_neg c2] at h; nomatch h
theorem zgA_h {B : Int → Int} {n e : Nat} {j : Int} (h : zgA B n e = some j) : zrk B n e = 1 ∧ j = 10 ∧ zwrd B n e zo_and = true := by
  unfold zgA at h
  by_cases c : zwrd B n e zo_and = true
  · rw [if_pos c] at h; injection h with h
    exact ⟨(zwrd_k c).2, h.symm, c⟩
  · rw [if_neg c] at h; nomatch h
theorem zgO_h {B : Int → Int} {n e : Nat} {j : Int} (h : zgO B n e = some j) : zrk B n e = 1 ∧ j = 11 ∧ zwrd B n e zo_or = true := by
  unfold zgO at h
  by_cases c : zwrd B n e zo_or = true
  · rw [if_pos c] at h; injection h with h
    exact ⟨(zwrd_k c).2, h.symm, c⟩
  · rw [if_neg c] at h; nomatch h
theorem zprod_gd {ok : Int → Bool} {B : Int → Int} {n dp : Nat} {F : zPfu} (hF : zGd ok n dp false F) : zGd ok n (dp + 1) false (zprodF B n F) := zlvl_gd hF (fun e j h => by
  have g := zgP_h h
  exact ⟨by omega, ztq_sum (by omega) (by omega)⟩)
theorem zsum_gd {ok : Int → Bool} {B : Int → Int} {n dp : Nat} {F : zPfu} (hF : zGd ok n dp false F) : zGd ok n (dp + 2) false (zsumF B n F) := zlvl_gd (zprod_gd hF) (fun e j h => by
  have g := zgS_h h
  exact ⟨by omega, ztq_sum (by omega) (by omega)⟩)
theorem zboth_gd {ok : Int → Bool} {B : Int → Int} {n dp : Nat} {F : zPfu} (hF : zGd ok n dp true F) : zGd ok n (dp + 1) true (zbothF B n F) := zlvl_gd hF (fun e j h => by
  have g := zgA_h h
  exact ⟨by omega, ztq_tst (by omega) (by omega)⟩)
theorem ztest_gd {ok : Int → Bool} {B : Int → Int} {n dp : Nat} {F : zPfu} (hF : zGd ok n dp true F) : zGd ok n (dp + 2) true (ztestF B n F) := zlvl_gd (zboth_gd hF) (fun e j h => by
  have g := zgO_h h
  exact ⟨by omega, ztq_tst (by omega) (by omega)⟩)
theorem zsgn_h {B : Int → Int} {n e e' : Nat} {x : Int} (he : e ≤ n) (h : zsgn B n e x = .inr e') : e + 1 ≤ e' ∧ e' ≤ n ∧ e' = zto B n e ∧ zsg B n e x = true := by
  unfold zsgn at h
  by_cases c : zsg B n e x = true
  · rw [if_pos c] at h; injection h with h
    have hb := zto_b (B := B) he
    have hz := hb.2.2 (by have := (zsg_k c).2.1; omega)
    have hfl := zfr_le B n e
    exact ⟨by omega, by omega, h.symm, c⟩
  · rw [if_neg c] at h; nomatch h
def zokM (md : Int) (m : Nat) : Int → Bool := if md = 2 then zokQ else zokT m (decide (md = 0))
theorem zwrd_e {B : Int → Int} {n e : Nat} {w : List Int} (he : e ≤ n) (h : zwrd B n e w = true) : e + 1 ≤ zto B n e ∧ zto B n e ≤ n := by
  have hb := zto_b (B := B) he
  have hz := hb.2.2 (by have := (zwrd_k h).2; omega)
  have hfl := zfr_le B n e
  omega
theorem zsg_e {B : Int → Int} {n e : Nat} {x : Int} (he : e ≤ n) (h : zsg B n e x = true) : e + 1 ≤ zto B n e ∧ zto B n e ≤ n := by
  have hb := zto_b (B := B) he
  have hz := hb.2.2 (by have := (zsg_k h).2.1; omega)
  have hfl := zfr_le B n e
  omega
theorem ztld_h {md : Int} {T : zTb} {m : Nat} {B : Int → Int} {n e : Nat} (hm : m ≤ 8) (h : ¬ ztld md T m B n e = -1) : zkd B n e = 1 ∧ 0 ≤ ztld md T m B n e ∧ ztld md T m B n e < 16 ∧ zokM md m (40 + ztld md T m B n e) = true := by
  unfold ztld at h ⊢
  unfold zokM
  by_cases c : md = 2
  · rw [if_pos c] at h ⊢
    rw [if_pos c, zokQ_ok]
    by_cases c1 : zwrd B n e zo_number = true
    · rw [if_pos c1] at h ⊢; exact ⟨(zwrd_k c1).1, by omega, by omega, by omega⟩
    · rw [if_neg c1] at h ⊢
      by_cases c2 : zwrd B n e zo_sort = true
      · rw [if_pos c2] at h ⊢; exact ⟨(zwrd_k c2).1, by omega, by omega, by omega⟩
      · rw [if_neg c2] at h ⊢
        by_cases c3 : zwrd B n e zo_value = true
        · rw [if_pos c3] at h ⊢; exact ⟨(zwrd_k c3).1, by omega, by omega, by omega⟩
        · rw [if_neg c3] at h ⊢
          by_cases c4 : zwrd B n e zo_drift = true
          · rw [if_pos c4] at h ⊢; exact ⟨(zwrd_k c4).1, by omega, by omega, by omega⟩
          · rw [if_neg c4] at h ⊢
            by_cases c5 : zwrd B n e zo_line = true
            · rw [if_pos c5] at h ⊢; exact ⟨(zwrd_k c5).1, by omega, by omega, by omega⟩
            · rw [if_neg c5] at h; exact absurd rfl h
  · rw [if_neg c] at h ⊢
    rw [if_neg c]
    by_cases c1 : zwrd B n e zo_line = true
    · rw [if_pos c1] at h ⊢; exact ⟨(zwrd_k c1).1, by omega, by omega, by simp [zokT]⟩
    · rw [if_neg c1] at h ⊢
      by_cases c2 : md = 0 ∧ zwrd B n e zo_prev = true
      · rw [if_pos c2] at h ⊢; exact ⟨(zwrd_k c2.2).1, by omega, by omega, by simp [zokT, c2.1]⟩
      · rw [if_neg c2] at h ⊢
        have hv := zcnm_v T m B n e
        by_cases c3 : zcnm T m B n e = -1
        · rw [if_pos c3] at h; exact absurd rfl h
        · rw [if_neg c3] at h ⊢
          have hv : 0 ≤ zcnm T m B n e ∧ zcnm T m B n e < m ∧ zkd B n e = 1 := by
            rcases hv with a | a
            · exact absurd a c3
            · exact a
          refine ⟨hv.2.2, by omega, by omega, ?_⟩
          unfold zokT
          rw [decide_eq_true (show (48 : Int) ≤ 40 + (8 + zcnm T m B n e) by omega), decide_eq_true (show 40 + (8 + zcnm T m B n e) < 48 + (m : Int) by omega)]
          simp
theorem zsumI_gd {ok : Int → Bool} {B : Int → Int} {n dp : Nat} {I : Option zPfu} (hI : ∀ f, I = some f → zGd ok n dp false f) {e e' j : Nat} {D : List Int} (he : e ≤ n) (hj : (j : Int) = 5 ∨ (j : Int) = 6) (h : zpair B n I e j = .inr (e', D)) : e + 1 + D.length ≤ e' + 1 ∧ e' ≤ n ∧ ∀ ts : List Bool, ts.length + (dp + 3) ≤ 64 → zty ok D ts = some (false :: ts) := by
  unfold zpair at h
  by_cases c : ¬ zsg B n e 40 = true
  · rw [if_pos c] at h; nomatch h
  · rw [if_neg c] at h
    have c : zsg B n e 40 = true := Classical.byContradiction c
    have hb := zsg_e he c
    cases ci : I with
    | none => rw [ci] at h; nomatch h
    | some f =>
      rw [ci] at h
      have hf := zsum_gd (B := B) (hI f ci)
      obtain ⟨⟨e1, D1⟩, h1, h⟩ := zbd_inv h
      obtain ⟨e2, h2, h⟩ := zbd_inv h
      obtain ⟨⟨e3, D3⟩, h3, h⟩ := zbd_inv h
      obtain ⟨e4, h4, h⟩ := zbd_inv h
      injection h with h; injection h with h5 h6
      subst h5; subst h6
      have g1 := hf _ _ _ hb.2 h1
      have g2 := zsgn_h g1.2.1 h2
      have g3 := hf _ _ _ g2.2.1 h3
      have g4 := zsgn_h g3.2.1 h4
      refine ⟨?_, g4.2.1, fun ts ht => ?_⟩
      · simp only [List.length_append, List.length_cons, List.length_nil]
        have := g2.1; have := g4.1
        omega
      · rw [List.append_assoc, zty_st (g1.2.2 ts (by omega)), zty_st (g3.2.2 (false :: ts) (by simp only [List.length_cons]; omega))]
        exact zty_1 (ztq_sum (by omega) (by omega) ts)
theorem zpartS_gd {md : Int} {T : zTb} {m : Nat} {B : Int → Int} {n dp : Nat} {I : Option zPfu} (hm : m ≤ 8) (hI : ∀ f, I = some f → zGd (zokM md m) n dp false f) : zGd (zokM md m) n (dp + 3) false (zpartS md T m B n I) := fun e e' D he h => by
  unfold zpartS at h
  by_cases c1 : zkd B n e = 2
  · rw [if_pos c1] at h
    obtain ⟨⟨e1, v⟩, h1, h⟩ := zbd_inv h
    injection h with h; injection h with h5 h6
    subst h5; subst h6
    have g := znum_ok h1
    have hb := zto_b (B := B) he
    have hz := hb.2.2 (by rw [← zkd_rk (by omega)]; omega)
    have hfl := zfr_le B n e
    have g2 := g.2.1
    refine ⟨by simp only [List.length_cons, List.length_nil]; omega, by omega, fun ts ht => zty_1 ?_⟩
    unfold ztq
    rw [if_pos (by omega), if_pos ⟨by omega, by omega⟩]
  · rw [if_neg c1] at h
    by_cases c2 : zsg B n e 40 = true
    · rw [if_pos c2] at h
      have hb := zsg_e he c2
      cases ci : I with
      | none => rw [ci] at h; nomatch h
      | some f =>
        rw [ci] at h
        have hf := zsum_gd (B := B) (hI f ci)
        obtain ⟨⟨e1, D1⟩, h1, h⟩ := zbd_inv h
        obtain ⟨e2, h2, h⟩ := zbd_inv h
        injection h with h; injection h with h5 h6
        subst h5; subst h6
        have g1 := hf _ _ _ hb.2 h1
        have g2 := zsgn_h g1.2.1 h2
        refine ⟨?_, g2.2.1, fun ts ht => g1.2.2 ts (by omega)⟩
        show e + D1.length ≤ _
        have := g2.1
        omega
    · rw [if_neg c2] at h
      by_cases c3 : zwrd B n e zo_min = true
      · rw [if_pos c3] at h
        have hb := zwrd_e he c3
        have g := zsumI_gd (j := 5) hI hb.2 (Or.inl rfl) h
        exact ⟨by omega, g.2⟩
      · rw [if_neg c3] at h
        by_cases c4 : zwrd B n e zo_max = true
        · rw [if_pos c4] at h
          have hb := zwrd_e he c4
          have g := zsumI_gd (j := 6) hI hb.2 (Or.inr rfl) h
          exact ⟨by omega, g.2⟩
        · rw [if_neg c4] at h
          by_cases c5 : md = 2 ∧ (zwrd B n e zo_ahead = true ∨ zwrd B n e zo_col = true)
          · rw [if_pos c5] at h
            have hb : e + 1 ≤ zto B n e ∧ zto B n e ≤ n := by
              rcases c5.2 with a | a
              · exact zwrd_e he a
              · exact zwrd_e he a
            cases ci : I with
            | none => rw [ci] at h; nomatch h
            | some f =>
              rw [ci] at h
              obtain ⟨⟨e1, D1⟩, h1, h⟩ := zbd_inv h
              injection h with h; injection h with h5 h6
              subst h5; subst h6
              have g1 := hI f ci _ _ _ hb.2 h1
              refine ⟨by simp only [List.length_append, List.length_cons, List.length_nil]; omega, g1.2.1, fun ts ht => ?_⟩
              rw [zty_st (g1.2.2 ts (by omega))]
              refine zty_1 ?_
              have key : ∀ v : Int, v = 60 ∨ v = 61 → ztq (zokM md m) v (false :: ts) = some (false :: ts) := fun v hv => by
                unfold ztq
                rw [if_neg (by omega), if_pos (by omega), if_pos ⟨by unfold zokM; rw [if_pos c5.1, zokQ_ok]; omega, by omega, rfl⟩]
              refine key _ ?_
              split
              · exact Or.inl rfl
              · exact Or.inr rfl
          · rw [if_neg c5] at h
            by_cases c6 : ztld md T m B n e = -1
            · rw [if_pos c6] at h; nomatch h
            · rw [if_neg c6] at h
              injection h with h; injection h with h5 h6
              subst h5; subst h6
              have g := ztld_h hm c6
              have hb := zto_b (B := B) he
              have hz := hb.2.2 (by rw [← zkd_rk (by omega)]; omega)
              have hfl := zfr_le B n e
              refine ⟨by simp only [List.length_cons, List.length_nil]; omega, by omega, fun ts ht => zty_1 ?_⟩
              unfold ztq
              rw [if_neg (by omega), if_neg (by omega), if_pos (by omega), if_pos ⟨g.2.2.2, by omega⟩]
theorem zpart_gd {md : Int} {T : zTb} {m : Nat} {B : Int → Int} {n : Nat} (hm : m ≤ 8) : ∀ k, zGd (zokM md m) n (3 + 3 * k) false (zpart md T m B n k)
  | 0 => zpartS_gd (dp := 0) hm (fun f h => by nomatch h)
  | k + 1 => by
    have := zpartS_gd (dp := 3 + 3 * k) (T := T) (B := B) (md := md) (m := m) (n := n) (I := some (zpart md T m B n k)) hm (fun f h => by injection h with h; subst h; exact zpart_gd hm k)
    exact this
theorem zfactS_gd {md : Int} {m : Nat} {B : Int → Int} {n dp : Nat} {P : zPfu} {I : Option zPfu} (hP : zGd (zokM md m) n dp false P) (hI : ∀ f, I = some f → zGd (zokM md m) n dp true f) : zGd (zokM md m) n (dp + 3) true (zfactS B n P I) := fun e e' D he h => by
  unfold zfactS at h
  by_cases c1 : zwrd B n e zo_not = true
  · rw [if_pos c1] at h
    have hb := zwrd_e he c1
    cases ci : I with
    | none => rw [ci] at h; nomatch h
    | some f =>
      rw [ci] at h
      obtain ⟨⟨e1, D1⟩, h1, h⟩ := zbd_inv h
      injection h with h; injection h with h5 h6
      subst h5; subst h6
      have g1 := hI f ci _ _ _ hb.2 h1
      refine ⟨by simp only [List.length_append, List.length_cons, List.length_nil]; omega, g1.2.1, fun ts ht => ?_⟩
      rw [zty_st (g1.2.2 ts (by omega))]
      exact zty_1 rfl
  · rw [if_neg c1] at h
    by_cases c2 : zsg B n e 91 = true
    · rw [if_pos c2] at h
      have hb := zsg_e he c2
      cases ci : I with
      | none => rw [ci] at h; nomatch h
      | some f =>
        rw [ci] at h
        have hf := ztest_gd (B := B) (hI f ci)
        obtain ⟨⟨e1, D1⟩, h1, h⟩ := zbd_inv h
        obtain ⟨e2, h2, h⟩ := zbd_inv h
        injection h with h; injection h with h5 h6
        subst h5; subst h6
        have g1 := hf _ _ _ hb.2 h1
        have g2 := zsgn_h g1.2.1 h2
        refine ⟨?_, g2.2.1, fun ts ht => g1.2.2 ts (by omega)⟩
        show e + D1.length ≤ _
        have := g2.1
        omega
    · rw [if_neg c2] at h
      by_cases c3 : zwrd B n e zo_all = true
      · rw [if_pos c3] at h
        injection h with h; injection h with h5 h6
        subst h5; subst h6
        have hb := zwrd_e he c3
        refine ⟨by simp only [List.length_cons, List.length_nil]; omega, hb.2, fun ts ht => zty_1 ?_⟩
        unfold ztq
        rw [if_neg (by omega), if_neg (by omega), if_neg (by omega), if_pos rfl, if_pos (by omega)]
      · rw [if_neg c3] at h
        obtain ⟨⟨e1, D1⟩, h1, h⟩ := zbd_inv h
        have g1 := zsum_gd (B := B) hP _ _ _ he h1
        have h : (if zcmpr B n e1 = -1 then (.inl (1, (zfr B n e1 : Nat)) : zRs (Nat × List Int)) else zbd (zsumF B n P (zto B n e1)) (fun r2 => .inr (r2.1, D1 ++ r2.2 ++ [zcmpr B n e1]))) = .inr (e', D) := h
        by_cases c4 : zcmpr B n e1 = -1
        · rw [if_pos c4] at h; nomatch h
        · rw [if_neg c4] at h
          obtain ⟨⟨e2, D2⟩, h2, h⟩ := zbd_inv h
          injection h with h; injection h with h5 h6
          subst h5; subst h6
          have hz : zrk B n e1 = 3 ∧ 7 ≤ zcmpr B n e1 ∧ zcmpr B n e1 ≤ 9 := by
            unfold zcmpr at c4 ⊢
            by_cases d1 : zsg B n e1 60 = true
            · rw [if_pos d1]; exact ⟨(zsg_k d1).2.1, by omega, by omega⟩
            · rw [if_neg d1] at c4 ⊢
              by_cases d2 : zsg B n e1 62 = true
              · rw [if_pos d2]; exact ⟨(zsg_k d2).2.1, by omega, by omega⟩
              · rw [if_neg d2] at c4 ⊢
                by_cases d3 : zsg B n e1 61 = true
                · rw [if_pos d3]; exact ⟨(zsg_k d3).2.1, by omega, by omega⟩
                · rw [if_neg d3] at c4; exact absurd rfl c4
          have hb := zto_b (B := B) g1.2.1
          have hz2 := hb.2.2 (by omega)
          have hfl := zfr_le B n e1
          have g2 := zsum_gd (B := B) hP _ _ _ hb.2.1 h2
          refine ⟨by simp only [List.length_append, List.length_cons, List.length_nil]; omega, g2.2.1, fun ts ht => ?_⟩
          rw [List.append_assoc, zty_st (g1.2.2 ts (by omega)), zty_st (g2.2.2 (false :: ts) (by simp only [List.length_cons]; omega))]
          exact zty_1 (ztq_cmp hz.2.1 hz.2.2 ts)
theorem zGd.mono {ok : Int → Bool} {n dp dq : Nat} {ty : Bool} {F : zPfu} (h : zGd ok n dp ty F) (l : dp ≤ dq) : zGd ok n dq ty F := fun e e' D he hf => ⟨(h e e' D he hf).1, (h e e' D he hf).2.1, fun ts ht => (h e e' D he hf).2.2 ts (by omega)⟩
theorem zfact_gd {md : Int} {T : zTb} {m : Nat} {B : Int → Int} {n : Nat} (hm : m ≤ 8) : ∀ k, zGd (zokM md m) n (6 + 3 * k) true (zfact md T m B n k)
  | 0 => zfactS_gd (dp := 3) (zpart_gd hm 0) (fun f h => by nomatch h)
  | k + 1 => by
    have := zfactS_gd (dp := 6 + 3 * k) (B := B) (md := md) (m := m) (n := n) (P := zpart md T m B n (k + 1)) (I := some (zfact md T m B n k)) ((zpart_gd hm (k + 1)).mono (by omega)) (fun f h => by injection h with h; subst h; exact zfact_gd hm k)
    exact this.mono (by omega)
theorem zsumK_gd {md : Int} {T : zTb} {m : Nat} {B : Int → Int} {n : Nat} (hm : m ≤ 8) {e e' : Nat} {D : List Int} (he : e ≤ n) (h : zsumK md T m B n 6 e = .inr (e', D)) : e + D.length ≤ e' ∧ e' ≤ n ∧ zty (zokM md m) D [] = some [false] := by
  have g := zsum_gd (B := B) (zpart_gd (T := T) (B := B) (md := md) (n := n) hm 6) _ _ _ he h
  exact ⟨g.1, g.2.1, g.2.2 [] (by decide)⟩
theorem ztestK_gd {md : Int} {T : zTb} {m : Nat} {B : Int → Int} {n : Nat} (hm : m ≤ 8) {e e' : Nat} {D : List Int} (he : e ≤ n) (h : ztestK md T m B n 6 e = .inr (e', D)) : e + D.length ≤ e' ∧ e' ≤ n ∧ zty (zokM md m) D [] = some [true] := by
  have g := ztest_gd (B := B) (zfact_gd (T := T) (B := B) (md := md) (n := n) hm 6) _ _ _ he h
  exact ⟨g.1, g.2.1, g.2.2 [] (by decide)⟩
