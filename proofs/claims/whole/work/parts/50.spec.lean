/-! SPECIFICATION, pure: codes (the Model's words), what they tell, types of codes. -/
def zclip (v : Int) : Int := if v > 1000000 then 1000000 else if v < -1000000 then -1000000 else v
/-- the greatest whole number not above, 0 by 0 -/
def zflr (a b : Int) : Int := if b = 0 then 0 else if Int.tmod a b ≠ 0 ∧ ¬ (a < 0 ↔ b < 0) then Int.tdiv a b - 1 else Int.tdiv a b
def zop (k a b : Int) : Int :=
  if k = 1 then zclip (a + b) else if k = 2 then zclip (a - b) else if k = 3 then zclip (a * b) else if k = 4 then zflr a b
  else if k = 5 then (if a < b then a else b) else if k = 6 then (if a > b then a else b)
  else if k = 7 then (if a < b then 1 else 0) else if k = 8 then (if a > b then 1 else 0) else if k = 9 then (if a = b then 1 else 0)
  else if k = 10 then a * b else (if a + b > 0 then 1 else 0)
/-- what a code does to a pile, its top first; E: what a part tells, what a part of a number tells -/
def zst (E : (Int → Int) × (Int → Int → Int)) (v : Int) : List Int → List Int
  | [] => if 1000 ≤ v then [v - 1000] else if 60 ≤ v then [] else if 40 ≤ v then [E.1 (v - 40)] else if v = 13 then [1] else []
  | a :: r => if 1000 ≤ v then (v - 1000) :: a :: r else if 60 ≤ v then E.2 (v - 60) a :: r else if 40 ≤ v then E.1 (v - 40) :: a :: r
    else if v = 13 then 1 :: a :: r else if v = 12 then (1 - a) :: r
    else match r with
      | [] => []
      | b :: q => zop v b a :: q
def zrn (E : (Int → Int) × (Int → Int → Int)) : List Int → List Int → List Int
  | [], st => st
  | v :: r, st => zrn E r (zst E v st)
def zval (E : (Int → Int) × (Int → Int → Int)) (cs : List Int) : Int := (zrn E cs []).headD 0
/-- types: true of a test, false of a sum; ok: which parts can stand there -/
def ztq (ok : Int → Bool) (v : Int) (ts : List Bool) : Option (List Bool) :=
  if 1000 ≤ v then (if v ≤ 10999 ∧ ts.length < 64 then some (false :: ts) else none)
  else if 60 ≤ v then (if ok v = true ∧ v ≤ 61 ∧ ts.head? = some false then some ts else none)
  else if 40 ≤ v then (if ok v = true ∧ ts.length < 64 then some (false :: ts) else none)
  else if v = 13 then (if ts.length < 64 then some (true :: ts) else none)
  else if v = 12 then (if ts.head? = some true then some ts else none)
  else if v < 1 then none
  else if v ≤ 6 then (if ts.take 2 = [false, false] then some (ts.drop 1) else none)
  else if v ≤ 9 then (if ts.take 2 = [false, false] then some (true :: ts.drop 2) else none)
  else (if v ≤ 11 ∧ ts.take 2 = [true, true] then some (ts.drop 1) else none)
def zty (ok : Int → Bool) : List Int → List Bool → Option (List Bool)
  | [], ts => some ts
  | v :: r, ts => (ztq ok v ts).bind (zty ok r)
def zvt : List Bool → List Int → Prop
  | [], [] => True
  | t :: ts, a :: st => (if t = true then a = 0 ∨ a = 1 else -1000000 ≤ a ∧ a ≤ 1000000) ∧ zvt ts st
  | _, _ => False
/-- the parts keep to the sums' room -/
def zEok (ok : Int → Bool) (E : (Int → Int) × (Int → Int → Int)) : Prop :=
  (∀ v, 40 ≤ v → v < 60 → ok v = true → -1000000 ≤ E.1 (v - 40) ∧ E.1 (v - 40) ≤ 1000000) ∧ (∀ v a, 60 ≤ v → v ≤ 61 → ok v = true → -1000000 ≤ E.2 (v - 60) a ∧ E.2 (v - 60) a ≤ 1000000)
theorem zvt_len : ∀ {ts : List Bool} {st : List Int}, zvt ts st → st.length = ts.length
  | [], [], _ => rfl
  | [], _ :: _, h => h.elim
  | _ :: _, [], h => h.elim
  | _ :: ts, _ :: st, h => by simp [zvt_len h.2]
theorem zclip_in (v : Int) : -1000000 ≤ zclip v ∧ zclip v ≤ 1000000 := by unfold zclip; split <;> (try split) <;> omega
theorem ztdiv_in {a b : Int} (ha : -1000000 ≤ a ∧ a ≤ 1000000) : -1000000 ≤ Int.tdiv a b ∧ Int.tdiv a b ≤ 1000000 := by
  have h := Int.natAbs_tdiv_le_natAbs a b
  omega
theorem ztdiv_1 {a b : Int} (ha : -1000000 ≤ a ∧ a ≤ 1000000) (hm : Int.tmod a b ≠ 0) : -1000000 < Int.tdiv a b := by
  have hx := Int.natAbs_tdiv_le_natAbs a b
  have h1 := Int.mul_tdiv_add_tmod a b
  by_cases hb : b = 1
  · subst hb; simp at hm
  by_cases hb' : b = -1
  · subst hb'; simp at hm
  by_cases h0 : b = 0
  · subst h0; simp
  · have e : (Int.tdiv a b).natAbs = a.natAbs / b.natAbs := by rw [Int.natAbs_tdiv]; rfl
    have h2 : 2 ≤ b.natAbs := by omega
    have h3 : a.natAbs / b.natAbs ≤ a.natAbs / 2 := Nat.div_le_div_left h2 (by omega)
    omega
theorem zflr_in {a b : Int} (ha : -1000000 ≤ a ∧ a ≤ 1000000) : -1000000 ≤ zflr a b ∧ zflr a b ≤ 1000000 := by
  unfold zflr
  have h := ztdiv_in (b := b) ha
  split
  · omega
  · split
    · rename_i h2
      have := ztdiv_1 ha h2.1
      omega
    · exact h
theorem zop_1 (a b : Int) : zop 1 a b = zclip (a + b) := by unfold zop; simp
theorem zop_2 (a b : Int) : zop 2 a b = zclip (a - b) := by unfold zop; simp
theorem zop_3 (a b : Int) : zop 3 a b = zclip (a * b) := by unfold zop; simp
theorem zop_4 (a b : Int) : zop 4 a b = zflr a b := by unfold zop; simp
theorem zop_5 (a b : Int) : zop 5 a b = if a < b then a else b := by unfold zop; simp
theorem zop_6 (a b : Int) : zop 6 a b = if a > b then a else b := by unfold zop; simp
theorem zop_7 (a b : Int) : zop 7 a b = if a < b then 1 else 0 := by unfold zop; simp
theorem zop_8 (a b : Int) : zop 8 a b = if a > b then 1 else 0 := by unfold zop; simp
theorem zop_9 (a b : Int) : zop 9 a b = if a = b then 1 else 0 := by unfold zop; simp
theorem zop_10 (a b : Int) : zop 10 a b = a * b := by unfold zop; simp
theorem zop_11 (a b : Int) : zop 11 a b = if a + b > 0 then 1 else 0 := by unfold zop; simp
theorem zop_sum {k a b : Int} (h1 : 1 ≤ k) (h6 : k ≤ 6) (ha : -1000000 ≤ a ∧ a ≤ 1000000) (hb : -1000000 ≤ b ∧ b ≤ 1000000) : -1000000 ≤ zop k a b ∧ zop k a b ≤ 1000000 := by
  have hk : k = 1 ∨ k = 2 ∨ k = 3 ∨ k = 4 ∨ k = 5 ∨ k = 6 := by omega
  rcases hk with rfl | rfl | rfl | rfl | rfl | rfl
  · rw [zop_1]; exact zclip_in _
  · rw [zop_2]; exact zclip_in _
  · rw [zop_3]; exact zclip_in _
  · rw [zop_4]; exact zflr_in ha
  · rw [zop_5]; split <;> assumption
  · rw [zop_6]; split <;> assumption
theorem zop_cmp {k a b : Int} (h1 : 7 ≤ k) (h6 : k ≤ 9) : zop k a b = 0 ∨ zop k a b = 1 := by
  have hk : k = 7 ∨ k = 8 ∨ k = 9 := by omega
  rcases hk with rfl | rfl | rfl
  · rw [zop_7]; split <;> simp
  · rw [zop_8]; split <;> simp
  · rw [zop_9]; split <;> simp
theorem zop_log {k a b : Int} (h1 : 10 ≤ k) (h6 : k ≤ 11) (ha : a = 0 ∨ a = 1) (hb : b = 0 ∨ b = 1) : zop k a b = 0 ∨ zop k a b = 1 := by
  have hk : k = 10 ∨ k = 11 := by omega
  rcases hk with rfl | rfl <;> rcases ha with rfl | rfl <;> rcases hb with rfl | rfl <;> decide
theorem zst_ty {ok : Int → Bool} {E : (Int → Int) × (Int → Int → Int)} (hE : zEok ok E) {v : Int} {ts ts' : List Bool} {st : List Int} (h : ztq ok v ts = some ts') (hv : zvt ts st) : zvt ts' (zst E v st) := by
  unfold ztq at h
  split at h
  · rename_i h1
    split at h
    · rename_i h2
      injection h with h
      subst h
      cases st with
      | nil => simp only [zst, if_pos h1]; exact ⟨by simp; omega, hv⟩
      | cons a r => simp only [zst, if_pos h1]; exact ⟨by simp; omega, hv⟩
    · cases h
  rename_i n1
  split at h
  · rename_i h1
    split at h
    · rename_i h2
      injection h with h
      subst h
      match ts, st, h2, hv with
      | t :: ts, a :: st, h2, hv =>
        have ht : t = false := by have := h2.2.2; simpa using this
        subst ht
        simp only [zst, if_neg n1, if_pos h1]
        exact ⟨by have := hE.2 v a h1 h2.2.1 h2.1; simpa using this, hv.2⟩
    · cases h
  rename_i n2
  split at h
  · rename_i h1
    split at h
    · rename_i h2
      injection h with h
      subst h
      have hh := hE.1 v h1 (by omega) h2.1
      cases st with
      | nil => simp only [zst, if_neg n1, if_neg n2, if_pos h1]; exact ⟨by simpa using hh, hv⟩
      | cons a r => simp only [zst, if_neg n1, if_neg n2, if_pos h1]; exact ⟨by simpa using hh, hv⟩
    · cases h
  rename_i n3
  split at h
  · rename_i h1
    split at h
    · injection h with h
      subst h
      cases st with
      | nil => simp only [zst, if_neg n1, if_neg n2, if_neg n3, if_pos h1]; exact ⟨by simp, hv⟩
      | cons a r => simp only [zst, if_neg n1, if_neg n2, if_neg n3, if_pos h1]; exact ⟨by simp, hv⟩
    · cases h
  rename_i n4
  split at h
  · rename_i h1
    split at h
    · rename_i h2
      injection h with h
      subst h
      match ts, st, h2, hv with
      | t :: ts, a :: st, h2, hv =>
        have ht : t = true := by simpa using h2
        subst ht
        simp only [zst, if_neg n1, if_neg n2, if_neg n3, if_neg n4, if_pos h1]
        refine ⟨?_, hv.2⟩
        have := hv.1
        simp at this
        simp
        omega
    · cases h
  rename_i n5
  split at h
  · cases h
  rename_i n6
  split at h
  · rename_i h1
    split at h
    · rename_i h2
      injection h with h
      match ts, st, h, h2, hv with
      | t :: u :: ts, a :: b :: st, h, h2, hv =>
        have ht : t = false ∧ u = false := by simpa using h2
        obtain ⟨rfl, rfl⟩ := ht
        simp only [List.drop] at h
        subst h
        simp only [zst, if_neg n1, if_neg n2, if_neg n3, if_neg n4, if_neg n5]
        exact ⟨by simpa using zop_sum (by omega) h1 (by simpa using hv.2.1) (by simpa using hv.1), hv.2.2⟩
      | [_], _, _, h2, _ => simp at h2
      | [], _, _, h2, _ => simp at h2
      | _ :: _ :: _, [], _, _, hv => exact hv.elim
      | _ :: _ :: _, [_], _, _, hv => exact hv.2.elim
    · cases h
  rename_i n7
  split at h
  · rename_i h1
    split at h
    · rename_i h2
      injection h with h
      match ts, st, h, h2, hv with
      | t :: u :: ts, a :: b :: st, h, h2, hv =>
        simp only [List.drop] at h
        subst h
        simp only [zst, if_neg n1, if_neg n2, if_neg n3, if_neg n4, if_neg n5]
        exact ⟨by simpa using zop_cmp (by omega) h1, hv.2.2⟩
      | [_], _, _, h2, _ => simp at h2
      | [], _, _, h2, _ => simp at h2
      | _ :: _ :: _, [], _, _, hv => exact hv.elim
      | _ :: _ :: _, [_], _, _, hv => exact hv.2.elim
    · cases h
  rename_i n8
  split at h
  · rename_i h2
    injection h with h
    match ts, st, h, h2, hv with
    | t :: u :: ts, a :: b :: st, h, h2, hv =>
      have ht : t = true ∧ u = true := by simpa using h2.2
      obtain ⟨rfl, rfl⟩ := ht
      simp only [List.drop] at h
      subst h
      simp only [zst, if_neg n1, if_neg n2, if_neg n3, if_neg n4, if_neg n5]
      exact ⟨by simpa using zop_log (by omega) h2.1 (by simpa using hv.2.1) (by simpa using hv.1), hv.2.2⟩
    | [_], _, _, h2, _ => simp at h2
    | [], _, _, h2, _ => simp at h2
    | _ :: _ :: _, [], _, _, hv => exact hv.elim
    | _ :: _ :: _, [_], _, _, hv => exact hv.2.elim
  · cases h
theorem zrn_ty {ok : Int → Bool} {E : (Int → Int) × (Int → Int → Int)} (hE : zEok ok E) : ∀ {cs : List Int} {ts ts' : List Bool} {st : List Int}, zty ok cs ts = some ts' → zvt ts st → zvt ts' (zrn E cs st)
  | [], ts, ts', st, h, hv => by
    injection h with h
    subst h
    exact hv
  | v :: cs, ts, ts', st, h, hv => by
    unfold zty at h
    cases hs : ztq ok v ts with
    | none => rw [hs] at h; cases h
    | some t1 =>
      rw [hs] at h
      exact zrn_ty hE (cs := cs) h (zst_ty hE hs hv)
