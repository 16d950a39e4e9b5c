/-! SPECIFICATION of lines. A tablet T: T.1 c f of a column c (f: 0 sort, 1 least, 2 greatest, 3 start, 4 up, 5 step, 6 slow step, 7 quick places, 10.. letters), T.1 8 (0 columns, 1 slip, 2 statements, 3 marks told); T.2 c its codes, T.2 8 those of marks. A line L: 0 number, 1 + c values, 9 + c ways. -/
abbrev zTb : Type := (Int → Int → Int) × (Int → List Int)
def zup (L : Int → Int) (k v : Int) : Int → Int := fun j => if j = k then v else L j
theorem zup_s (L : Int → Int) (k v : Int) : zup L k v k = v := by simp [zup]
theorem zup_o (L : Int → Int) {k j : Int} (v : Int) (h : j ≠ k) : zup L k v j = L j := by simp [zup, h]
def zEn (L : Int → Int) (prev : Int) : (Int → Int) × (Int → Int → Int) := (fun w => if w = 0 then L 0 else if w = 1 then prev else L (1 + (w - 8)), fun _ _ => 0)
def zokT (c : Int) (pv : Bool) (v : Int) : Bool := decide (v = 40) || (decide (v = 41) && pv) || (decide (48 ≤ v) && decide (v < 48 + c))
def zsm (T : zTb) (L : Int → Int) (c prev : Int) : Int := zval (zEn L prev) (T.2 c)
def zmk (T : zTb) (L : Int → Int) : Int := if T.1 8 3 = 1 then (if zval (zEn L 0) (T.2 8) = 1 then 1 else 0) else 0
def zarc (q g f s v : Int) : Int := if v < q then (if v + f < q then v + f else q + Int.tdiv ((v + f - q) * s) f) else (if v + s < g + 1 then v + s else Int.tdiv ((v + s - (g + 1)) * f) s)
def zzv (L : Int → Int) (c d : Int) : Int := if L (9 + c) = 1 then L (1 + c) + d else L (1 + c) - d
def zzg (lo hi d : Int) (L : Int → Int) (c : Int) : Int → Int :=
  if hi < zzv L c d then zup (zup L (9 + c) 0) (1 + c) (2 * hi - zzv L c d) else if zzv L c d < lo then zup (zup L (9 + c) 1) (1 + c) (2 * lo - zzv L c d) else zup L (1 + c) (zzv L c d)
def zmv (T : zTb) (L : Int → Int) (c : Int) : Int → Int :=
  if T.1 c 0 = 0 then zzg (T.1 c 1) (T.1 c 2) (T.1 c 5) L c
  else if T.1 c 0 = 1 then zup L (1 + c) (zarc (T.1 c 7) (T.1 c 2) (T.1 c 5) (T.1 c 6) (L (1 + c)))
  else if T.1 c 0 = 2 then zup L (1 + c) ((L (1 + c) + zsm T L c (L (1 + c))) % (T.1 c 2 + 1))
  else zup L (1 + c) (zsm T L c (L (1 + c)))
def znk (T : zTb) (L : Int → Int) : Nat → Int → Int
  | 0 => zup L 0 (L 0 + 1)
  | k + 1 => zmv T (znk T L k) k
def znx (T : zTb) (L : Int → Int) : Int → Int := znk T L (T.1 8 0).toNat
def zbk (T : zTb) : Nat → Int → Int
  | 0 => fun _ => 0
  | k + 1 => zup (zup (zbk T k) (9 + k) (T.1 k 4)) (1 + k) (if T.1 k 0 = 3 then zsm T (zbk T k) k 0 else T.1 k 3)
def zbg (T : zTb) : Int → Int := zbk T (T.1 8 0).toNat
/-- so many lines on -/
def zln (T : zTb) (L : Int → Int) : Nat → Int → Int
  | 0 => L
  | k + 1 => znx T (zln T L k)
def zTok1 (T : zTb) (c : Int) : Prop :=
  (T.1 c 0 = 0 ∧ 0 ≤ T.1 c 1 ∧ T.1 c 1 < T.1 c 2 ∧ T.1 c 2 ≤ 999 ∧ 1 ≤ T.1 c 5 ∧ T.1 c 5 ≤ T.1 c 2 - T.1 c 1 ∧ T.1 c 1 ≤ T.1 c 3 ∧ T.1 c 3 ≤ T.1 c 2 ∧ (T.1 c 4 = 0 ∨ T.1 c 4 = 1)) ∨
  (T.1 c 0 = 1 ∧ T.1 c 1 = 0 ∧ 3 ≤ T.1 c 2 ∧ T.1 c 2 ≤ 998 ∧ 2 ≤ T.1 c 7 ∧ T.1 c 7 ≤ T.1 c 2 - 1 ∧ 1 ≤ T.1 c 5 ∧ T.1 c 5 ≤ T.1 c 7 ∧ 1 ≤ T.1 c 6 ∧ T.1 c 6 ≤ T.1 c 2 + 1 - T.1 c 7 ∧ 0 ≤ T.1 c 3 ∧ T.1 c 3 ≤ T.1 c 2 ∧ T.1 c 4 = 0) ∨
  (T.1 c 0 = 2 ∧ T.1 c 1 = 0 ∧ 1 ≤ T.1 c 2 ∧ T.1 c 2 ≤ 998 ∧ 0 ≤ T.1 c 3 ∧ T.1 c 3 ≤ T.1 c 2 ∧ T.1 c 4 = 0 ∧ zty (zokT c true) (T.2 c) [] = some [false]) ∨
  (T.1 c 0 = 3 ∧ T.1 c 1 = 0 ∧ T.1 c 2 = 0 ∧ T.1 c 4 = 0 ∧ zty (zokT c true) (T.2 c) [] = some [false])
def zTok (T : zTb) : Prop :=
  0 ≤ T.1 8 0 ∧ T.1 8 0 ≤ 8 ∧ 0 ≤ T.1 8 1 ∧ T.1 8 1 ≤ 100 ∧ 0 ≤ T.1 8 2 ∧ T.1 8 2 ≤ 60 ∧ (T.1 8 3 = 0 ∨ T.1 8 3 = 1 ∧ zty (zokT (T.1 8 0) false) (T.2 8) [] = some [true]) ∧ ∀ c, 0 ≤ c → c < T.1 8 0 → zTok1 T c
def zCok (T : zTb) (c v u : Int) : Prop := if T.1 c 0 = 3 then (-1000000 ≤ v ∧ v ≤ 1000000) ∧ u = 0 else (T.1 c 1 ≤ v ∧ v ≤ T.1 c 2) ∧ (if T.1 c 0 = 0 then u = 0 ∨ u = 1 else u = 0)
/-- a line of so many columns -/
def zLok (T : zTb) (n : Int) (L : Int → Int) : Prop := 0 ≤ L 0 ∧ L 0 ≤ 9000 ∧ ∀ c, 0 ≤ c → c < n → zCok T c (L (1 + c)) (L (9 + c))
theorem zCok.in {T : zTb} {c v u : Int} (ht : zTok1 T c) (h : zCok T c v u) : -1000000 ≤ v ∧ v ≤ 1000000 := by
  unfold zCok at h
  unfold zTok1 at ht
  split at h
  · exact h.1
  · omega
theorem zCok.up {T : zTb} {c v u : Int} (h : zCok T c v u) : u = 0 ∨ u = 1 := by
  unfold zCok at h
  split at h
  · exact Or.inl h.2
  · have h2 := h.2
    split at h2
    · exact h2
    · exact Or.inl h2
theorem zokT_ok {c : Int} {pv : Bool} {v : Int} : zokT c pv v = true ↔ (v = 40 ∨ (v = 41 ∧ pv = true) ∨ (48 ≤ v ∧ v < 48 + c)) := by
  unfold zokT
  simp only [Bool.or_eq_true, Bool.and_eq_true, decide_eq_true_eq]
  constructor
  · rintro ((h | h) | h)
    · exact Or.inl h
    · exact Or.inr (Or.inl h)
    · exact Or.inr (Or.inr h)
  · rintro (h | h | h)
    · exact Or.inl (Or.inl h)
    · exact Or.inl (Or.inr h)
    · exact Or.inr h
theorem zEn_ok {T : zTb} {L : Int → Int} {n k prev : Int} {pv : Bool} (hT : ∀ c, 0 ≤ c → c < n → zTok1 T c) (hL : zLok T n L) (hn : k ≤ n) (hp : pv = true → -1000000 ≤ prev ∧ prev ≤ 1000000) : zEok (zokT k pv) (zEn L prev) := by
  refine ⟨fun v h1 h2 hv => ?_, fun v a h1 h2 hv => ⟨by simp [zEn], by simp [zEn]⟩⟩
  rw [zokT_ok] at hv
  rcases hv with rfl | ⟨rfl, hh⟩ | ⟨h3, h4⟩
  · simp only [zEn]
    have := hL.1
    have := hL.2.1
    simp
    omega
  · simp only [zEn]
    simp
    exact hp hh
  · have e : (zEn L prev).1 (v - 40) = L (1 + (v - 48)) := by
      simp only [zEn]
      rw [if_neg (by omega), if_neg (by omega)]
      congr 1
      omega
    rw [e]
    exact (hL.2.2 (v - 48) (by omega) (by omega)).in (hT _ (by omega) (by omega))
theorem zarc_in {q g f s v : Int} (h1 : 3 ≤ g) (h2 : 2 ≤ q) (h3 : q ≤ g - 1) (h4 : 1 ≤ f) (h5 : f ≤ q) (h6 : 1 ≤ s) (h7 : s ≤ g + 1 - q) (h0 : 0 ≤ v) (hg : v ≤ g) : 0 ≤ zarc q g f s v ∧ zarc q g f s v ≤ g := by
  have key : ∀ {x a b : Int}, 0 ≤ x → x < a → 1 ≤ b → 0 ≤ Int.tdiv (x * b) a ∧ Int.tdiv (x * b) a < b := fun {x a b} hx ha hb => by
    have hnn : 0 ≤ x * b := Int.mul_nonneg hx (by omega)
    rw [Int.tdiv_eq_ediv_of_nonneg hnn]
    refine ⟨Int.ediv_nonneg hnn (by omega), Int.ediv_lt_of_lt_mul (by omega) ?_⟩
    rw [Int.mul_comm b a]
    exact Int.mul_lt_mul_of_pos_right ha (by omega)
  unfold zarc
  split
  · split
    · omega
    · have := key (x := v + f - q) (a := f) (b := s) (by omega) (by omega) h6
      omega
  · split
    · omega
    · have := key (x := v + s - (g + 1)) (a := s) (b := f) (by omega) (by omega) h4
      omega
