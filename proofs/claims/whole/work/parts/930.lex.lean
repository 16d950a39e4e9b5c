/-! PARSER, words: pure. A text B of n bytes; e: where the last word ended. -/
def zkdo (x : Int) : Int := if x < 97 then (if x < 48 then 3 else if 57 < x then 3 else 2) else if 122 < x then (if x < 48 then 3 else if 57 < x then 3 else 2) else 1
def zspd (B : Int → Int) (n : Nat) : Nat → Nat → Nat
  | 0, e => e
  | d + 1, e => if e < n ∧ (B e = 10 ∨ B e = 32) then zspd B n d (e + 1) else e
/-- the next byte that is no blank -/
def zfr (B : Int → Int) (n e : Nat) : Nat := zspd B n (n - e) e
def zrud (B : Int → Int) (n : Nat) (k : Int) : Nat → Nat → Nat
  | 0, e => e
  | d + 1, e => if e < n ∧ zkdo (B e) = k then zrud B n k d (e + 1) else e
/-- where a run of one kind ends -/
def zru (B : Int → Int) (n : Nat) (k : Int) (e : Nat) : Nat := zrud B n k (n - e) e
theorem zfr_1 {B : Int → Int} {n e : Nat} (h : e < n ∧ (B e = 10 ∨ B e = 32)) : zfr B n e = zfr B n (e + 1) := by
  unfold zfr
  rw [show n - e = (n - (e + 1)) + 1 from by omega]
  show (if _ then _ else _) = _
  rw [if_pos h]
theorem zfr_0 {B : Int → Int} {n e : Nat} (h : ¬ (e < n ∧ (B e = 10 ∨ B e = 32))) : zfr B n e = e := by
  unfold zfr
  cases n - e with
  | zero => rfl
  | succ d =>
    show (if _ then _ else _) = _
    rw [if_neg h]
theorem zru_1 {B : Int → Int} {n e : Nat} {k : Int} (h : e < n ∧ zkdo (B e) = k) : zru B n k e = zru B n k (e + 1) := by
  unfold zru
  rw [show n - e = (n - (e + 1)) + 1 from by omega]
  show (if _ then _ else _) = _
  rw [if_pos h]
theorem zru_0 {B : Int → Int} {n e : Nat} {k : Int} (h : ¬ (e < n ∧ zkdo (B e) = k)) : zru B n k e = e := by
  unfold zru
  cases n - e with
  | zero => rfl
  | succ d =>
    show (if _ then _ else _) = _
    rw [if_neg h]
theorem zspd_ind {B : Int → Int} {n : Nat} : ∀ (d e : Nat), n - e ≤ d → e ≤ zfr B n e ∧ (e ≤ n → zfr B n e ≤ n) ∧ zfr B n (zfr B n e) = zfr B n e ∧ (∀ a, e ≤ a → a ≤ zfr B n e → zfr B n a = zfr B n e) ∧ (zfr B n e < n → ¬ (B (zfr B n e) = 10 ∨ B (zfr B n e) = 32)) ∧ (∀ a : Nat, e ≤ a → a < zfr B n e → B a = 10 ∨ B a = 32)
  | 0, e, h => by
    have e0 : zfr B n e = e := zfr_0 (by omega)
    rw [e0]
    exact ⟨Nat.le_refl _, fun x => x, e0, fun a b c => by rw [show a = e from by omega]; exact e0, fun x => by omega, fun a b c => by omega⟩
  | d + 1, e, h => by
    by_cases c : e < n ∧ (B e = 10 ∨ B e = 32)
    · have ih := zspd_ind (B := B) (n := n) d (e + 1) (by omega)
      have e1 := zfr_1 c
      rw [e1]
      refine ⟨by omega, fun _ => ih.2.1 (by omega), ih.2.2.1, fun a x y => ?_, ih.2.2.2.2.1, fun a x y => ?_⟩
      · by_cases z : a = e
        · rw [z]; exact e1
        · exact ih.2.2.2.1 a (by omega) y
      · by_cases z : a = e
        · rw [z]; exact c.2
        · exact ih.2.2.2.2.2 a (by omega) y
    · have e0 := zfr_0 c
      rw [e0]
      exact ⟨Nat.le_refl _, fun x => x, e0, fun a b c => by rw [show a = e from by omega]; exact e0, fun x y => c ⟨x, y⟩, fun a b c => by omega⟩
theorem zfr_le (B : Int → Int) (n e : Nat) : e ≤ zfr B n e := (zspd_ind (n - e) e (Nat.le_refl _)).1
theorem zfr_n {B : Int → Int} {n e : Nat} (h : e ≤ n) : zfr B n e ≤ n := (zspd_ind (n - e) e (Nat.le_refl _)).2.1 h
theorem zfr_idem (B : Int → Int) (n e : Nat) : zfr B n (zfr B n e) = zfr B n e := (zspd_ind (n - e) e (Nat.le_refl _)).2.2.1
theorem zfr_mid {B : Int → Int} {n e a : Nat} (h1 : e ≤ a) (h2 : a ≤ zfr B n e) : zfr B n a = zfr B n e := (zspd_ind (n - e) e (Nat.le_refl _)).2.2.2.1 a h1 h2
theorem zfr_nb {B : Int → Int} {n e : Nat} (h : zfr B n e < n) : ¬ (B (zfr B n e) = 10 ∨ B (zfr B n e) = 32) := (zspd_ind (n - e) e (Nat.le_refl _)).2.2.2.2.1 h
theorem zrud_ind {B : Int → Int} {n : Nat} {k : Int} : ∀ (d e : Nat), n - e ≤ d → e ≤ zru B n k e ∧ (e ≤ n → zru B n k e ≤ n) ∧ (∀ a : Nat, e ≤ a → a < zru B n k e → zkdo (B a) = k) ∧ (∀ a : Nat, e ≤ a → a ≤ zru B n k e → zru B n k a = zru B n k e) ∧ (zru B n k e < n → zkdo (B (zru B n k e)) ≠ k)
  | 0, e, h => by
    have e0 : zru B n k e = e := zru_0 (by omega)
    rw [e0]
    exact ⟨Nat.le_refl _, fun x => x, fun a b c => by omega, fun a b c => by rw [show a = e from by omega]; exact e0, fun x => by omega⟩
  | d + 1, e, h => by
    by_cases c : e < n ∧ zkdo (B e) = k
    · have ih := zrud_ind (B := B) (n := n) (k := k) d (e + 1) (by omega)
      have e1 := zru_1 c
      rw [e1]
      refine ⟨by omega, fun _ => ih.2.1 (by omega), fun a x y => ?_, fun a x y => ?_, ih.2.2.2.2⟩
      · by_cases z : a = e
        · rw [z]; exact c.2
        · exact ih.2.2.1 a (by omega) y
      · by_cases z : a = e
        · rw [z]; exact e1
        · exact ih.2.2.2.1 a (by omega) y
    · have e0 := zru_0 c
      rw [e0]
      exact ⟨Nat.le_refl _, fun x => x, fun a b c => by omega, fun a b c => by rw [show a = e from by omega]; exact e0, fun x y => c ⟨x, y⟩⟩
theorem zru_le (B : Int → Int) (n : Nat) (k : Int) (e : Nat) : e ≤ zru B n k e := (zrud_ind (n - e) e (Nat.le_refl _)).1
theorem zru_n {B : Int → Int} {n e : Nat} {k : Int} (h : e ≤ n) : zru B n k e ≤ n := (zrud_ind (n - e) e (Nat.le_refl _)).2.1 h
theorem zru_k {B : Int → Int} {n e a : Nat} {k : Int} (h1 : e ≤ a) (h2 : a < zru B n k e) : zkdo (B a) = k := (zrud_ind (n - e) e (Nat.le_refl _)).2.2.1 a h1 h2
theorem zru_mid {B : Int → Int} {n e a : Nat} {k : Int} (h1 : e ≤ a) (h2 : a ≤ zru B n k e) : zru B n k a = zru B n k e := (zrud_ind (n - e) e (Nat.le_refl _)).2.2.2.1 a h1 h2
theorem zru_out {B : Int → Int} {n e : Nat} {k : Int} (h : zru B n k e < n) : zkdo (B (zru B n k e)) ≠ k := (zrud_ind (n - e) e (Nat.le_refl _)).2.2.2.2 h
/-- the kind of what stands next: 0 the end, 1 a word, 2 a number, 3 a sign -/
def zrk (B : Int → Int) (n e : Nat) : Int := if zfr B n e < n then zkdo (B (zfr B n e)) else 0
/-- right behind a word or a number -/
def zgl (B : Int → Int) (n e : Nat) : Prop := zfr B n e = e ∧ 0 < e ∧ zkdo (B ((e : Int) - 1)) ≠ 3 ∧ (zrk B n e = 1 ∨ zrk B n e = 2)
/-- 4: a word or number where none fits -/
def zkd (B : Int → Int) (n e : Nat) : Int := if zfr B n e = e ∧ 0 < e ∧ zkdo (B ((e : Int) - 1)) ≠ 3 ∧ (zrk B n e = 1 ∨ zrk B n e = 2) then 4 else zrk B n e
/-- where it ends -/
def zto (B : Int → Int) (n e : Nat) : Nat := if zrk B n e = 0 then zfr B n e else if zrk B n e = 3 then zfr B n e + 1 else zru B n (zrk B n e) (zfr B n e + 1)
theorem zkdo_v (x : Int) : zkdo x = 1 ∨ zkdo x = 2 ∨ zkdo x = 3 := by
  unfold zkdo
  split
  · split
    · simp
    · split <;> simp
  · split
    · split
      · simp
      · split <;> simp
    · simp
theorem zkdo_1 {x : Int} : zkdo x = 1 ↔ 97 ≤ x ∧ x ≤ 122 := by
  unfold zkdo
  by_cases a : x < 97
  · rw [if_pos a]
    constructor
    · intro h; split at h
      · omega
      · split at h <;> omega
    · intro h; omega
  · rw [if_neg a]
    by_cases b : 122 < x
    · rw [if_pos b]
      constructor
      · intro h; split at h
        · omega
        · split at h <;> omega
      · intro h; omega
    · rw [if_neg b]
      constructor
      · intro _; omega
      · intro _; rfl
theorem zkdo_2 {x : Int} : zkdo x = 2 ↔ 48 ≤ x ∧ x ≤ 57 := by
  unfold zkdo
  constructor
  · intro h
    split at h
    · split at h
      · omega
      · split at h <;> omega
    · split at h
      · split at h
        · omega
        · split at h <;> omega
      · omega
  · intro h
    rw [if_pos (by omega), if_neg (by omega), if_neg (by omega)]
theorem zrk_v (B : Int → Int) (n e : Nat) : zrk B n e = 0 ∨ zrk B n e = 1 ∨ zrk B n e = 2 ∨ zrk B n e = 3 := by
  unfold zrk
  split
  · have := zkdo_v (B (zfr B n e)); omega
  · simp
theorem zrk_lt {B : Int → Int} {n e : Nat} (h : zrk B n e ≠ 0) : zfr B n e < n := by
  unfold zrk at h
  split at h
  · assumption
  · exact absurd rfl h
theorem zto_b {B : Int → Int} {n e : Nat} (he : e ≤ n) : zfr B n e ≤ zto B n e ∧ zto B n e ≤ n ∧ (zrk B n e ≠ 0 → zfr B n e < zto B n e) := by
  have h1 := zfr_n (B := B) he
  unfold zto
  by_cases a : zrk B n e = 0
  · rw [if_pos a]; omega
  · rw [if_neg a]
    have hl := zrk_lt a
    by_cases b : zrk B n e = 3
    · rw [if_pos b]; omega
    · rw [if_neg b]
      have := zru_le B n (zrk B n e) (zfr B n e + 1)
      have := zru_n (B := B) (k := zrk B n e) (show zfr B n e + 1 ≤ n by omega)
      omega
/-- a word, a sign that stands next -/
def zwrd (B : Int → Int) (n e : Nat) (w : List Int) : Bool := decide (zkd B n e = 1 ∧ zto B n e = zfr B n e + w.length ∧ ∀ j, j < w.length → B ((zfr B n e + j : Nat) : Int) = w.getD j 0)
def zsg (B : Int → Int) (n e : Nat) (x : Int) : Bool := decide (zkd B n e = 3 ∧ B (zfr B n e) = x)
theorem zkd_v (B : Int → Int) (n e : Nat) : zkd B n e = 0 ∨ zkd B n e = 1 ∨ zkd B n e = 2 ∨ zkd B n e = 3 ∨ zkd B n e = 4 := by
  have := zrk_v B n e
  unfold zkd
  split <;> omega
theorem zkd_rk {B : Int → Int} {n e : Nat} (h : zkd B n e ≠ 4) : zkd B n e = zrk B n e := by
  unfold zkd at h ⊢
  split at h
  · exact absurd rfl h
  · rename_i g; rw [if_neg g]
theorem zwrd_k {B : Int → Int} {n e : Nat} {w : List Int} (h : zwrd B n e w = true) : zkd B n e = 1 ∧ zrk B n e = 1 := by
  unfold zwrd at h
  have := (of_decide_eq_true h).1
  exact ⟨this, by rw [← zkd_rk (by omega)]; exact this⟩
theorem zsg_k {B : Int → Int} {n e : Nat} {x : Int} (h : zsg B n e x = true) : zkd B n e = 3 ∧ zrk B n e = 3 ∧ B (zfr B n e) = x := by
  unfold zsg at h
  have := of_decide_eq_true h
  exact ⟨this.1, by rw [← zkd_rk (by omega)]; exact this.1, this.2⟩
/-- what the class's constant text i, the Model's row o tell -/
def zWs (i : Nat) (w : List Int) : Prop := i < zstr.length ∧ zsl i = w.length ∧ ∀ j, j < w.length → zsb i j = w.getD j 0
def zWo (o : Int) (w : List Int) : Prop := (zK o).1 = 102 ∧ (zK o).2 = w.length ∧ ∀ j, j < w.length → zFn o (j : Int) = w.getD j 0
