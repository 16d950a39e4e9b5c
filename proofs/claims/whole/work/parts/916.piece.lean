/-! Broken pieces: pure. -/
def zaq (p : Nat → Bool) : Nat → Nat → Bool
  | 0, _ => true
  | d + 1, k => if p k = true then zaq p d (k + 1) else false
theorem zaq_iff {p : Nat → Bool} : ∀ {d k : Nat}, zaq p d k = true ↔ ∀ i, k ≤ i → i < k + d → p i = true
  | 0, k => ⟨fun _ i a b => absurd b (by omega), fun _ => rfl⟩
  | d + 1, k => by
    unfold zaq
    by_cases c : p k = true
    · rw [if_pos c, zaq_iff]
      exact ⟨fun h i a b => by by_cases e : i = k; exact e ▸ c; exact h i (by omega) (by omega), fun h i a b => h i (by omega) (by omega)⟩
    · rw [if_neg c]
      exact ⟨(fun h => by cases h), fun h => absurd (h k (by omega) (by omega)) c⟩
theorem zaq_yes {p : Nat → Bool} {d k : Nat} (h : p k = true) : zaq p (d + 1) k = zaq p d (k + 1) := by
  show (if _ then _ else _) = _
  rw [if_pos h]
theorem zaq_no {p : Nat → Bool} {d k : Nat} (h : ¬ p k = true) : zaq p (d + 1) k = false := by
  show (if _ then _ else _) = _
  rw [if_neg h]
/-- how many below n -/
def zct (p : Nat → Bool) : Nat → Nat
  | 0 => 0
  | n + 1 => zct p n + (if p n = true then 1 else 0)
theorem zct_yes {p : Nat → Bool} {n : Nat} (h : p n = true) : zct p (n + 1) = zct p n + 1 := by
  show zct p n + _ = _
  rw [if_pos h]
theorem zct_no {p : Nat → Bool} {n : Nat} (h : ¬ p n = true) : zct p (n + 1) = zct p n := by
  show zct p n + _ = _
  rw [if_neg h]; rfl
theorem zct_le (p : Nat → Bool) : ∀ n, zct p n ≤ n
  | 0 => Nat.le_refl 0
  | n + 1 => by
    have := zct_le p n
    unfold zct
    split <;> omega
/-- the k-th below n, as f tells it -/
def zkh (p : Nat → Bool) (f : Nat → Int) (k : Int) : Nat → Int
  | 0 => -1
  | n + 1 => if p n = true ∧ (zct p n : Int) = k then f n else zkh p f k n
theorem zkh_yes {p : Nat → Bool} {f : Nat → Int} {k : Int} {n : Nat} (h : p n = true) (h2 : (zct p n : Int) = k) : zkh p f k (n + 1) = f n := by
  show (if _ then _ else _) = _
  rw [if_pos ⟨h, h2⟩]
theorem zkh_no {p : Nat → Bool} {f : Nat → Int} {k : Int} {n : Nat} (h : ¬ (p n = true ∧ (zct p n : Int) = k)) : zkh p f k (n + 1) = zkh p f k n := by
  show (if _ then _ else _) = _
  rw [if_neg h]
theorem zkh_out {p : Nat → Bool} {f : Nat → Int} {k : Int} : ∀ {n : Nat}, k < 0 ∨ (zct p n : Int) ≤ k → zkh p f k n = -1
  | 0, _ => rfl
  | n + 1, h => by
    have hs : zct p (n + 1) = zct p n + (if p n = true then 1 else 0) := rfl
    rw [hs] at h
    by_cases c : p n = true
    · rw [if_pos c] at h
      rw [zkh_no (fun x => by have := x.2; omega), zkh_out (by omega)]
    · rw [if_neg c] at h
      rw [zkh_no (fun x => c x.1), zkh_out (by omega)]
theorem zkh_more {p : Nat → Bool} {f : Nat → Int} {k : Int} {m : Nat} (h : k < (zct p m : Int)) : ∀ d : Nat, zkh p f k (m + d) = zkh p f k m ∧ (zct p m : Int) ≤ zct p (m + d)
  | 0 => ⟨rfl, Int.le_refl _⟩
  | d + 1 => by
    obtain ⟨ih, ih2⟩ := zkh_more (f := f) h d
    refine ⟨?_, ?_⟩
    · rw [show m + (d + 1) = m + d + 1 from rfl, zkh_no (fun x => by have := x.2; omega)]
      exact ih
    · show _ ≤ ((zct p (m + d) + (if _ then _ else _) : Nat) : Int)
      split <;> omega
/-- the one that is the k-th, wherever the end -/
theorem zkh_is {p : Nat → Bool} {f : Nat → Int} {m N : Nat} (h : p m = true) (hm : m < N) : zkh p f (zct p m) N = f m := by
  have e : zct p (m + 1) = zct p m + 1 := zct_yes h
  have := (zkh_more (p := p) (f := f) (k := (zct p m : Int)) (m := m + 1) (by omega) (N - (m + 1))).1
  rw [show m + 1 + (N - (m + 1)) = N from by omega] at this
  rw [this, zkh_yes h rfl]
def zkth (p : Nat → Bool) (f : Nat → Int) (N : Nat) (k : Int) : Int := if k = -1 then (zct p N : Nat) else zkh p f k N
/-- of the lines below n that p holds of, how many have g = v; the most alike -/
def zlk (p : Nat → Bool) (g : Nat → Int) (v : Int) : Nat → Int
  | 0 => 0
  | n + 1 => zlk p g v n + (if p n = true ∧ g n = v then 1 else 0)
def zmx (p : Nat → Bool) (g : Nat → Int) : Nat → Int
  | 0 => 0
  | n + 1 => if p n = true ∧ zmx p g n < zlk p g (g n) n + 1 then zlk p g (g n) n + 1 else zmx p g n
theorem zlk_in (p : Nat → Bool) (g : Nat → Int) (v : Int) : ∀ n : Nat, 0 ≤ zlk p g v n ∧ zlk p g v n ≤ n
  | 0 => by simp [zlk]
  | n + 1 => by
    have := zlk_in p g v n
    unfold zlk
    split <;> omega
theorem zmx_in (p : Nat → Bool) (g : Nat → Int) : ∀ n : Nat, 0 ≤ zmx p g n ∧ zmx p g n ≤ n
  | 0 => by simp [zmx]
  | n + 1 => by
    have := zmx_in p g n
    have := zlk_in p g (g n) n
    unfold zmx
    split <;> omega
/-- rows found: their many, down, column, value of each -/
def zRw (T : zTb) (rm : Int) (rw : Int → Int) : Prop := (0 ≤ rm ∧ rm ≤ 12) ∧ ∀ k, 0 ≤ k → k < rm → (0 ≤ rw (3 * k) ∧ rw (3 * k) ≤ 30) ∧ (0 ≤ rw (3 * k + 1) ∧ rw (3 * k + 1) < T.1 8 0) ∧ T.1 (rw (3 * k + 1)) 0 ≠ 3 ∧ T.1 (rw (3 * k + 1)) 1 ≤ rw (3 * k + 2) ∧ rw (3 * k + 2) ≤ T.1 (rw (3 * k + 1)) 2
/-- the piece fits at a line -/
def zfp (T : zTb) (rm : Int) (rw : Int → Int) (line : Nat) : Bool := zaq (fun k => decide (ztr T (line + (rw (3 * k)).toNat) (1 + rw (3 * k + 1)) = rw (3 * k + 2))) rm.toNat 0
/-- with another difference of a zig -/
def zTd (T : zTb) (c d : Int) : zTb := (zwr T.1 c 5 d, T.2)
def zwf (T : zTb) (rm : Int) (rw : Int → Int) (line : Nat) : Bool := zaq (fun k => decide (rw (3 * k) = line → ztr T line (1 + rw (3 * k + 1)) = rw (3 * k + 2))) rm.toNat 0
def zwd0 (T : zTb) (rm : Int) (rw : Int → Int) : Bool := zaq (zwf T rm rw) 31 0
def zdp (T : zTb) (rm : Int) (rw : Int → Int) (c : Int) (i : Nat) : Bool := zwd0 (zTd T c ((i : Int) + 1)) rm rw
theorem zTd_ok {T : zTb} {c d : Int} (hT : zTok T) (c0 : 0 ≤ c) (cn : c < T.1 8 0) (h0 : T.1 c 0 = 0) (hd : 1 ≤ d ∧ d ≤ T.1 c 2 - T.1 c 1) : zTok (zTd T c d) ∧ (zTd T c d).1 8 0 = T.1 8 0 := by
  have h8 := hT.2.1
  have e8 : ∀ k, (zTd T c d).1 8 k = T.1 8 k := fun k => zwr_o _ (by omega)
  refine ⟨?_, e8 0⟩
  unfold zTok at hT ⊢
  rw [e8, e8, e8, e8]
  refine ⟨hT.1, hT.2.1, hT.2.2.1, hT.2.2.2.1, hT.2.2.2.2.1, hT.2.2.2.2.2.1, hT.2.2.2.2.2.2.1, fun e e0 en => ?_⟩
  have he := hT.2.2.2.2.2.2.2 e e0 en
  have ek : ∀ k, k ≠ 5 → (zTd T c d).1 e k = T.1 e k := fun k hk => zwr_k _ hk
  unfold zTok1 at he ⊢
  rw [ek 0 (by decide), ek 1 (by decide), ek 2 (by decide), ek 3 (by decide), ek 4 (by decide), ek 6 (by decide), ek 7 (by decide)]
  by_cases q : e = c
  · subst q
    have e5 : (zTd T e d).1 e 5 = d := zwr_s _ _ _ _
    rw [e5]
    refine Or.inl ⟨h0, ?_⟩
    rcases he with he | he | he | he <;> omega
  · have e5 : (zTd T c d).1 e 5 = T.1 e 5 := zwr_o _ q
    rw [e5]
    exact he
theorem zTd_bk {T : zTb} {c d : Int} : ∀ k : Nat, zbk (zTd T c d) k = zbk T k
  | 0 => rfl
  | k + 1 => by
    have ek : ∀ j, j ≠ 5 → (zTd T c d).1 (k : Int) j = T.1 (k : Int) j := fun j hj => zwr_k _ hj
    rw [zbk_s, zbk_s, zTd_bk k, ek 4 (by decide), ek 0 (by decide), ek 3 (by decide)]
    rfl
theorem zTd_bg {T : zTb} {c d : Int} (hT : zTok T) (cn : c < T.1 8 0) : zbg (zTd T c d) = zbg T := by
  have h8 := hT.2.1
  unfold zbg
  rw [show (zTd T c d).1 8 0 = T.1 8 0 from zwr_o _ (by omega)]
  exact zTd_bk _
theorem zTd_mv {T : zTb} {c d e : Int} {L : Int → Int} (h0 : T.1 c 0 = 0) : zmv (zTd T c d) L e = zmvd T L e (if e = c then d else T.1 e 5) := by
  have ek : ∀ j, j ≠ 5 → (zTd T c d).1 e j = T.1 e j := fun j hj => zwr_k _ hj
  by_cases q : e = c
  · subst q
    rw [if_pos rfl]
    have e5 : (zTd T e d).1 e 5 = d := zwr_s _ _ _ _
    unfold zmv zmvd
    rw [ek 0 (by decide), ek 1 (by decide), ek 2 (by decide), e5, if_pos h0, if_pos h0]
  · rw [if_neg q, zmvd_own]
    have e5 : (zTd T c d).1 e 5 = T.1 e 5 := zwr_o _ q
    unfold zmv
    rw [ek 0 (by decide), ek 1 (by decide), ek 2 (by decide), ek 6 (by decide), ek 7 (by decide), e5]
    rfl
theorem zTd_nk {T : zTb} {c d : Int} {L : Int → Int} (h0 : T.1 c 0 = 0) : ∀ k : Nat, znk (zTd T c d) L k = znkd T c d L k
  | 0 => rfl
  | k + 1 => by
    show zmv (zTd T c d) (znk (zTd T c d) L k) k = _
    rw [zTd_nk h0 k, zTd_mv h0]
    rfl
theorem zTd_nx {T : zTb} {c d : Int} {L : Int → Int} (hT : zTok T) (cn : c < T.1 8 0) (h0 : T.1 c 0 = 0) : znxd T c d L = znx (zTd T c d) L := by
  have h8 := hT.2.1
  unfold znx znxd
  rw [show (zTd T c d).1 8 0 = T.1 8 0 from zwr_o _ (by omega)]
  exact (zTd_nk h0 _).symm
/-- deepest enough -/
theorem zwd_deep {T : zTb} {rm : Int} {rw : Int → Int} {m : Nat} (hm : m ≤ 31) (h : ∀ k, 0 ≤ k → k < rm → rw (3 * k) < m) : zaq (zwf T rm rw) m 0 = zwd0 T rm rw := by
  unfold zwd0
  have : zaq (zwf T rm rw) m 0 = true ↔ zaq (zwf T rm rw) 31 0 = true := by
    rw [zaq_iff, zaq_iff]
    constructor
    · intro g i a b
      by_cases c : i < m
      · exact g i a (by omega)
      · unfold zwf
        rw [zaq_iff]
        intro k _ hk
        apply decide_eq_true
        intro e
        have := h k (by omega) (by omega)
        omega
    · intro g i a b
      exact g i a (by omega)
  cases h1 : zaq (zwf T rm rw) m 0 <;> cases h2 : zaq (zwf T rm rw) 31 0 <;> simp_all
