/-! THE MODEL: names as numbers. -/
def zn27 (f : Nat → Int) : Nat → Int
  | 0 => 0
  | k + 1 => 27 * zn27 f k + f k
/-- the letters of a name, its number -/
def zNm1 (T : zTb) (c v : Int) : Prop := ∃ m : Nat, (1 ≤ m ∧ m ≤ 6) ∧ (∀ k : Nat, k < m → 1 ≤ T.1 c (10 + k) ∧ T.1 c (10 + k) ≤ 26) ∧ (∀ k : Int, (m : Int) ≤ k → k < 6 → T.1 c (10 + k) = 0) ∧ v = zn27 (fun k => T.1 c (10 + (k : Int))) m
def zNm (T : zTb) (M : zM) : Prop := ∀ c, 0 ≤ c → c < T.1 8 0 → zNm1 T c (M 159 (8 + c))
theorem zn27_in {f : Nat → Int} {m : Nat} (hf : ∀ k, k < m → 1 ≤ f k ∧ f k ≤ 26) : ∀ k, k ≤ m → 0 ≤ zn27 f k ∧ (1 ≤ k → 1 ≤ zn27 f k) ∧ zn27 f k < 27 ^ k
  | 0, _ => by simp [zn27]
  | k + 1, h => by
    have ih := zn27_in hf k (by omega)
    have hk := hf k (by omega)
    unfold zn27
    rw [Int.pow_succ]
    omega
theorem zn27_div {f : Nat → Int} {m k : Nat} (hf : ∀ k, k < m → 1 ≤ f k ∧ f k ≤ 26) (hk : k + 1 ≤ m) : Int.tdiv (zn27 f (k + 1)) 27 = zn27 f k ∧ Int.tmod (zn27 f (k + 1)) 27 = f k := by
  have h1 := (zn27_in hf (k + 1) hk).1
  have h2 := hf k (by omega)
  rw [Int.tdiv_eq_ediv_of_nonneg h1, Int.tmod_eq_emod_of_nonneg h1, show zn27 f (k + 1) = 27 * zn27 f k + f k from rfl]
  omega
theorem zn27_b {f : Nat → Int} {m k : Nat} (hf : ∀ k, k < m → 1 ≤ f k ∧ f k ≤ 26) (hk : k ≤ m) (h6 : m ≤ 6) : 0 ≤ zn27 f k ∧ zn27 f k < 387420489 := by
  have h := zn27_in hf k hk
  have e := h.2.2
  refine ⟨h.1, ?_⟩
  rcases (by omega : k = 0 ∨ k = 1 ∨ k = 2 ∨ k = 3 ∨ k = 4 ∨ k = 5 ∨ k = 6) with rfl | rfl | rfl | rfl | rfl | rfl | rfl
  all_goals (simp only [Int.reducePow] at e; omega)
theorem m_letterB {G : zG} {h sl : Nat} (hsl : 2 ≤ sl) {f : Nat → Int} {m k : Nat} {M : zM} {Q : Int → zM → Prop} (hf : ∀ k, k < m → 1 ≤ f k ∧ f k ≤ 26) (h6 : m ≤ 6) (hk : k < m) (q : Q (f k) M) :
    ∀ (d j : Nat) {u : Nat × Nat × Nat × Nat}, j = d + k → j < m → zX G (y_Md_letter, h + 1, sl) u 74 [(2, (0, (k : Int))), (3, (1, zn27 f (j + 1))), (6, (0, (j : Int)))] [] M Q
  | 0, j, u, e, hj => by
    have h1 := hf k hk
    refine B_Md_letter_74 hsl ⟨fun _ => ?_, fun g => absurd (by omega) g⟩
    rw [(zn27_div hf (k := j) (by omega)).2, show j = k from by omega, zl2i_in (by unfold zI; omega)]
    exact q
  | d + 1, j, u, e, hj => by
    obtain ⟨i, rfl⟩ : ∃ i, j = i + 1 := ⟨j - 1, by omega⟩
    have hb := zn27_b hf (k := i + 1) (by omega) h6
    refine B_Md_letter_74 hsl ⟨fun g => absurd g (by omega), fun _ => ?_⟩
    rw [(zn27_div hf (k := i + 1) (by omega)).1]
    refine ⟨by unfold zL; omega, by unfold zI; omega, ?_⟩
    have := m_letterB (G := G) (h := h) (Q := Q) hsl hf h6 hk q d i (u := u) (by omega) (by omega)
    rw [show ((i + 1 : Nat) : Int) + -1 = i from by omega]
    exact this
theorem m_letterA {G : zG} {h sl : Nat} (hsl : 2 ≤ sl) {f : Nat → Int} {m : Nat} {k : Int} {M : zM} {Q : Int → zM → Prop} (hf : ∀ k, k < m → 1 ≤ f k ∧ f k ≤ 26) (h6 : m ≤ 6) (k0 : 0 ≤ k) (q1 : k < m → Q (f k.toNat) M) (q0 : ¬ k < m → Q 0 M) :
    ∀ (d j : Nat) {u : Nat × Nat × Nat × Nat}, d + j = m → zX G (y_Md_letter, h + 1, sl) u 39 [(2, (0, k)), (3, (1, zn27 f m)), (5, (0, (j : Int))), (6, (1, zn27 f d))] [] M Q
  | 0, j, u, e => by
    refine B_Md_letter_39 hsl ⟨fun _ => ⟨fun g => ⟨by unfold zI; omega, ?_⟩, fun g => q0 (by omega)⟩, fun g => absurd (by simp [zn27]) g⟩
    obtain ⟨i, rfl⟩ : ∃ i, m = i + 1 := ⟨m - 1, by omega⟩
    have := m_letterB (G := G) (h := h) (k := k.toNat) hsl hf h6 (by omega) (q1 (by omega)) (i - k.toNat) i (u := u) (by omega) (by omega)
    rw [show ((k.toNat : Nat) : Int) = k from by omega] at this
    rw [show (j : Int) - 1 = (i : Int) from by omega]
    exact this
  | d + 1, j, u, e => by
    have hb := zn27_in hf (d + 1) (by omega)
    have hb2 := zn27_b hf (k := d) (by omega) h6
    refine B_Md_letter_39 hsl ⟨fun g => absurd g (by omega), fun _ => ?_⟩
    rw [(zn27_div hf (k := d) (by omega)).1]
    refine ⟨by unfold zI; omega, by unfold zL; omega, ?_⟩
    have := m_letterA (G := G) (h := h) hsl hf h6 k0 q1 q0 d (j + 1) (u := u) (by omega)
    rw [zcs] at this
    exact this
theorem m_letter {G : zG} {h sl : Nat} (hsl : 2 ≤ sl) {T : zTb} {c k : Int} {M : zM} {Q : Int → zM → Prop} (hT : zTok T) (hm : zTm T M) (hn : zNm T M) (q : Q (zlet T c k) M) : zCt G (h + 2) sl 0 0 y_Md_letter [(2, 125), (0, c), (0, k)] M Q := by
  have h8 := hT.2.1
  unfold zlet at q
  refine E_Md_letter hsl (c_isColM hsl hT hm (fun a b => ⟨fun g => absurd g (by decide), fun _ => c_isIn hsl (fun a1 b1 => ⟨fun _ => ⟨by unfold zI; omega, by omega, ?_⟩, fun g => absurd (by decide) g⟩) (fun g => ⟨fun g2 => absurd rfl g2, fun _ => ?_⟩)⟩) (fun g => ⟨fun _ => ?_, fun g2 => absurd rfl g2⟩))
  · rw [if_pos ⟨⟨a, b⟩, a1, by omega⟩] at q
    obtain ⟨m, ⟨m1, m6⟩, hf, hz, hv⟩ := hn c a b
    rw [hv]
    refine m_letterA (h := h + 1) (f := fun k => T.1 c (10 + (k : Int))) hsl hf m6 a1 (fun g => ?_) (fun g => ?_) m 0 (by omega)
    · show Q (T.1 c (10 + ((k.toNat : Nat) : Int))) M
      rw [show ((k.toNat : Nat) : Int) = k from by omega]
      exact q
    · rw [hz k (by omega) (by omega)] at q
      exact q
  · rw [if_neg (by omega)] at q; exact q
  · rw [if_neg (by omega)] at q; exact q
