/-! Sets of columns as bits. -/
def zbn (s : Nat) : Nat := s % 2 + s / 2 % 2 + s / 4 % 2 + s / 8 % 2 + s / 16 % 2 + s / 32 % 2 + s / 64 % 2 + s / 128 % 2
theorem zbn_le (s : Nat) : zbn s ≤ 8 := by unfold zbn; omega
theorem zbt_n {s : Nat} (hs : s < 256) {c : Int} (c0 : 0 ≤ c) (c8 : c < 8) : zbt (s : Int) c = ((s / 2 ^ c.toNat % 2 : Nat) : Int) := by
  have h := zbt_f ⟨s, hs⟩ ⟨c.toNat, by omega⟩
  simp only at h
  rw [Int.toNat_of_nonneg c0] at h
  exact h
theorem zshl_f : ∀ n : Fin 9, zshl 1 ((n.val : Nat) : Int) = ((2 ^ n.val : Nat) : Int) := by decide +kernel
theorem zshl_n {n : Int} (n0 : 0 ≤ n) (n8 : n ≤ 8) : zshl 1 n = ((2 ^ n.toNat : Nat) : Int) := by
  have h := zshl_f ⟨n.toNat, by omega⟩
  simp only at h
  rw [Int.toNat_of_nonneg n0] at h
  exact h
theorem zdec_f : ∀ s : Fin 256, s.val ≠ 0 → 0 ≤ zand ((s.val : Nat) : Int) ((s.val : Nat) - 1 : Int) ∧ zand ((s.val : Nat) : Int) ((s.val : Nat) - 1 : Int) < (s.val : Nat) ∧ zbn (zand ((s.val : Nat) : Int) ((s.val : Nat) - 1 : Int)).toNat + 1 = zbn s.val := by decide +kernel
theorem zbit_f : ∀ (s : Fin 256) (c : Fin 8), s.val / 2 ^ c.val % 2 = 1 → 2 ^ c.val ≤ s.val ∧ zbn (s.val - 2 ^ c.val) + 1 = zbn s.val ∧ ∀ d : Fin 8, (s.val - 2 ^ c.val) / 2 ^ d.val % 2 = if d = c then 0 else s.val / 2 ^ d.val % 2 := by decide +kernel
theorem zpop_f : ∀ s : Fin 256, zbn s.val = 0 → s.val = 0 := by decide +kernel
theorem m_bitsL {G : zG} {h sl : Nat} (hsl : 2 ≤ sl) {M : zM} {Q : Int → zM → Prop} :
    ∀ (d : Nat) (s : Nat) (a : Int) {u : Nat × Nat × Nat × Nat}, s < 256 → zbn s = d → 0 ≤ a → a + (d : Int) ≤ 100 → Q (a + d) M → zX G (y_Md_bits, h, sl) u 4 [(1, (0, a)), (2, (0, (s : Int)))] [] M Q
  | 0, s, a, u, hs, hd, a0, a1, q => by
    have : s = 0 := zpop_f ⟨s, hs⟩ hd
    subst this
    refine B_Md_bits_4 hsl ⟨fun _ => ?_, fun g => absurd rfl g⟩
    have : a + ((0 : Nat) : Int) = a := by omega
    rw [this] at q
    exact q
  | d + 1, s, a, u, hs, hd, a0, a1, q => by
    have h0 : s ≠ 0 := by rintro rfl; simp [zbn] at hd
    obtain ⟨e1, e2, e3⟩ := zdec_f ⟨s, hs⟩ h0
    simp only at e1 e2 e3
    have hb := zbn_le s
    refine B_Md_bits_4 hsl ⟨fun g => absurd g (by omega), fun _ => ⟨by unfold zI; omega, by unfold zI; omega, ?_⟩⟩
    have := m_bitsL (G := G) (h := h) (Q := Q) hsl d (zand (s : Int) ((s : Int) - 1)).toNat (a + 1) (u := u) (by omega) (by omega) (by omega) (by omega) (by
      rw [show a + 1 + (d : Int) = a + ((d + 1 : Nat) : Int) from by omega]; exact q)
    rw [Int.toNat_of_nonneg e1] at this
    exact this
theorem m_bits {G : zG} {h sl : Nat} (hsl : 2 ≤ sl) {s : Nat} {M : zM} {Q : Int → zM → Prop} (hs : s < 256) (q : Q (zbn s : Nat) M) : zCt G h sl 0 0 y_Md_bits [(0, (s : Int))] M Q :=
  E_Md_bits hsl (m_bitsL hsl (zbn s) s 0 hs rfl (by decide) (by have := zbn_le s; omega) (by rw [Int.zero_add]; exact q))
def zIb (x : Int) : Bool := decide (-2147483648 ≤ x ∧ x ≤ 2147483647)
def zbq (x : Int) : Int × Bool :=
  let a := x - zand (zushr x 1) 1431655765
  let b := zand a 858993459 + zand (zushr a 2) 858993459
  let c := zand (b + zushr b 4) 252645135
  let d := c + zushr c 8
  (zand (d + zushr d 16) 63, zIb a && zIb b && zIb (b + zushr b 4) && zIb d && zIb (d + zushr d 16))
theorem zbq_f : ∀ s : Fin 256, zbq ((s.val : Nat) : Int) = (((zbn s.val : Nat) : Int), true) := by decide +kernel
theorem c_bits {G : zG} {h sl : Nat} (hsl : 1 ≤ sl) {s : Nat} {M : zM} {Q : Int → zM → Prop} (hs : s < 256) (q : Q (zbn s : Nat) M) : zCt G h sl 0 0 y_Ji_bitCount [(0, (s : Int))] M Q := by
  have e := zbq_f ⟨s, hs⟩
  simp only at e
  have e1 := congrArg Prod.fst e
  have e2 := congrArg Prod.snd e
  simp only [zbq, Bool.and_eq_true, zIb, decide_eq_true_eq] at e1 e2
  obtain ⟨⟨⟨⟨z1, z2⟩, z3⟩, z4⟩, z5⟩ := e2
  rw [← e1] at q
  exact E_Ji_bitCount hsl ⟨z1, z2, z3, z4, z5, q⟩
theorem zand_not {u v : Nat} (hu : u < 256) (hv : v < 256) : zand (u : Int) (zxor (v : Int) (-1)) = 0 ↔ ∀ d : Nat, d < 8 → u / 2 ^ d % 2 = 1 → v / 2 ^ d % 2 = 1 := by
  have ex : ∀ w : Fin 256, zxor ((w.val : Nat) : Int) (-1) = -1 - ((w.val : Nat) : Int) := by decide +kernel
  have e1 := ex ⟨v, hv⟩
  simp only at e1
  rw [e1]
  have e2 : ∀ a : Nat, a < 2147483648 → (Int32.ofInt (a : Int)).toBitVec.toNat = a := fun a ha => by
    show (BitVec.ofInt 32 (a : Int)).toNat = a
    rw [BitVec.toNat_ofInt]
    omega
  have e3 : (Int32.ofInt (-1 - (v : Int))).toBitVec.toNat = 2 ^ 32 - (v + 1) := by
    show (BitVec.ofInt 32 (-1 - (v : Int))).toNat = _
    rw [BitVec.toNat_ofInt]
    omega
  have e4 : zand (u : Int) (-1 - (v : Int)) = 0 ↔ u &&& (2 ^ 32 - (v + 1)) = 0 := by
    unfold zand
    show (Int32.ofInt (u : Int) &&& Int32.ofInt (-1 - (v : Int))).toBitVec.toInt = 0 ↔ _
    rw [Int32.toBitVec_and]
    have h : ((Int32.ofInt (u : Int)).toBitVec &&& (Int32.ofInt (-1 - (v : Int))).toBitVec).toNat = u &&& (2 ^ 32 - (v + 1)) := by
      rw [BitVec.toNat_and, e2 u (by omega), e3]
    have hle : u &&& (2 ^ 32 - (v + 1)) ≤ u := Nat.and_le_left
    rw [BitVec.toInt_eq_toNat_of_lt (by omega), h]
    omega
  rw [e4]
  constructor
  · intro g d hd hb
    have := congrArg (fun x => Nat.testBit x d) g
    simp only [Nat.testBit_and, Nat.testBit_two_pow_sub_succ (show v < 2 ^ 32 from by omega), Nat.zero_testBit] at this
    rw [Nat.testBit_eq_decide_div_mod_eq, Nat.testBit_eq_decide_div_mod_eq, decide_eq_true hb, decide_eq_true (show d < 32 from by omega)] at this
    simpa using this
  · intro g
    apply Nat.eq_of_testBit_eq
    intro d
    rw [Nat.testBit_and, Nat.testBit_two_pow_sub_succ (show v < 2 ^ 32 from by omega), Nat.zero_testBit]
    by_cases hd : d < 8
    · by_cases hb : u / 2 ^ d % 2 = 1
      · have := g d hd hb
        rw [Nat.testBit_eq_decide_div_mod_eq, Nat.testBit_eq_decide_div_mod_eq, decide_eq_true this]
        simp
      · rw [Nat.testBit_eq_decide_div_mod_eq, decide_eq_false hb]
        simp
    · have : u / 2 ^ d = 0 := by
        apply Nat.div_eq_of_lt
        have : 2 ^ 8 ≤ 2 ^ d := Nat.pow_le_pow_right (by decide) (by omega)
        omega
      rw [Nat.testBit_eq_decide_div_mod_eq, this]
      simp
/-- the first of the fewest bits, of the sets below k -/
def zsc (p : Nat → Bool) : Nat → Int × Int
  | 0 => (-1, 9)
  | k + 1 => if p k = true ∧ (zbn k : Int) < (zsc p k).2 then ((k : Int), (zbn k : Int)) else zsc p k
theorem zsc_in (p : Nat → Bool) : ∀ k, (zsc p k).1 = -1 ∧ (zsc p k).2 = 9 ∨ ∃ s : Nat, s < k ∧ (zsc p k).1 = s ∧ (zsc p k).2 = zbn s
  | 0 => Or.inl ⟨rfl, rfl⟩
  | k + 1 => by
    unfold zsc
    split
    · exact Or.inr ⟨k, by omega, rfl, rfl⟩
    · rcases zsc_in p k with h | ⟨s, h1, h2⟩
      · exact Or.inl h
      · exact Or.inr ⟨s, by omega, h2⟩
theorem zsc_min (p : Nat → Bool) : ∀ (k s : Nat), s < k → p s = true → (zsc p k).2 ≤ (zbn s : Int)
  | 0, s, h, _ => absurd h (by omega)
  | k + 1, s, h, hp => by
    unfold zsc
    by_cases c : s = k
    · subst c
      split
      · simp
      · rename_i g
        have : ¬ (zbn s : Int) < (zsc p s).2 := fun x => g ⟨hp, x⟩
        omega
    · have := zsc_min p k s (by omega) hp
      split
      · rename_i g
        have := g.2
        simp only
        omega
      · exact this
theorem zsc_eq {p p' : Nat → Bool} : ∀ (k : Nat), (∀ s, s < k → p s = true → p' s = true) → (∀ s, s < k → p' s = true → p s ≠ true → ∃ r, r < s ∧ p' r = true ∧ zbn r < zbn s) → zsc p k = zsc p' k
  | 0, _, _ => rfl
  | k + 1, h1, h2 => by
    have ih := zsc_eq k (fun s hs => h1 s (by omega)) (fun s hs => h2 s (by omega))
    unfold zsc
    rw [ih]
    by_cases c : p k = true
    · have := h1 k (by omega) c
      simp only [c, this]
    · by_cases c' : p' k = true
      · obtain ⟨r, r1, r2, r3⟩ := h2 k (by omega) c' c
        have := zsc_min p' k r r1 r2
        rw [if_neg (fun x => c x.1), if_neg (fun x => by omega)]
      · rw [if_neg (fun x => c x.1), if_neg (fun x => c' x.1)]
