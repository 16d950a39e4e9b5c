/-! Ways as bits. -/
def zbt (u c : Int) : Int := zand (zshr u c) 1
theorem zand_N {m n : Nat} (hm : m < 2147483648) (hn : n < 2147483648) : zand (m : Int) (n : Int) = ((m &&& n : Nat) : Int) := by
  have h1 : m &&& n ≤ m := Nat.and_le_left
  unfold zand
  rw [← Int32.toInt_ofInt_of_le (n := ((m &&& n : Nat) : Int)) (by omega) (by omega)]
  congr 1
  apply Int32.toBitVec.inj
  rw [Int32.toBitVec_and]
  apply BitVec.eq_of_toNat_eq
  have e : ∀ a : Nat, a < 2147483648 → (Int32.ofInt (a : Int)).toBitVec.toNat = a := fun a ha => by
    show (BitVec.ofInt 32 (a : Int)).toNat = a
    rw [BitVec.toNat_ofInt]
    omega
  rw [BitVec.toNat_and, e m hm, e n hn, e _ (by omega)]
theorem zbt_f : ∀ (u : Fin 256) (c : Fin 8), zbt ((u.val : Nat) : Int) ((c.val : Nat) : Int) = ((u.val / 2 ^ c.val % 2 : Nat) : Int) := by decide +kernel
def zb1 (u c : Nat) : Nat := if u / 2 ^ c % 2 = 1 then u else u + 2 ^ c
def zb0 (u c : Nat) : Nat := if u / 2 ^ c % 2 = 1 then u - 2 ^ c else u
theorem zgo_1 : ∀ (u : Fin 256) (c : Fin 8), zor ((u.val : Nat) : Int) (zshl 1 ((c.val : Nat) : Int)) = ((zb1 u.val c.val : Nat) : Int) ∧ zb1 u.val c.val < 256 := by decide +kernel
theorem zgo_0 : ∀ (u : Fin 256) (c : Fin 8), zand ((u.val : Nat) : Int) (zxor (zshl 1 ((c.val : Nat) : Int)) (-1)) = ((zb0 u.val c.val : Nat) : Int) ∧ zb0 u.val c.val < 256 := by decide +kernel
theorem zgo_b : ∀ (c d : Fin 8) (u : Fin 256), (zb1 u.val c.val / 2 ^ d.val % 2 = if d = c then 1 else u.val / 2 ^ d.val % 2) ∧ (zb0 u.val c.val / 2 ^ d.val % 2 = if d = c then 0 else u.val / 2 ^ d.val % 2) := by decide +kernel
