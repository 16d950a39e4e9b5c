/-! Kept lines, acts: pure. K: (how many were kept, their lines, how many untrue). R: the lines to which acts go back, 17 how many were kept. -/
abbrev zKp3 : Type := Int × (Int → Int) × (Int → Int)
def zkp1 (T : zTb) (X : Int → Int) (K : zKp3) : zKp3 := if zmk T X = 1 then (K.1 + 1, zup K.2.1 K.1 (X 0), zup K.2.2 K.1 (zwm T X)) else K
/-- a slot that is in use -/
def zvs (ac j s : Int) : Prop := (0 ≤ s ∧ s < 20) ∧ (j - s) % 20 < ac
def zHp (T : zTb) (L : Int → Int) (K : zKp3) (R : Int → Int → Int) (ac j : Int) : Prop :=
  (0 ≤ K.1 ∧ K.1 ≤ L 0) ∧ (0 ≤ ac ∧ ac ≤ 20) ∧ (0 ≤ j ∧ j < 20) ∧ (∀ s, zvs ac j s → zLok T (T.1 8 0) (R s) ∧ R s 0 ≤ 999 ∧ 0 ≤ R s 17 ∧ R s 17 ≤ R s 0 ∧ R s 17 ≤ K.1) ∧ ∀ s r, zvs ac j s → zvs ac j r → (j - r) % 20 ≤ (j - s) % 20 → R s 17 ≤ R r 17
def zHc (T : zTb) (K : zKp3) (R : Int → Int → Int) (ac j : Int) (M : zM) : Prop :=
  (M 18 4 = K.1 ∧ zAr M 19 K.1 K.2.1 ∧ zAr M 20 K.1 K.2.2) ∧ M 18 5 = j ∧ M 18 6 = ac ∧ ∀ s, zvs ac j s → zLc (T.1 8 0) (R s) M (23 + 2 * s) ∧ M 22 s = R s 17
def zHm (T : zTb) (K : zKp3) (R : Int → Int → Int) (ac j : Int) (M : zM) : Prop :=
  zKm K.1 K.2.1 K.2.2 M ∧ M 125 67 = j ∧ M 125 66 = ac ∧ ∀ s, zvs ac j s → M 172 (98 * s) = R s 0 ∧ (∀ c, 0 ≤ c → c < T.1 8 0 → M 172 (98 * s + (1 + c)) = R s (1 + c) ∧ M 172 (98 * s + (9 + c)) = R s (9 + c)) ∧ M 172 (98 * s + 17) = zkt4 (R s 17) ∧ ∀ k : Int, 0 ≤ k → k < zkt4 (R s 17) → M 172 (98 * s + (18 + 2 * k)) = K.2.1 (R s 17 - zkt4 (R s 17) + k) ∧ M 172 (98 * s + (19 + 2 * k)) = K.2.2 (R s 17 - zkt4 (R s 17) + k)
def zdHc : Int → Int → Prop := fun a k => a = 18 ∧ 4 ≤ k ∧ k ≤ 6 ∨ a = 19 ∨ a = 20 ∨ 22 ≤ a ∧ a ≤ 62
def zdHm : Int → Int → Prop := fun a k => a = 125 ∧ (k = 66 ∨ k = 67) ∨ a = 172 ∨ a = 164 ∧ 17 ≤ k
theorem zHc.fr {T : zTb} {K : zKp3} {R : Int → Int → Int} {ac j : Int} {M M' : zM} (e : ∀ a k, zdHc a k → M' a k = M a k) (h : zHc T K R ac j M) : zHc T K R ac j M' := by
  obtain ⟨⟨h1, h2, h3⟩, h4, h5, h6⟩ := h
  refine ⟨⟨by rw [e _ _ (by unfold zdHc; omega)]; exact h1, h2.fr (fun k => e _ _ (by unfold zdHc; omega)), h3.fr (fun k => e _ _ (by unfold zdHc; omega))⟩, by rw [e _ _ (by unfold zdHc; omega)]; exact h4, by rw [e _ _ (by unfold zdHc; omega)]; exact h5, fun s hs => ?_⟩
  have hs2 := hs.1
  exact ⟨(h6 s hs).1.fr (e _ _ (by unfold zdHc; omega)) (e _ _ (by unfold zdHc; omega)) (fun k => e _ _ (by unfold zdHc; omega)), by rw [e _ _ (by unfold zdHc; omega)]; exact (h6 s hs).2⟩
theorem zHm.fr {T : zTb} {K : zKp3} {R : Int → Int → Int} {ac j : Int} {M M' : zM} (e : ∀ a k, zdHm a k → M' a k = M a k) (h : zHm T K R ac j M) : zHm T K R ac j M' := by
  obtain ⟨⟨h1, h2⟩, h4, h5, h6⟩ := h
  refine ⟨⟨by rw [e _ _ (by unfold zdHm; omega)]; exact h1, fun k a b => by rw [e _ _ (by unfold zdHm; omega), e _ _ (by unfold zdHm; omega)]; exact h2 k a b⟩, by rw [e _ _ (by unfold zdHm; omega)]; exact h4, by rw [e _ _ (by unfold zdHm; omega)]; exact h5, fun s hs => ?_⟩
  obtain ⟨a, b, c, d⟩ := h6 s hs
  exact ⟨by rw [e _ _ (by unfold zdHm; omega)]; exact a, fun x x0 xn => by rw [e _ _ (by unfold zdHm; omega), e _ _ (by unfold zdHm; omega)]; exact b x x0 xn, by rw [e _ _ (by unfold zdHm; omega)]; exact c, fun k k0 kn => by rw [e _ _ (by unfold zdHm; omega), e _ _ (by unfold zdHm; omega)]; exact d k k0 kn⟩
def zsv (L : Int → Int) (N : Int) : Int → Int := zup L 17 N
theorem zsv_o {L : Int → Int} {N k : Int} (h : k ≠ 17) : zsv L N k = L k := zup_o _ _ h
theorem zsv_s {L : Int → Int} {N : Int} : zsv L N 17 = N := zup_s _ _ _
theorem zLok.sv {T : zTb} {n N : Int} {L : Int → Int} (hn : n ≤ 8) (h : zLok T n L) : zLok T n (zsv L N) :=
  ⟨by rw [zsv_o (by decide)]; exact h.1, by rw [zsv_o (by decide)]; exact h.2.1, fun c c0 cn => by rw [zsv_o (by omega), zsv_o (by omega)]; exact h.2.2 c c0 cn⟩
theorem zLc.sv {n N l : Int} {L : Int → Int} {M : zM} (hn : n ≤ 8) (h : zLc n L M l) : zLc n (zsv L N) M l :=
  h.ext (Int.le_refl _) (by rw [zsv_o (by decide)]) (fun c c0 cn => by rw [zsv_o (by omega), zsv_o (by omega)]; exact ⟨rfl, rfl⟩)
/-- the next slot, how many acts then -/
def zj1 (j : Int) : Int := (j + 1) % 20
def zac1 (ac : Int) : Int := if ac < 20 then ac + 1 else 20
def zR1 (R : Int → Int → Int) (j : Int) (L : Int → Int) (N : Int) : Int → Int → Int := zob R (zj1 j) (zsv L N)
theorem zvs_1 {ac j s : Int} (ha : 0 ≤ ac ∧ ac ≤ 20) (hj : 0 ≤ j ∧ j < 20) (h : zvs (zac1 ac) (zj1 j) s) (hs : s ≠ zj1 j) : zvs ac j s ∧ (zj1 j - s) % 20 = (j - s) % 20 + 1 := by
  have hs2 := h.1
  have h2 := h.2
  have h3 : zac1 ac ≤ ac + 1 := by unfold zac1; split <;> omega
  have h4 : (zj1 j - s) % 20 = (j - s) % 20 + 1 := by
    unfold zj1 at hs ⊢
    omega
  exact ⟨⟨hs2, by omega⟩, h4⟩
theorem zHp.act {T : zTb} {L : Int → Int} {K : zKp3} {R : Int → Int → Int} {ac j : Int} (hP : zPu T L) (h : zHp T L K R ac j) : zHp T L K (zR1 R j L K.1) (zac1 ac) (zj1 j) := by
  obtain ⟨h1, h2, h3, h4, h5⟩ := h
  have hj : 0 ≤ zj1 j ∧ zj1 j < 20 := by unfold zj1; omega
  have e1 : zR1 R j L K.1 (zj1 j) = zsv L K.1 := zob_s _ _ _
  have e2 : ∀ s, s ≠ zj1 j → zR1 R j L K.1 s = R s := fun s hs => zob_o _ _ hs
  refine ⟨h1, by unfold zac1; split <;> omega, hj, fun s hs => ?_, fun s r hs hr hd => ?_⟩
  · by_cases c : s = zj1 j
    · subst c
      rw [e1, zsv_s, zsv_o (by decide)]
      exact ⟨hP.2.1.sv hP.1.2.1, hP.2.2, h1.1, h1.2, Int.le_refl _⟩
    · rw [e2 s c]
      exact h4 s (zvs_1 h2 h3 hs c).1
  · by_cases cr : r = zj1 j
    · subst cr
      rw [e1, zsv_s]
      by_cases cs : s = zj1 j
      · subst cs
        rw [e1, zsv_s]
        exact Int.le_refl _
      · rw [e2 s cs]
        exact (h4 s (zvs_1 h2 h3 hs cs).1).2.2.2.2
    · by_cases cs : s = zj1 j
      · subst cs
        have := (zvs_1 h2 h3 hr cr).2
        have hz : (zj1 j - zj1 j) % 20 = 0 := by omega
        omega
      · rw [e2 s cs, e2 r cr]
        have a := zvs_1 h2 h3 hs cs
        have b := zvs_1 h2 h3 hr cr
        exact h5 s r a.1 b.1 (by omega)
/-- more is kept, the line goes on: the pure side -/
theorem zHp.go {T : zTb} {L X : Int → Int} {K K' : zKp3} {R : Int → Int → Int} {ac j : Int} (h : zHp T L K R ac j) (hk : K.1 ≤ K'.1) (hx : K'.1 ≤ X 0) : zHp T X K' R ac j := by
  obtain ⟨h1, h2, h3, h4, h5⟩ := h
  exact ⟨by omega, h2, h3, fun s hs => by have := h4 s hs; exact ⟨this.1, this.2.1, this.2.2.1, this.2.2.2.1, by omega⟩, h5⟩
theorem zkp1_n (T : zTb) (X : Int → Int) (K : zKp3) : (zkp1 T X K).1 = K.1 + zmk T X := by
  unfold zkp1
  rcases zmk_01 T X with e | e
  · rw [e]; simp
  · rw [e]; simp
/-- what was kept before stays -/
theorem zkp1_k {T : zTb} {X : Int → Int} {K : zKp3} {i : Int} (h : i < K.1) : (zkp1 T X K).2.1 i = K.2.1 i ∧ (zkp1 T X K).2.2 i = K.2.2 i := by
  unfold zkp1
  split
  · exact ⟨zup_o _ _ (by omega), zup_o _ _ (by omega)⟩
  · exact ⟨rfl, rfl⟩
/-- the seed, a draw -/
def zsd (x : Int) : Int := (1103515245 * x + 12345) % 2147483648
def zdr (x m : Int) : Int := zsd x / 64 % m
theorem zsd_in (x : Int) : 0 ≤ zsd x ∧ zsd x < 2147483648 := by unfold zsd; omega
theorem zland_mod {x : Int} (h0 : 0 ≤ x) (h1 : x < 9223372036854775808) : zland x 2147483647 = x % 2147483648 := by
  unfold zland
  show (Int64.ofInt x &&& Int64.ofInt 2147483647).toBitVec.toInt = _
  rw [Int64.toBitVec_and]
  have e1 : (Int64.ofInt x).toBitVec.toNat = x.toNat := by
    show (BitVec.ofInt 64 x).toNat = _
    rw [BitVec.toNat_ofInt]
    omega
  have e2 : (Int64.ofInt 2147483647).toBitVec.toNat = 2 ^ 31 - 1 := by decide
  have h : ((Int64.ofInt x).toBitVec &&& (Int64.ofInt 2147483647).toBitVec).toNat = x.toNat % 2 ^ 31 := by
    rw [BitVec.toNat_and, e1, e2, Nat.and_two_pow_sub_one_eq_mod]
  rw [BitVec.toInt_eq_toNat_of_lt (by rw [h]; omega), h]
  omega
/-- a line by the seed: the line, the seed, how many slipped -/
def zchs (T : zTb) (X : Int → Int) (x : Int) : (Int → Int) × Int × Int :=
  if zdr x 100 < T.1 8 1 ∧ 0 < T.1 8 0 then
    (if T.1 (zdr (zsd x) (T.1 8 0)) 0 = 3 then (X, zsd (zsd (zsd x)), 0)
      else (zup X (1 + zdr (zsd x) (T.1 8 0)) (zslp T (zdr (zsd x) (T.1 8 0)) (X (1 + zdr (zsd x) (T.1 8 0))) (zdr (zsd (zsd x)) 9 + 1)), zsd (zsd (zsd x)), 1))
  else (X, zsd x, 0)
/-- so many lines written; by the seed -/
def zKs (T : zTb) (L : Int → Int) (K : zKp3) : Nat → zKp3
  | 0 => K
  | i + 1 => zkp1 T (zln T L (i + 1)) (zKs T L K i)
def zKc (T : zTb) (L : Int → Int) : Nat → Int
  | 0 => 0
  | i + 1 => zKc T L i + zmk T (zln T L (i + 1))
/-- line, seed, kept, slips -/
def zch (T : zTb) (L : Int → Int) (x : Int) (K : zKp3) : Nat → (Int → Int) × Int × zKp3 × Int
  | 0 => (L, x, K, 0)
  | i + 1 => ((zchs T (znx T (zch T L x K i).1) (zch T L x K i).2.1).1, (zchs T (znx T (zch T L x K i).1) (zch T L x K i).2.1).2.1, zkp1 T (zchs T (znx T (zch T L x K i).1) (zch T L x K i).2.1).1 (zch T L x K i).2.2.1, (zch T L x K i).2.2.2 + (zchs T (znx T (zch T L x K i).1) (zch T L x K i).2.1).2.2)
theorem zKs_b {T : zTb} {L : Int → Int} {K : zKp3} : ∀ i : Nat, K.1 ≤ (zKs T L K i).1 ∧ (zKs T L K i).1 ≤ K.1 + i ∧ (0 ≤ zKc T L i ∧ zKc T L i ≤ i)
  | 0 => by simp [zKs, zKc]
  | i + 1 => by
    have ih := zKs_b (T := T) (L := L) (K := K) i
    have e : (zKs T L K (i + 1)).1 = (zKs T L K i).1 + zmk T (zln T L (i + 1)) := zkp1_n _ _ _
    have e2 : zKc T L (i + 1) = zKc T L i + zmk T (zln T L (i + 1)) := rfl
    rcases zmk_01 T (zln T L (i + 1)) with h | h <;> omega
theorem zchs_ok {T : zTb} {X : Int → Int} {x : Int} (hT : zTok T) (hX : zLok T (T.1 8 0) X) : zLok T (T.1 8 0) (zchs T X x).1 ∧ (zchs T X x).1 0 = X 0 ∧ (0 ≤ (zchs T X x).2.1 ∧ (zchs T X x).2.1 < 2147483648) ∧ ((zchs T X x).2.2 = 0 ∨ (zchs T X x).2.2 = 1) := by
  unfold zchs
  split
  · rename_i g
    have hd0 : 0 ≤ zdr (zsd x) (T.1 8 0) := Int.emod_nonneg _ (by omega)
    have hdn : zdr (zsd x) (T.1 8 0) < T.1 8 0 := Int.emod_lt_of_pos _ g.2
    split
    · exact ⟨hX, rfl, zsd_in _, Or.inl rfl⟩
    · rename_i g3
      have hok := hT.2.2.2.2.2.2.2 _ hd0 hdn
      have hn8 := hT.2.1
      refine ⟨⟨by simp only; rw [zup_o _ _ (by omega)]; exact hX.1, by simp only; rw [zup_o _ _ (by omega)]; exact hX.2.1, fun c c0 cn => ?_⟩, by simp only; rw [zup_o _ _ (by omega)], zsd_in _, Or.inr rfl⟩
      simp only
      rw [zup_o _ _ (by omega : 9 + c ≠ _)]
      by_cases e : c = zdr (zsd x) (T.1 8 0)
      · rw [← e, zup_s]
        rw [← e] at hok g3
        have hc := hX.2.2 c c0 cn
        have hs := zslp_in (v := X (1 + c)) (b := zdr (zsd (zsd x)) 9 + 1) hok g3
        unfold zCok at hc ⊢
        rw [if_neg g3] at hc ⊢
        exact ⟨hs, hc.2⟩
      · rw [zup_o _ _ (by omega)]
        exact hX.2.2 c c0 cn
  · exact ⟨hX, rfl, zsd_in _, Or.inl rfl⟩
theorem zch_b {T : zTb} {L : Int → Int} {x : Int} {K : zKp3} (hP : zPu T L) (hx : 0 ≤ x ∧ x < 2147483648) : ∀ i : Nat, L 0 + i ≤ 8000 → zLok T (T.1 8 0) (zch T L x K i).1 ∧ (zch T L x K i).1 0 = L 0 + i ∧ (0 ≤ (zch T L x K i).2.1 ∧ (zch T L x K i).2.1 < 2147483648) ∧ (K.1 ≤ (zch T L x K i).2.2.1.1 ∧ (zch T L x K i).2.2.1.1 ≤ K.1 + i) ∧ (0 ≤ (zch T L x K i).2.2.2 ∧ (zch T L x K i).2.2.2 ≤ i)
  | 0, _ => ⟨hP.2.1, by simp [zch], hx, by simp [zch], by simp [zch]⟩
  | i + 1, h => by
    obtain ⟨a, b, c, d, e⟩ := zch_b (K := K) hP hx i (by omega)
    have hn := znx_ok hP.1 a (by omega)
    have h0 := znx_0 (L := (zch T L x K i).1) hP.1
    obtain ⟨a1, a2, a3, a4⟩ := zchs_ok (x := (zch T L x K i).2.1) hP.1 hn
    have ek : (zch T L x K (i + 1)).2.2.1.1 = (zch T L x K i).2.2.1.1 + zmk T (zchs T (znx T (zch T L x K i).1) (zch T L x K i).2.1).1 := zkp1_n _ _ _
    have es : (zch T L x K (i + 1)).2.2.2 = (zch T L x K i).2.2.2 + (zchs T (znx T (zch T L x K i).1) (zch T L x K i).2.1).2.2 := rfl
    refine ⟨a1, ?_, a3, ?_, ?_⟩
    · show (zchs T (znx T (zch T L x K i).1) (zch T L x K i).2.1).1 0 = _
      rw [a2, h0, b]
      omega
    · rw [ek]
      rcases zmk_01 T (zchs T (znx T (zch T L x K i).1) (zch T L x K i).2.1).1 with y | y <;> rw [y] <;> omega
    · rw [es]
      rcases a4 with y | y <;> rw [y] <;> omega
