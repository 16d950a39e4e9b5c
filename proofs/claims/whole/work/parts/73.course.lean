/-! A course o (8 what is true, 13 what is ahead) holds the lines from A on, as far as m. -/
def zCoR (T : zTb) (A : Int → Int) (m : Nat) (M : zM) (o : Int) : Prop := ∀ k : Nat, k < m → (0 ≤ M (o + 4) k ∧ M (o + 4) k < 256) ∧ ∀ c : Int, 0 ≤ c → c < T.1 8 0 → M (o + 3) ((k : Int) * 8 + c) = zln T A k (1 + c) ∧ zbt (M (o + 4) k) c = zln T A k (9 + c)
def zCo (T : zTb) (A : Int → Int) (m : Nat) (M : zM) (o t : Int) : Prop :=
  M o 3 = t ∧ M o 4 = m ∧ 1 ≤ m ∧ (m : Int) ≤ (zK (o + 4)).2 ∧ zLc (T.1 8 0) (zln T A (m - 1)) M (o + 1) ∧ zCoR T A m M o
theorem zCo_len {o : Int} (ho : o = 8 ∨ o = 13) : zK o = (2, 0) ∧ (zK (o + 3)).2 = (zK (o + 4)).2 * 8 ∧ 201 ≤ (zK (o + 4)).2 ∧ (zK (o + 4)).2 ≤ 1000 := by
  rcases ho with rfl | rfl <;> decide
theorem c_toldC {G : zG} {h sl : Nat} (hsl : 1 ≤ sl) {T : zTb} {A : Int → Int} {m k : Nat} {o t c : Int} {M : zM} {Q : Int → zM → Prop} (ho : o = 8 ∨ o = 13) (hT : zTok T) (hc : zCo T A m M o t) (hk : k < m) (c0 : 0 ≤ c) (cn : c < T.1 8 0) (q : Q (zln T A k (1 + c)) M) : zCt G h sl 0 0 y_Course_told [(2, o), (0, (k : Int)), (0, c)] M Q := by
  obtain ⟨h1, h2, h3, h4⟩ := zCo_len ho
  obtain ⟨_, e4, _, e5, _, hr⟩ := hc
  have hn8 := hT.2.1
  refine E_Course_told hsl ⟨fun g => absurd g (by omega), fun _ => ⟨h1, fun g => absurd g (by omega), fun _ => ⟨fun g => absurd g (by omega), fun _ => ⟨fun _ => ⟨by unfold zI; omega, by unfold zI; omega, by omega, ?_⟩, fun g => absurd (by omega) g⟩⟩⟩⟩
  rw [((hr k hk).2 c c0 cn).1]
  exact q
theorem c_upC {G : zG} {h sl : Nat} (hsl : 1 ≤ sl) {T : zTb} {A : Int → Int} {m k : Nat} {o t c : Int} {M : zM} {Q : Int → zM → Prop} (ho : o = 8 ∨ o = 13) (hT : zTok T) (hc : zCo T A m M o t) (hk : k < m) (c0 : 0 ≤ c) (cn : c < T.1 8 0) (q : Q (zln T A k (9 + c)) M) : zCt G h sl 0 0 y_Course_goesUp [(2, o), (0, (k : Int)), (0, c)] M Q := by
  obtain ⟨h1, h2, h3, h4⟩ := zCo_len ho
  obtain ⟨_, e4, _, e5, _, hr⟩ := hc
  have hn8 := hT.2.1
  have hk2 := hr k hk
  have hb := zb_01 hk2.1.1 hk2.1.2 c0 (by omega)
  have hz := (hk2.2 c c0 cn).2
  rw [hz] at hb
  unfold zbt at hz
  refine E_Course_goesUp hsl ⟨fun g => absurd g (by omega), fun _ => ⟨h1, fun g => absurd g (by omega), fun _ => ⟨by omega, fun g => ?_, fun g => ?_⟩⟩⟩
  · rw [hz] at g
    rw [show zln T A k (9 + c) = 0 from by omega] at q
    exact q
  · rw [hz] at g
    rw [show zln T A k (9 + c) = 1 from by omega] at q
    exact q
