theorem c_undoL {G : zG} {h sl : Nat} (hsl : 2 ≤ sl) {j : Int} {M0 : zM} {Q : Int → zM → Prop} (hj : 0 ≤ j ∧ j < 20) (h67 : M0 125 67 = j) (h66 : 1 ≤ M0 125 66 ∧ M0 125 66 ≤ 20) (q : ∀ M', zSm (fun a i => a = 164 ∧ 0 ≤ i ∧ i < 98 ∨ a = 125 ∧ (i = 66 ∨ i = 67)) M0 M' → M' 125 67 = (j + 19) % 20 → M' 125 66 = M0 125 66 - 1 → (∀ i : Int, 0 ≤ i → i < 98 → M' 164 i = M0 172 (98 * j + i)) → Q 1 M') :
    ∀ (d k : Nat) {M : zM} {u : Nat × Nat × Nat × Nat}, d + k = 98 → zSm (fun a i => a = 164 ∧ 0 ≤ i ∧ i < 98) M0 M → (∀ i : Int, 0 ≤ i → i < (k : Int) → M 164 i = M0 172 (98 * j + i)) → zX G (y_Md_undo, h, sl) u 21 [(0, (2, 125)), (1, (0, (k : Int)))] [] M Q
  | 0, k, M, u, e, hM, hr => by
    have e66 : M 125 66 = M0 125 66 := hM _ _ (by omega)
    have e67 : M 125 67 = j := by rw [hM _ _ (by omega)]; exact h67
    have g1 : zSm (fun a i => a = 164 ∧ 0 ≤ i ∧ i < 98 ∨ a = 125 ∧ (i = 66 ∨ i = 67)) M0 M := hM.mono (fun _ _ p => Or.inl p)
    have et : Int.tmod (j + 20 - 1) 20 = (j + 19) % 20 := by
      rw [Int.tmod_eq_emod_of_nonneg (by omega)]
      congr 1
      omega
    refine B_Md_undo_21 hsl ⟨fun _ => ?_, fun g => absurd (by omega) g⟩
    rw [e67, et]
    have e3 : ∀ v, (zwr M 125 67 v) 125 66 = M0 125 66 := fun v => by rw [zwr_k _ (by decide)]; exact e66
    rw [e3]
    exact ⟨by unfold zI; omega, by unfold zI; omega, by unfold zI; omega, q _ ((g1.wr (Or.inr ⟨rfl, Or.inr rfl⟩)).wr (Or.inr ⟨rfl, Or.inl rfl⟩)) (by rw [zwr_k _ (by decide), zwr_s]) (zwr_s _ _ _ _) (fun i a b => by rw [zwr_o _ (by decide), zwr_o _ (by decide)]; exact hr i a (by omega))⟩
  | d + 1, k, M, u, e, hM, hr => by
    have e67 : M 125 67 = j := by rw [hM _ _ (by omega)]; exact h67
    refine B_Md_undo_21 hsl ⟨fun g => absurd g (by omega), fun _ => ?_⟩
    rw [e67]
    refine ⟨by unfold zI; omega, by unfold zI; omega, by omega, by omega, by unfold zI; omega, ?_⟩
    have := c_undoL (G := G) (h := h) (Q := Q) hsl hj h67 h66 q d (k + 1) (M := zwr M 164 k (M 172 (98 * j + k))) (u := u) (by omega) (hM.wr (by omega)) (fun i a b => ?_)
    · rw [zcs] at this
      exact this
    · by_cases c : i = k
      · subst c
        rw [zwr_s]
        exact hM 172 _ (by omega)
      · rw [zwr_k _ (by omega)]
        exact hr i a (by omega)
