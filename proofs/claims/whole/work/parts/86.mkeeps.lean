def zPK (j : Int) : Int → Int → Prop := fun a k => a = 172 ∧ 98 * j ≤ k ∧ k < 98 * j + 98 ∨ a = 125 ∧ (k = 66 ∨ k = 67)
theorem c_keepsL {G : zG} {h sl : Nat} (hsl : 2 ≤ sl) {j : Int} {M0 : zM} {Q : Int → zM → Prop} (hj : 0 ≤ j ∧ j < 20) (h67 : M0 125 67 = j) (h66 : 0 ≤ M0 125 66 ∧ M0 125 66 ≤ 20) (q : ∀ M', zSm (zPK j) M0 M' → M' 125 67 = j → M' 125 66 = (if M0 125 66 < 20 then M0 125 66 + 1 else 20) → (∀ i : Int, 0 ≤ i → i < 98 → M' 172 (98 * j + i) = M0 164 i) → Q 0 M') :
    ∀ (d k : Nat) {M : zM} {u : Nat × Nat × Nat × Nat}, d + k = 98 → zSm (fun a i => a = 172 ∧ 98 * j ≤ i ∧ i < 98 * j + 98) M0 M → (∀ i : Int, 0 ≤ i → i < (k : Int) → M 172 (98 * j + i) = M0 164 i) → zX G (y_Md_keeps, h, sl) u 15 [(0, (2, 125)), (1, (0, (k : Int)))] [] M Q
  | 0, k, M, u, e, hM, hr => by
    have e66 : M 125 66 = M0 125 66 := hM _ _ (by omega)
    have e67 : M 125 67 = j := by rw [hM _ _ (by omega)]; exact h67
    have g1 : zSm (zPK j) M0 M := hM.mono (fun _ _ p => Or.inl p)
    refine B_Md_keeps_15 hsl ⟨fun _ => ⟨fun g => ?_, fun g => ⟨by unfold zI; omega, ?_⟩⟩, fun g => absurd (by omega) g⟩
    · exact q M g1 e67 (by rw [e66]; rw [e66] at g; rw [if_neg (by omega)]; omega) (fun i a b => hr i a (by omega))
    · rw [e66] at g ⊢
      exact q _ (g1.wr (Or.inr ⟨rfl, Or.inl rfl⟩)) (by rw [zwr_k _ (by decide)]; exact e67) (by rw [zwr_s, if_pos (by omega)]) (fun i a b => by rw [zwr_o _ (by decide)]; exact hr i a (by omega))
  | d + 1, k, M, u, e, hM, hr => by
    have e67 : M 125 67 = j := by rw [hM _ _ (by omega)]; exact h67
    refine B_Md_keeps_15 hsl ⟨fun g => absurd g (by omega), fun _ => ?_⟩
    rw [e67]
    refine ⟨by unfold zI; omega, by unfold zI; omega, by omega, by omega, by unfold zI; omega, ?_⟩
    have := c_keepsL (G := G) (h := h) (Q := Q) hsl hj h67 h66 q d (k + 1) (M := zwr M 172 (98 * j + k) (M 164 k)) (u := u) (by omega) (hM.wr (by omega)) (fun i a b => ?_)
    · rw [zcs] at this
      exact this
    · by_cases c : i = k
      · subst c
        rw [zwr_s]
        exact hM 164 _ (by omega)
      · rw [zwr_k _ (by omega)]
        exact hr i a (by omega)
theorem c_keeps {G : zG} {h sl : Nat} (hsl : 2 ≤ sl) {j : Int} {M : zM} {Q : Int → zM → Prop} (h67 : 0 ≤ M 125 67 ∧ M 125 67 < 20) (hj : j = (M 125 67 + 1) % 20) (h66 : 0 ≤ M 125 66 ∧ M 125 66 ≤ 20) (q : ∀ M', zSm (zPK j) M M' → M' 125 67 = j → M' 125 66 = (if M 125 66 < 20 then M 125 66 + 1 else 20) → (∀ i : Int, 0 ≤ i → i < 98 → M' 172 (98 * j + i) = M 164 i) → Q 0 M') : zCt G h sl 0 0 y_Md_keeps [(2, 125)] M Q := by
  have ej : Int.tmod (M 125 67 + 1) 20 = j := by rw [Int.tmod_eq_emod_of_nonneg (by omega), hj]
  have e66 : (zwr M 125 67 j) 125 66 = M 125 66 := zwr_k _ (by decide)
  have g0 : zSm (zPK j) M (zwr M 125 67 j) := (zSm.refl _ M).wr (Or.inr ⟨rfl, Or.inr rfl⟩)
  refine E_Md_keeps hsl ⟨by unfold zI; omega, ?_⟩
  rw [ej]
  exact c_keepsL (M0 := zwr M 125 67 j) hsl (by omega) (zwr_s _ _ _ _) (by rw [e66]; exact h66) (fun M' a b c d => q M' (g0.trans a) b (by rw [c, e66]) (fun i x y => by rw [d i x y, zwr_o _ (by decide)])) 98 0 rfl (zSm.refl _ _) (fun i a b => absurd b (by omega))
