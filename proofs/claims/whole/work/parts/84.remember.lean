def zPH (j : Int) : Int → Int → Prop := fun a k => a = 18 ∧ (k = 5 ∨ k = 6) ∨ a = 22 ∧ k = j ∨ zPLn (23 + 2 * j) a k
theorem c_remember {G : zG} {h sl : Nat} (hsl : 1 ≤ sl) {l n j : Int} {L : Int → Int} {M : zM} {Q : Int → zM → Prop} (hk : zK l = (4, 0)) (hlo : l + 1 < 18) (hn : n ≤ 8) (hl : zLc n L M l) (h5 : 0 ≤ M 18 5 ∧ M 18 5 < 20) (h6 : 0 ≤ M 18 6 ∧ M 18 6 ≤ 20) (hj : j = (M 18 5 + 1) % 20) (q : ∀ M', zSm (zPH j) M M' → M' 18 5 = j → M' 18 6 = (if M 18 6 < 20 then M 18 6 + 1 else 20) → M' 22 j = M 18 4 → zLc n L M' (23 + 2 * j) → Q 0 M') : zCt G (h + 2) sl 0 0 y_History_remember [(2, 18), (2, l)] M Q := by
  have hj2 : 0 ≤ j ∧ j < 20 := by omega
  have ej : Int.tmod (M 18 5 + 1) 20 = j := by rw [Int.tmod_eq_emod_of_nonneg (by omega), hj]
  have hkj := (zs_past hj2.1 hj2.2).2
  refine E_History_remember hsl ?_
  rw [ej]
  have e5 : (zwr M 18 5 j) 18 5 = j := zwr_s _ _ _ _
  rw [e5]
  refine ⟨by unfold zI; omega, hj2, c_copy hsl hkj hk (by omega) (by omega) (by omega) hn (hl.fr (zwr_o _ (by omega)) (zwr_o _ (by omega)) (fun _ => zwr_o _ (by omega))) (fun M1 hM1 hl1 => ?_)⟩
  have g5 : M1 18 5 = j := by rw [hM1 _ _ (by unfold zPLn; omega), zwr_s]
  have g4 : M1 18 4 = M 18 4 := by rw [hM1 _ _ (by unfold zPLn; omega), zwr_k _ (by decide)]
  have g6 : ∀ v, (zwr M1 22 j v) 18 6 = M 18 6 := fun v => by rw [zwr_o _ (by decide), hM1 _ _ (by unfold zPLn; omega), zwr_k _ (by decide)]
  rw [g5, g4, g6]
  have fin : ∀ r, r = (if M 18 6 < 20 then M 18 6 + 1 else 20) → Q 0 (zwr (zwr M1 22 j (M 18 4)) 18 6 r) := fun r er => by
    refine q _ (fun a k n => ?_) ?_ ?_ ?_ ?_
    · unfold zPH zPLn at n
      rw [zwr_i, if_neg (by omega), zwr_i, if_neg (by omega), hM1 a k (by unfold zPLn; omega), zwr_i, if_neg (by omega)]
    · rw [zwr_k _ (by decide), zwr_o _ (by decide)]
      exact g5
    · rw [zwr_s]
      exact er
    · rw [zwr_o _ (by decide), zwr_s]
    · exact hl1.fr (by rw [zwr_o _ (by omega), zwr_o _ (by omega)]) (by rw [zwr_o _ (by omega), zwr_o _ (by omega)]) (fun i => by rw [zwr_o _ (by omega), zwr_o _ (by omega)])
  refine ⟨hj2, by unfold zI; omega, E_Jm_min_III hsl ⟨fun g => fin _ ?_, fun g => fin _ ?_⟩⟩
  · split <;> omega
  · split <;> omega
