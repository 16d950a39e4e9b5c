def zPU (l : Int) : Int → Int → Prop := fun a k => a = 18 ∧ (k = 4 ∨ k = 5 ∨ k = 6) ∨ zPLn l a k
theorem c_goBack {G : zG} {h sl : Nat} (hsl : 1 ≤ sl) {l n : Int} {L : Int → Int} {M : zM} {Q : Int → zM → Prop} (hk : zK l = (4, 0)) (hlo : l + 1 < 18) (hn : n ≤ 8) (h5 : 0 ≤ M 18 5 ∧ M 18 5 < 20) (h6 : 0 ≤ M 18 6 ∧ M 18 6 ≤ 20) (hl : M 18 6 ≠ 0 → zLc n L M (23 + 2 * M 18 5)) (q0 : M 18 6 = 0 → Q 0 M) (q : M 18 6 ≠ 0 → ∀ M', zSm (zPU l) M M' → M' 18 4 = M 22 (M 18 5) → M' 18 5 = (M 18 5 + 19) % 20 → M' 18 6 = M 18 6 - 1 → zLc n L M' l → Q 1 M') : zCt G (h + 2) sl 0 0 y_History_goBack [(2, 18), (2, l)] M Q := by
  have hkj := (zs_past h5.1 h5.2).2
  refine E_History_goBack hsl ⟨fun g => ⟨h5, hk, c_copy hsl hk hkj (by omega) (by omega) (by omega) hn (hl g) (fun M1 hM1 hl1 => ?_)⟩, fun g => q0 (by omega)⟩
  have e : ∀ k, M1 18 k = M 18 k := fun k => hM1 _ _ (by unfold zPLn; omega)
  have e22 : ∀ k, M1 22 k = M 22 k := fun k => hM1 _ _ (by unfold zPLn; omega)
  have a5 : ∀ v, (zwr M1 18 4 v) 18 5 = M 18 5 := fun v => by rw [zwr_k _ (by decide)]; exact e 5
  rw [a5, e 5, e22]
  have et : Int.tmod (M 18 5 + 20 - 1) 20 = (M 18 5 + 19) % 20 := by
    rw [Int.tmod_eq_emod_of_nonneg (by omega)]
    congr 1
    omega
  rw [et]
  have a6 : ∀ v w, (zwr (zwr M1 18 4 v) 18 5 w) 18 6 = M 18 6 := fun v w => by rw [zwr_k _ (by decide), zwr_k _ (by decide)]; exact e 6
  rw [a6]
  refine ⟨h5, by unfold zI; omega, by unfold zI; omega, by unfold zI; omega, q g _ (fun a k n => ?_) ?_ ?_ (zwr_s _ _ _ _) ?_⟩
  · unfold zPU zPLn at n
    rw [zwr_i, if_neg (by omega), zwr_i, if_neg (by omega), zwr_i, if_neg (by omega), hM1 a k (by unfold zPLn; omega)]
  · rw [zwr_k _ (by decide), zwr_k _ (by decide), zwr_s]
  · rw [zwr_k _ (by decide), zwr_s]
  · exact hl1.fr (by rw [zwr_o _ (by omega), zwr_o _ (by omega), zwr_o _ (by omega)]) (by rw [zwr_o _ (by omega), zwr_o _ (by omega), zwr_o _ (by omega)]) (fun i => by rw [zwr_o _ (by omega), zwr_o _ (by omega), zwr_o _ (by omega)])
