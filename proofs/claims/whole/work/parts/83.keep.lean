theorem c_keep {G : zG} {h sl : Nat} (hsl : 1 ≤ sl) {a b : Int} {M : zM} {Q : Int → zM → Prop} (hn : 0 ≤ M 18 4 ∧ M 18 4 < 1000) (q : Q 0 (zwr (zwr (zwr M 19 (M 18 4) a) 20 (M 18 4) b) 18 4 (M 18 4 + 1))) : zCt G h sl 0 0 y_History_keep [(2, 18), (0, a), (0, b)] M Q := by
  have e1 : (zwr M 19 (M 18 4) a) 18 4 = M 18 4 := zwr_o _ (by decide)
  refine E_History_keep hsl ⟨fun g => absurd g (by omega), fun _ => ?_⟩
  rw [e1]
  have e2 : (zwr (zwr M 19 (M 18 4) a) 20 (M 18 4) b) 18 4 = M 18 4 := by rw [zwr_o _ (by decide)]; exact e1
  rw [e2]
  exact ⟨⟨by omega, by omega⟩, ⟨by omega, by omega⟩, by unfold zI; omega, q⟩
