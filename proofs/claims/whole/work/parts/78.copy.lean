theorem c_copy {G : zG} {h sl : Nat} (hsl : 1 ≤ sl) {n l0 l1 : Int} {L : Int → Int} {M : zM} {Q : Int → zM → Prop} (k0 : zK l0 = (4, 0)) (k1 : zK l1 = (4, 0)) (hne : l1 ≠ l0) (hn2 : l1 + 1 ≠ l0) (hn3 : l1 ≠ l0 + 1) (hn : n ≤ 8) (hl : zLc n L M l1) (q : ∀ M', zSm (zPLn l0) M M' → zLc n L M' l0 → Q 0 M') : zCt G (h + 1) sl 0 0 y_Line_copy [(2, l0), (2, l1)] M Q := by
  refine E_Line_copy hsl ⟨k1, k0, q _ (fun a k n => ?_) ⟨?_, ?_, fun c c0 cn => ?_⟩⟩
  · unfold zPLn at n
    rw [zob_o _ _ (by omega), zwr_i, if_neg (by omega), zwr_i, if_neg (by omega)]
  · rw [zob_o _ _ (by omega), zwr_k _ (by decide), zwr_s]
    exact hl.1
  · rw [zob_o _ _ (by omega), zwr_s, zwr_o _ hne]
    exact hl.2.1
  · refine ⟨?_, ?_⟩
    · rw [zob_s, if_pos (by omega), zwr_o _ (by omega), zwr_o _ (by omega), show (0 : Int) + (c - 0) = c from by omega]
      exact (hl.2.2 c c0 cn).1
    · rw [zob_o _ _ (by omega), zwr_s, zwr_o _ hne]
      exact (hl.2.2 c c0 cn).2
