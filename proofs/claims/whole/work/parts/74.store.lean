def zPO (o : Int) : Int → Int → Prop := fun a k => a = o ∧ k = 4 ∨ a = o + 3 ∨ a = o + 4
theorem c_store {G : zG} {h sl : Nat} (hsl : 1 ≤ sl) {T : zTb} {A : Int → Int} {m : Nat} {o : Int} {M : zM} {Q : Int → zM → Prop} (ho : o = 8 ∨ o = 13) (hT : zTok T) (e4 : M o 4 = m) (hN : (m : Int) < (zK (o + 4)).2) (hl : zLc (T.1 8 0) (zln T A m) M (o + 1)) (hr : zCoR T A m M o) (q : ∀ M', zSm (zPO o) M M' → M' o 4 = m + 1 → zCoR T A (m + 1) M' o → Q 0 M') : zCt G (h + 1) sl 0 0 y_Course_store [(2, o)] M Q := by
  obtain ⟨h1, h2, h3, h4⟩ := zCo_len ho
  have hn8 := hT.2.1
  have e : ∀ v, (zwr M (o + 4) (m : Int) v) o 4 = m := fun v => by rw [zwr_o _ (by omega)]; exact e4
  refine E_Course_store hsl ?_
  rw [e4, e]
  have eX : ∀ v (f : Int → Int), (zob (zwr M (o + 4) (m : Int) v) (o + 3) f) o 4 = m := fun v f => by rw [zob_o _ _ (by omega)]; exact e v
  rw [eX]
  refine ⟨h1, ⟨by omega, by omega⟩, by unfold zI; omega, by omega, by omega, by unfold zI; omega, q _ (fun a k n => ?_) (zwr_s _ _ _ _) (fun k hk => ?_)⟩
  · unfold zPO at n
    rw [zwr_i, if_neg (by omega), zob_o _ _ (by omega), zwr_o _ (by omega)]
  · have e1 : ∀ j, (zwr (zob (zwr M (o + 4) (m : Int) (M (o + 1) 2)) (o + 3) (fun b => if (m : Int) * 8 ≤ b ∧ b < (m : Int) * 8 + 8 then (zwr M (o + 4) (m : Int) (M (o + 1) 2)) (o + 1 + 1) (0 + (b - (m : Int) * 8)) else (zwr M (o + 4) (m : Int) (M (o + 1) 2)) (o + 3) b)) o 4 ((m : Int) + 1)) (o + 4) j = (if j = m then M (o + 1) 2 else M (o + 4) j) := fun j => by
      rw [zwr_o _ (by omega), zob_o _ _ (by omega), zwr_i]
      by_cases c : j = m
      · rw [if_pos ⟨rfl, c⟩, if_pos c]
      · rw [if_neg (fun x => c x.2), if_neg c]
    have e2 : ∀ j, (zwr (zob (zwr M (o + 4) (m : Int) (M (o + 1) 2)) (o + 3) (fun b => if (m : Int) * 8 ≤ b ∧ b < (m : Int) * 8 + 8 then (zwr M (o + 4) (m : Int) (M (o + 1) 2)) (o + 1 + 1) (0 + (b - (m : Int) * 8)) else (zwr M (o + 4) (m : Int) (M (o + 1) 2)) (o + 3) b)) o 4 ((m : Int) + 1)) (o + 3) j = (if (m : Int) * 8 ≤ j ∧ j < (m : Int) * 8 + 8 then M (o + 1 + 1) (j - (m : Int) * 8) else M (o + 3) j) := fun j => by
      rw [zwr_o _ (by omega), zob_s]
      split
      · rw [zwr_o _ (by omega), Int.zero_add]
      · rw [zwr_o _ (by omega)]
    rw [e1]
    by_cases ck : k = m
    · subst ck
      rw [if_pos rfl]
      refine ⟨hl.2.1, fun c c0 cn => ?_⟩
      rw [e2, if_pos (by omega), show (k : Int) * 8 + c - (k : Int) * 8 = c from by omega]
      exact hl.2.2 c c0 cn
    · rw [if_neg (by omega)]
      have hh := hr k (by omega)
      refine ⟨hh.1, fun c c0 cn => ?_⟩
      rw [e2, if_neg (by omega)]
      exact hh.2 c c0 cn
