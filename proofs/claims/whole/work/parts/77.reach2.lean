theorem c_reach {G : zG} {h sl : Nat} (hsl : 1 ≤ sl) {T : zTb} {A : Int → Int} {o t : Int} {n m : Nat} {M : zM} {Q : Int → zM → Prop} (ho : o = 8 ∨ o = 13) (ht : zK t = (8, 0)) (ht7 : 70 ≤ t) (hT : zTok T) (hA : zLok T (T.1 8 0) A) (h9 : A 0 + n < 8000) (hn : (n : Int) < (zK (o + 4)).2) (hm : zTc T M t) (hc : zCo T A m M o t) (q : ∀ M' m, n < m → zSm (zPR o t) M M' → zCo T A m M' o t → Q 0 M') : zCt G (h + 5) sl 0 0 y_Course_reach [(2, o), (0, (n : Int))] M Q := by
  have hh := hc
  obtain ⟨c3, c4, _⟩ := hh
  refine E_Course_reach hsl ⟨(zCo_len ho).1, fun _ => ?_, fun g => absurd (by omega) g⟩
  rw [c4]
  exact c_reachL (M0 := M) (h := h) hsl ho ht ht7 hT hA h9 hn q (n + 1) m (by omega) (zSm.refl _ _) hm hc
