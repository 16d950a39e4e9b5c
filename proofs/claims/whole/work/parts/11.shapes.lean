theorem zs_0 {o : Int} (h : zK o = (0, 0)) : (zFn o 0 = o + 1 ∧ zK (o + 1) = (100, 1600)) ∧ (zFn o 1 = o + 2 ∧ zK (o + 2) = (100, 64)) := by
  have := zshape (fun o => ((decide (zFn o 0 = o + 1) && decide (zK (o + 1) = (100, 1600))) && ((decide (zFn o 1 = o + 2) && decide (zK (o + 2) = (100, 64)))))) (0, 0) (by decide +kernel) (by decide) h
  simpa only [Bool.and_eq_true, decide_eq_true_eq] using this
theorem zs_1 {o : Int} (h : zK o = (1, 0)) : (zFn o 0 = o + 1 ∧ zK (o + 1) = (100, 6)) := by
  have := zshape (fun o => (decide (zFn o 0 = o + 1) && decide (zK (o + 1) = (100, 6)))) (1, 0) (by decide +kernel) (by decide) h
  simpa only [Bool.and_eq_true, decide_eq_true_eq] using this
theorem zs_2 {o : Int} (h : zK o = (2, 0)) : (zFn o 0 = o + 3 ∧ (zK (o + 3)).1 = 100) ∧ (zFn o 1 = o + 4 ∧ (zK (o + 4)).1 = 100) ∧ (zFn o 2 = o + 1 ∧ zK (o + 1) = (4, 0)) := by
  have := zshape (fun o => ((decide (zFn o 0 = o + 3) && decide ((zK (o + 3)).1 = 100)) && ((decide (zFn o 1 = o + 4) && decide ((zK (o + 4)).1 = 100)) && ((decide (zFn o 2 = o + 1) && decide (zK (o + 1) = (4, 0))))))) (2, 0) (by decide +kernel) (by decide) h
  simpa only [Bool.and_eq_true, decide_eq_true_eq] using this
theorem zs_4 {o : Int} (h : zK o = (4, 0)) : (zFn o 0 = o + 1 ∧ zK (o + 1) = (100, 8)) := by
  have := zshape (fun o => (decide (zFn o 0 = o + 1) && decide (zK (o + 1) = (100, 8)))) (4, 0) (by decide +kernel) (by decide) h
  simpa only [Bool.and_eq_true, decide_eq_true_eq] using this
theorem zs_8 {o : Int} (h : zK o = (8, 0)) : (zFn o 0 = o + 1 ∧ zK (o + 1) = (105, 8)) ∧ (zFn o 1 = o + 2 ∧ zK (o + 2) = (0, 0)) := by
  have := zshape (fun o => ((decide (zFn o 0 = o + 1) && decide (zK (o + 1) = (105, 8))) && ((decide (zFn o 1 = o + 2) && decide (zK (o + 2) = (0, 0)))))) (8, 0) (by decide +kernel) (by decide) h
  simpa only [Bool.and_eq_true, decide_eq_true_eq] using this
theorem zs_cols {t j : Int} (h : zK t = (8, 0)) (h0 : 0 ≤ j) (h1 : j < 8) : zFn (t + 1) j = t + 7 + 2 * j ∧ zK (t + 7 + 2 * j) = (1, 0) := by
  have := zshape (fun o => (List.range 8).all (fun (j : Nat) => decide (zFn (o + 1) j = o + 7 + 2 * j) && decide (zK (o + 7 + 2 * j) = (1, 0)))) (8, 0) (by decide +kernel) (by decide) h
  have := List.all_eq_true.mp this j.toNat (List.mem_range.mpr (by omega))
  simp only [Bool.and_eq_true, decide_eq_true_eq] at this
  rwa [show ((j.toNat : Nat) : Int) = j by omega] at this
theorem zs_past {j : Int} (h0 : 0 ≤ j) (h1 : j < 20) : zFn 21 j = 23 + 2 * j ∧ zK (23 + 2 * j) = (4, 0) := by
  have : (List.range 20).all (fun (j : Nat) => decide (zFn 21 j = 23 + 2 * j) && decide (zK (23 + 2 * j) = (4, 0))) = true := by decide +kernel
  have := List.all_eq_true.mp this j.toNat (List.mem_range.mpr (by omega))
  simp only [Bool.and_eq_true, decide_eq_true_eq] at this
  rwa [show ((j.toNat : Nat) : Int) = j by omega] at this
