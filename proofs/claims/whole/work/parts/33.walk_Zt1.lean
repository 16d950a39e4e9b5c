set_option maxRecDepth 20000 in
set_option maxHeartbeats 4000000 in
theorem B_Zt_turn_61 {G : zG} {h sl : Nat} (hsl : 1 ≤ sl) {u : Nat × Nat × Nat × Nat} {s0 s1 : Int} {M : zM} {Q : Int → zM → Prop} (H : zCt G h sl 0 0 y_Line_go [(2, 4), (0, s1), (0, s0)] M (fun r1 M2 => zCt G h sl 0 0 y_Zt_settle [(2, 1)] M2 (fun r3 M4 => Q 1 M4))) : zX G (y_Zt_turn, h + 1, sl) u 61 [(0, (2, 1))] [(0, s0), (0, s1), (2, 4)] M Q := by
  refine x_callVv (n := 2) (ci := 4) (zdm d_Zt_turn_0 31 rfl) k_Zt_292 (As := [(0, s1), (0, s0)]) rfl rfl rfl ⟨_, _, rfl⟩ (Nat.le_of_ble_eq_true rfl) rfl H (fun r1 M2 hr H => ?_)
  refine x_aload_n (zdm d_Zt_turn_0 32 rfl) rfl (n := 0) rfl ?_
  refine x_callVv (n := 0) (ci := 10) (zdm d_Zt_turn_0 33 rfl) k_Zt_283 (As := []) rfl rfl rfl ⟨_, _, rfl⟩ (Nat.le_of_ble_eq_true rfl) rfl H (fun r3 M4 hr H => ?_)
  refine x_iconst (zdm d_Zt_turn_0 34 rfl) (zIl rfl) ?_
  exact x_ireturn (zdm d_Zt_turn_0 35 rfl) (ty := .boolean) rfl (by decide) (Or.inr rfl) H
set_option maxRecDepth 20000 in
set_option maxHeartbeats 4000000 in
theorem B_Zt_turn_23 {G : zG} {h sl : Nat} (hsl : 1 ≤ sl) {u : Nat × Nat × Nat × Nat} {M : zM} {Q : Int → zM → Prop} (H : zCt G h sl 0 0 y_Zt_refused [(2, 1), (0, 2)] M (fun r1 M2 => Q r1 M2)) : zX G (y_Zt_turn, h + 1, sl) u 23 [(0, (2, 1))] [] M Q := by
  refine x_aload_n (zdm d_Zt_turn_0 11 rfl) rfl (n := 0) rfl ?_
  refine x_iconst (zdm d_Zt_turn_0 12 rfl) (zIl rfl) ?_
  refine x_callVi (n := 1) (ci := 10) (zdm d_Zt_turn_0 13 rfl) k_Zt_110 (As := [(0, 2)]) rfl rfl rfl ⟨_, _, rfl⟩ (Nat.le_of_ble_eq_true rfl) trivial H (fun r1 M2 hr H => ?_)
  have b3 : r1 = 0 ∨ r1 = 1 := hr
  exact x_ireturn (zdm d_Zt_turn_0 14 rfl) (ty := .boolean) rfl (by decide) b3 H
set_option maxRecDepth 20000 in
set_option maxHeartbeats 4000000 in
theorem E_Zt_turn {G : zG} {h sl : Nat} (hsl : 1 ≤ sl) {l1 : Int} {M : zM} {Q : Int → zM → Prop} (H : zCt G h sl 0 0 y_Zt_isColumn [(2, 1), (0, l1)] M (fun r1 M2 => (r1 = 0 → zX G (y_Zt_turn, h + 1, sl) (0, 0, 0, 0) 23 [(0, (2, 1))] [] M2 Q) ∧ (¬ r1 = 0 → (zK (M2 1 11) = (8, 0)) ∧ ((0 ≤ l1 ∧ l1 < 8) ∧ (((M2 ((M2 1 11) + 7 + 2 * l1) 1) = 0 → zCt G h sl 0 0 y_History_remember [(2, 18), (2, 4)] M2 (fun r6 M7 => zCt G h sl 0 0 y_Line_goesUp [(2, 4), (0, l1)] M7 (fun r8 M9 => (¬ r8 = 0 → zX G (y_Zt_turn, h + 1, sl) (0, 0, 0, 0) 61 [(0, (2, 1))] [(0, 0), (0, l1), (2, 4)] M9 Q) ∧ (¬ (¬ r8 = 0) → zX G (y_Zt_turn, h + 1, sl) (0, 0, 0, 0) 61 [(0, (2, 1))] [(0, 1), (0, l1), (2, 4)] M9 Q)))) ∧ (¬ (M2 ((M2 1 11) + 7 + 2 * l1) 1) = 0 → zX G (y_Zt_turn, h + 1, sl) (0, 0, 0, 0) 23 [(0, (2, 1))] [] M2 Q)))))) : zCt G (h + 1) sl 0 0 y_Zt_turn [(2, 1), (0, l1)] M Q := by
  refine zCt.of (by decide +kernel) (Nat.le_of_ble_eq_true rfl) ?_
  refine x_aload_n (zdm d_Zt_turn_0 0 rfl) rfl (n := 0) rfl ?_
  refine x_iload_n (zdm d_Zt_turn_0 1 rfl) rfl (n := 1) rfl ?_
  refine x_callVi (n := 1) (ci := 10) (zdm d_Zt_turn_0 2 rfl) k_Zt_150 (As := [(0, l1)]) rfl rfl rfl ⟨_, _, rfl⟩ (Nat.le_of_ble_eq_true rfl) trivial H (fun r1 M2 hr H => ?_)
  have b3 : r1 = 0 ∨ r1 = 1 := hr
  refine x_ifeq (tgt := 23) (zdm d_Zt_turn_0 3 rfl) (by decide) (fun c => ?_) (fun c => ?_)
  · have H := H.1 c
    exact zX.sub [0] rfl H
  · have H := H.2 c
    refine x_aload_n (zdm d_Zt_turn_0 4 rfl) rfl (n := 0) rfl ?_
    refine x_getf (zdm d_Zt_turn_0 5 rfl) f_Zt_82 rfl rfl ?_
    obtain ⟨g4, H⟩ := H
    refine x_getG (zdm d_Zt_turn_0 6 rfl) f_Zt_153 g4 rfl (by decide) hsl (zs_8 g4).1.1 ?_
    refine x_iload_n (zdm d_Zt_turn_0 7 rfl) rfl (n := 1) rfl ?_
    obtain ⟨g5, H⟩ := H
    refine x_aald5G (zdm d_Zt_turn_0 8 rfl) (zs_8 g4).1.2 g5 hsl (zs_cols g4 g5.1 g5.2).1 ?_
    refine x_getf (zdm d_Zt_turn_0 9 rfl) f_Zt_162 (zs_cols g4 g5.1 g5.2).2 rfl ?_
    refine x_ifeq (tgt := 29) (zdm d_Zt_turn_0 10 rfl) (by decide) (fun c => ?_) (fun c => ?_)
    · have H := H.1 c
      refine x_aload_n (zdm d_Zt_turn_0 15 rfl) rfl (n := 0) rfl ?_
      refine x_getG (zdm d_Zt_turn_0 16 rfl) f_Zt_41 rfl rfl (by decide) hsl rfl ?_
      refine x_aload_n (zdm d_Zt_turn_0 17 rfl) rfl (n := 0) rfl ?_
      refine x_getG (zdm d_Zt_turn_0 18 rfl) f_Zt_19 rfl rfl (by decide) hsl rfl ?_
      refine x_callVv (n := 1) (ci := 3) (zdm d_Zt_turn_0 19 rfl) k_Zt_273 (As := [(2, 4)]) rfl rfl rfl ⟨_, _, rfl⟩ (Nat.le_of_ble_eq_true rfl) rfl H (fun r6 M7 hr H => ?_)
      refine x_aload_n (zdm d_Zt_turn_0 20 rfl) rfl (n := 0) rfl ?_
      refine x_getG (zdm d_Zt_turn_0 21 rfl) f_Zt_19 rfl rfl (by decide) hsl rfl ?_
      refine x_iload_n (zdm d_Zt_turn_0 22 rfl) rfl (n := 1) rfl ?_
      refine x_aload_n (zdm d_Zt_turn_0 23 rfl) rfl (n := 0) rfl ?_
      refine x_getG (zdm d_Zt_turn_0 24 rfl) f_Zt_19 rfl rfl (by decide) hsl rfl ?_
      refine x_iload_n (zdm d_Zt_turn_0 25 rfl) rfl (n := 1) rfl ?_
      refine x_callVi (n := 1) (ci := 4) (zdm d_Zt_turn_0 26 rfl) k_Zt_165 (As := [(0, l1)]) rfl rfl rfl ⟨_, _, rfl⟩ (Nat.le_of_ble_eq_true rfl) trivial H (fun r8 M9 hr H => ?_)
      have b10 : r8 = 0 ∨ r8 = 1 := hr
      refine x_ifne (tgt := 60) (zdm d_Zt_turn_0 27 rfl) (by decide) (fun c => ?_) (fun c => ?_)
      · have H := H.1 c
        refine x_iconst (zdm d_Zt_turn_0 30 rfl) (zIl rfl) ?_
        exact zX.sub [0] rfl H
      · have H := H.2 c
        refine x_iconst (zdm d_Zt_turn_0 28 rfl) (zIl rfl) ?_
        refine x_goto (tgt := 61) (zdm d_Zt_turn_0 29 rfl) (by decide) ?_
        exact zX.sub [0] rfl H
    · have H := H.2 c
      exact zX.sub [0] rfl H
set_option maxRecDepth 20000 in
set_option maxHeartbeats 4000000 in
theorem B_Zt_chance_76 {G : zG} {h sl : Nat} (hsl : 1 ≤ sl) {u : Nat × Nat × Nat × Nat} {l1 l2 l3 : Int} {M : zM} {Q : Int → zM → Prop} (H : zCt G h sl 0 0 y_Zt_keepIfMarked [(2, 1)] M (fun r1 M2 => (zI (l3 + 1)) ∧ (zX G (y_Zt_chance, h + 1, sl) u 48 [(0, (2, 1)), (1, (0, l1)), (2, (0, l2)), (3, (0, (l3 + 1)))] [] M2 Q))) : zX G (y_Zt_chance, h + 1, sl) u 76 [(0, (2, 1)), (1, (0, l1)), (2, (0, l2)), (3, (0, l3))] [] M Q := by
  refine x_aload_n (zdm d_Zt_chance_0 41 rfl) rfl (n := 0) rfl ?_
  refine x_callVi (n := 0) (ci := 10) (zdm d_Zt_chance_0 42 rfl) k_Zt_279 (As := []) rfl rfl rfl ⟨_, _, rfl⟩ (Nat.le_of_ble_eq_true rfl) trivial H (fun r1 M2 hr H => ?_)
  have b3 : r1 = 0 ∨ r1 = 1 := hr
  refine x_pop (zdm d_Zt_chance_0 43 rfl) z0n1 ?_
  obtain ⟨g4, H⟩ := H
  refine x_iinc (zdm d_Zt_chance_0 44 rfl) (n := 3) rfl g4 (zlt rfl) rfl ?_
  refine x_goto (tgt := 48) (zdm d_Zt_chance_0 45 rfl) (by decide) ?_
  exact zX.sub [1, 2, 3, 0] rfl H
set_option maxRecDepth 20000 in
set_option maxHeartbeats 4000000 in
theorem B_Zt_chance_48 {G : zG} {h sl : Nat} (hsl : 1 ≤ sl) {u : Nat × Nat × Nat × Nat} {l1 l2 l3 : Int} {M : zM} {Q : Int → zM → Prop} (H : (l1 ≤ l3 → zCt G h sl 0 0 y_Zt_settle [(2, 1)] M (fun r1 M2 => Q l2 M2)) ∧ (¬ l1 ≤ l3 → (zK (M 1 11) = (8, 0)) ∧ (zCt G h sl 0 0 y_Tablet_next [(2, (M 1 11)), (2, 4), (0, (-1)), (0, 0)] M (fun r3 M4 => zCt G h sl 0 0 y_Zt_slipByTheSeed [(2, 1)] M4 (fun r6 M7 => (r6 = 0 → zX G (y_Zt_chance, h + 1, sl) u 76 [(0, (2, 1)), (1, (0, l1)), (2, (0, l2)), (3, (0, l3))] [] M7 Q) ∧ (¬ r6 = 0 → (zI (l2 + 1)) ∧ (zX G (y_Zt_chance, h + 1, sl) u 76 [(0, (2, 1)), (1, (0, l1)), (2, (0, (l2 + 1))), (3, (0, l3))] [] M7 Q))))))) : zX G (y_Zt_chance, h + 1, sl) u 48 [(0, (2, 1)), (1, (0, l1)), (2, (0, l2)), (3, (0, l3))] [] M Q := by
  refine x_iload_n (zdm d_Zt_chance_0 27 rfl) rfl (n := 3) rfl ?_
  refine x_iload_n (zdm d_Zt_chance_0 28 rfl) rfl (n := 1) rfl ?_
  refine x_icmpge (tgt := 87) (zdm d_Zt_chance_0 29 rfl) (by decide) (fun c => ?_) (fun c => ?_)
  · have H := H.1 c
    refine x_aload_n (zdm d_Zt_chance_0 46 rfl) rfl (n := 0) rfl ?_
    refine x_callVv (n := 0) (ci := 10) (zdm d_Zt_chance_0 47 rfl) k_Zt_283 (As := []) rfl rfl rfl ⟨_, _, rfl⟩ (Nat.le_of_ble_eq_true rfl) rfl H (fun r1 M2 hr H => ?_)
    refine x_iload_n (zdm d_Zt_chance_0 48 rfl) rfl (n := 2) rfl ?_
    exact x_iret (zdm d_Zt_chance_0 49 rfl) rfl H
  · have H := H.2 c
    refine x_aload_n (zdm d_Zt_chance_0 30 rfl) rfl (n := 0) rfl ?_
    refine x_getf (zdm d_Zt_chance_0 31 rfl) f_Zt_82 rfl rfl ?_
    refine x_aload_n (zdm d_Zt_chance_0 32 rfl) rfl (n := 0) rfl ?_
    refine x_getG (zdm d_Zt_chance_0 33 rfl) f_Zt_19 rfl rfl (by decide) hsl rfl ?_
    refine x_iconst (zdm d_Zt_chance_0 34 rfl) (zIl rfl) ?_
    refine x_iconst (zdm d_Zt_chance_0 35 rfl) (zIl rfl) ?_
    obtain ⟨g5, H⟩ := H
    refine x_callVv (n := 3) (ci := 8) (zdm d_Zt_chance_0 36 rfl) k_Zt_276 (As := [(2, 4), (0, (-1)), (0, 0)]) rfl rfl g5 ⟨_, _, rfl⟩ (Nat.le_of_ble_eq_true rfl) rfl H (fun r3 M4 hr H => ?_)
    refine x_aload_n (zdm d_Zt_chance_0 37 rfl) rfl (n := 0) rfl ?_
    refine x_callVi (n := 0) (ci := 10) (zdm d_Zt_chance_0 38 rfl) k_Zt_296 (As := []) rfl rfl rfl ⟨_, _, rfl⟩ (Nat.le_of_ble_eq_true rfl) trivial H (fun r6 M7 hr H => ?_)
    have b8 : r6 = 0 ∨ r6 = 1 := hr
    refine x_ifeq (tgt := 76) (zdm d_Zt_chance_0 39 rfl) (by decide) (fun c => ?_) (fun c => ?_)
    · have H := H.1 c
      exact H
    · have H := H.2 c
      obtain ⟨g9, H⟩ := H
      refine x_iinc (zdm d_Zt_chance_0 40 rfl) (n := 2) rfl g9 (zlt rfl) rfl ?_
      exact zX.sub [1, 2, 0, 3] rfl H
set_option maxRecDepth 20000 in
set_option maxHeartbeats 4000000 in
theorem E_Zt_chance {G : zG} {h sl : Nat} (hsl : 1 ≤ sl) {l1 : Int} {M : zM} {Q : Int → zM → Prop} (H : zCt G h sl 0 0 y_Zt_isAhead [(2, 1), (0, l1), (0, 1), (0, 100)] M (fun r1 M2 => (¬ r1 = 0 → zCt G h sl 0 0 y_History_remember [(2, 18), (2, 4)] M2 (fun r4 M5 => (zI ((M5 4 1) + l1)) ∧ (zCt G h sl 0 0 y_Course_reach [(2, 8), (0, ((M5 4 1) + l1))] M5 (fun r7 M8 => zX G (y_Zt_chance, h + 1, sl) (0, 0, 0, 0) 48 [(0, (2, 1)), (1, (0, l1)), (2, (0, 0)), (3, (0, 0))] [] M8 Q)))) ∧ (¬ (¬ r1 = 0) → zCt G h sl 0 0 y_Zt_none [(2, 1), (0, 3)] M2 (fun r9 M10 => Q r9 M10)))) : zCt G (h + 1) sl 0 0 y_Zt_chance [(2, 1), (0, l1)] M Q := by
  refine zCt.of (by decide +kernel) (Nat.le_of_ble_eq_true rfl) ?_
  refine x_aload_n (zdm d_Zt_chance_0 0 rfl) rfl (n := 0) rfl ?_
  refine x_iload_n (zdm d_Zt_chance_0 1 rfl) rfl (n := 1) rfl ?_
  refine x_iconst (zdm d_Zt_chance_0 2 rfl) (zIl rfl) ?_
  refine x_bipush (zdm d_Zt_chance_0 3 rfl) (by decide) ?_
  refine x_callVi (n := 3) (ci := 10) (zdm d_Zt_chance_0 4 rfl) k_Zt_189 (As := [(0, l1), (0, 1), (0, 100)]) rfl rfl rfl ⟨_, _, rfl⟩ (Nat.le_of_ble_eq_true rfl) trivial H (fun r1 M2 hr H => ?_)
  have b3 : r1 = 0 ∨ r1 = 1 := hr
  refine x_ifne (tgt := 17) (zdm d_Zt_chance_0 5 rfl) (by decide) (fun c => ?_) (fun c => ?_)
  · have H := H.1 c
    refine x_aload_n (zdm d_Zt_chance_0 10 rfl) rfl (n := 0) rfl ?_
    refine x_getG (zdm d_Zt_chance_0 11 rfl) f_Zt_41 rfl rfl (by decide) hsl rfl ?_
    refine x_aload_n (zdm d_Zt_chance_0 12 rfl) rfl (n := 0) rfl ?_
    refine x_getG (zdm d_Zt_chance_0 13 rfl) f_Zt_19 rfl rfl (by decide) hsl rfl ?_
    refine x_callVv (n := 1) (ci := 3) (zdm d_Zt_chance_0 14 rfl) k_Zt_273 (As := [(2, 4)]) rfl rfl rfl ⟨_, _, rfl⟩ (Nat.le_of_ble_eq_true rfl) rfl H (fun r4 M5 hr H => ?_)
    refine x_aload_n (zdm d_Zt_chance_0 15 rfl) rfl (n := 0) rfl ?_
    refine x_getG (zdm d_Zt_chance_0 16 rfl) f_Zt_31 rfl rfl (by decide) hsl rfl ?_
    refine x_aload_n (zdm d_Zt_chance_0 17 rfl) rfl (n := 0) rfl ?_
    refine x_getG (zdm d_Zt_chance_0 18 rfl) f_Zt_19 rfl rfl (by decide) hsl rfl ?_
    refine x_getf (zdm d_Zt_chance_0 19 rfl) f_Zt_130 rfl rfl ?_
    refine x_iload_n (zdm d_Zt_chance_0 20 rfl) rfl (n := 1) rfl ?_
    obtain ⟨g6, H⟩ := H
    refine x_iadd (zdm d_Zt_chance_0 21 rfl) g6 ?_
    refine x_callVv (n := 1) (ci := 2) (zdm d_Zt_chance_0 22 rfl) k_Zt_193 (As := [(0, ((M5 4 1) + l1))]) rfl rfl rfl ⟨_, _, rfl⟩ (Nat.le_of_ble_eq_true rfl) rfl H (fun r7 M8 hr H => ?_)
    refine x_iconst (zdm d_Zt_chance_0 23 rfl) (zIl rfl) ?_
    refine x_istore_n (zdm d_Zt_chance_0 24 rfl) rfl (zlt rfl) rfl ?_
    refine x_iconst (zdm d_Zt_chance_0 25 rfl) (zIl rfl) ?_
    refine x_istore_n (zdm d_Zt_chance_0 26 rfl) rfl (zlt rfl) rfl ?_
    exact zX.sub [2, 3, 1, 0] rfl H
  · have H := H.2 c
    refine x_aload_n (zdm d_Zt_chance_0 6 rfl) rfl (n := 0) rfl ?_
    refine x_iconst (zdm d_Zt_chance_0 7 rfl) (zIl rfl) ?_
    refine x_callVi (n := 1) (ci := 10) (zdm d_Zt_chance_0 8 rfl) k_Zt_103 (As := [(0, 3)]) rfl rfl rfl ⟨_, _, rfl⟩ (Nat.le_of_ble_eq_true rfl) trivial H (fun r9 M10 hr H => ?_)
    exact x_iret (zdm d_Zt_chance_0 9 rfl) rfl H
set_option maxRecDepth 20000 in
set_option maxHeartbeats 4000000 in
theorem E_Zt_undo {G : zG} {h sl : Nat} (hsl : 1 ≤ sl) {M : zM} {Q : Int → zM → Prop} (H : zCt G h sl 0 0 y_History_goBack [(2, 18), (2, 4)] M (fun r1 M2 => (¬ r1 = 0 → zCt G h sl 0 0 y_Zt_settle [(2, 1)] M2 (fun r4 M5 => Q 1 M5)) ∧ (¬ (¬ r1 = 0) → zCt G h sl 0 0 y_Zt_refused [(2, 1), (0, 4)] M2 (fun r6 M7 => Q r6 M7)))) : zCt G (h + 1) sl 0 0 y_Zt_undo [(2, 1)] M Q := by
  refine zCt.of (by decide +kernel) (Nat.le_of_ble_eq_true rfl) ?_
  refine x_aload_n (zdm d_Zt_undo_0 0 rfl) rfl (n := 0) rfl ?_
  refine x_getG (zdm d_Zt_undo_0 1 rfl) f_Zt_41 rfl rfl (by decide) hsl rfl ?_
  refine x_aload_n (zdm d_Zt_undo_0 2 rfl) rfl (n := 0) rfl ?_
  refine x_getG (zdm d_Zt_undo_0 3 rfl) f_Zt_19 rfl rfl (by decide) hsl rfl ?_
  refine x_callVi (n := 1) (ci := 3) (zdm d_Zt_undo_0 4 rfl) k_Zt_299 (As := [(2, 4)]) rfl rfl rfl ⟨_, _, rfl⟩ (Nat.le_of_ble_eq_true rfl) trivial H (fun r1 M2 hr H => ?_)
  have b3 : r1 = 0 ∨ r1 = 1 := hr
  refine x_ifne (tgt := 20) (zdm d_Zt_undo_0 5 rfl) (by decide) (fun c => ?_) (fun c => ?_)
  · have H := H.1 c
    refine x_aload_n (zdm d_Zt_undo_0 10 rfl) rfl (n := 0) rfl ?_
    refine x_callVv (n := 0) (ci := 10) (zdm d_Zt_undo_0 11 rfl) k_Zt_283 (As := []) rfl rfl rfl ⟨_, _, rfl⟩ (Nat.le_of_ble_eq_true rfl) rfl H (fun r4 M5 hr H => ?_)
    refine x_iconst (zdm d_Zt_undo_0 12 rfl) (zIl rfl) ?_
    exact x_ireturn (zdm d_Zt_undo_0 13 rfl) (ty := .boolean) rfl (by decide) (Or.inr rfl) H
  · have H := H.2 c
    refine x_aload_n (zdm d_Zt_undo_0 6 rfl) rfl (n := 0) rfl ?_
    refine x_iconst (zdm d_Zt_undo_0 7 rfl) (zIl rfl) ?_
    refine x_callVi (n := 1) (ci := 10) (zdm d_Zt_undo_0 8 rfl) k_Zt_110 (As := [(0, 4)]) rfl rfl rfl ⟨_, _, rfl⟩ (Nat.le_of_ble_eq_true rfl) trivial H (fun r6 M7 hr H => ?_)
    have b8 : r6 = 0 ∨ r6 = 1 := hr
    exact x_ireturn (zdm d_Zt_undo_0 9 rfl) (ty := .boolean) rfl (by decide) b8 H
set_option maxRecDepth 20000 in
set_option maxHeartbeats 4000000 in
theorem E_Zt_seed {G : zG} {h sl : Nat} (hsl : 1 ≤ sl) {l1 : Int} {M : zM} {Q : Int → zM → Prop} (H : (0 ≤ l1 → Q 1 (zwr M 1 16 l1)) ∧ (¬ 0 ≤ l1 → zCt G h sl 0 0 y_Zt_refused [(2, 1), (0, 5)] M (fun r1 M2 => Q r1 M2))) : zCt G (h + 1) sl 0 0 y_Zt_seed [(2, 1), (0, l1)] M Q := by
  refine zCt.of (by decide +kernel) (Nat.le_of_ble_eq_true rfl) ?_
  refine x_iload_n (zdm d_Zt_seed_0 0 rfl) rfl (n := 1) rfl ?_
  refine x_ifge (tgt := 10) (zdm d_Zt_seed_0 1 rfl) (by decide) (fun c => ?_) (fun c => ?_)
  · have H := H.1 c
    refine x_aload_n (zdm d_Zt_seed_0 6 rfl) rfl (n := 0) rfl ?_
    refine x_iload_n (zdm d_Zt_seed_0 7 rfl) rfl (n := 1) rfl ?_
    refine x_i2l (zdm d_Zt_seed_0 8 rfl) ?_
    refine x_putf (zdm d_Zt_seed_0 9 rfl) f_Zt_93 rfl ⟨rfl, trivial⟩ (Or.inl rfl) ?_
    refine x_iconst (zdm d_Zt_seed_0 10 rfl) (zIl rfl) ?_
    exact x_ireturn (zdm d_Zt_seed_0 11 rfl) (ty := .boolean) rfl (by decide) (Or.inr rfl) H
  · have H := H.2 c
    refine x_aload_n (zdm d_Zt_seed_0 2 rfl) rfl (n := 0) rfl ?_
    refine x_iconst (zdm d_Zt_seed_0 3 rfl) (zIl rfl) ?_
    refine x_callVi (n := 1) (ci := 10) (zdm d_Zt_seed_0 4 rfl) k_Zt_110 (As := [(0, 5)]) rfl rfl rfl ⟨_, _, rfl⟩ (Nat.le_of_ble_eq_true rfl) trivial H (fun r1 M2 hr H => ?_)
    have b3 : r1 = 0 ∨ r1 = 1 := hr
    exact x_ireturn (zdm d_Zt_seed_0 5 rfl) (ty := .boolean) rfl (by decide) b3 H
set_option maxRecDepth 20000 in
set_option maxHeartbeats 4000000 in
theorem E_Zt_ask {G : zG} {h sl : Nat} (hsl : 1 ≤ sl) {M : zM} {Q : Int → zM → Prop} (H : zCt G h sl 0 0 y_Reader_readQuestion [(2, 72)] M (fun r1 M2 => zCt G h sl 0 0 y_Zt_noteFault [(2, 1)] M2 (fun r4 M5 => (¬ r1 = 0 → zCt G h sl 0 0 y_Zt_mostAhead [(2, 1)] M5 (fun r6 M7 => zCt G h sl 0 0 y_Course_reach [(2, 13), (0, r6)] M7 (fun r8 M9 => zCt G h sl 0 0 y_Question_answer [(2, 76), (2, (M9 1 11)), (0, (M9 72 2)), (2, 73)] M9 (fun r10 M11 => Q r10 M11)))) ∧ (¬ (¬ r1 = 0) → Q (-1000000000000000) M5)))) : zCt G (h + 1) sl 0 0 y_Zt_ask [(2, 1)] M Q := by
  refine zCt.of (by decide +kernel) (Nat.le_of_ble_eq_true rfl) ?_
  refine x_aload_n (zdm d_Zt_ask_0 0 rfl) rfl (n := 0) rfl ?_
  refine x_getG (zdm d_Zt_ask_0 1 rfl) f_Zt_59 rfl rfl (by decide) hsl rfl ?_
  refine x_callVi (n := 0) (ci := 7) (zdm d_Zt_ask_0 2 rfl) k_Zt_302 (As := []) rfl rfl rfl ⟨_, _, rfl⟩ (Nat.le_of_ble_eq_true rfl) trivial H (fun r1 M2 hr H => ?_)
  have b3 : r1 = 0 ∨ r1 = 1 := hr
  refine x_istore_n (zdm d_Zt_ask_0 3 rfl) rfl (zlt rfl) rfl ?_
  refine x_aload_n (zdm d_Zt_ask_0 4 rfl) rfl (n := 1) rfl ?_
  refine x_callVv (n := 0) (ci := 10) (zdm d_Zt_ask_0 5 rfl) k_Zt_118 (As := []) rfl rfl rfl ⟨_, _, rfl⟩ (Nat.le_of_ble_eq_true rfl) rfl H (fun r4 M5 hr H => ?_)
  refine x_iload_n (zdm d_Zt_ask_0 6 rfl) rfl (n := 0) rfl ?_
  refine x_ifne (tgt := 20) (zdm d_Zt_ask_0 7 rfl) (by decide) (fun c => ?_) (fun c => ?_)
  · have H := H.1 c
    refine x_aload_n (zdm d_Zt_ask_0 10 rfl) rfl (n := 1) rfl ?_
    refine x_getG (zdm d_Zt_ask_0 11 rfl) f_Zt_35 rfl rfl (by decide) hsl rfl ?_
    refine x_aload_n (zdm d_Zt_ask_0 12 rfl) rfl (n := 1) rfl ?_
    refine x_callVi (n := 0) (ci := 10) (zdm d_Zt_ask_0 13 rfl) k_Zt_207 (As := []) rfl rfl rfl ⟨_, _, rfl⟩ (Nat.le_of_ble_eq_true rfl) trivial H (fun r6 M7 hr H => ?_)
    refine x_callVv (n := 1) (ci := 2) (zdm d_Zt_ask_0 14 rfl) k_Zt_193 (As := [(0, r6)]) rfl rfl rfl ⟨_, _, rfl⟩ (Nat.le_of_ble_eq_true rfl) rfl H (fun r8 M9 hr H => ?_)
    refine x_aload_n (zdm d_Zt_ask_0 15 rfl) rfl (n := 1) rfl ?_
    refine x_getG (zdm d_Zt_ask_0 16 rfl) f_Zt_68 rfl rfl (by decide) hsl rfl ?_
    refine x_aload_n (zdm d_Zt_ask_0 17 rfl) rfl (n := 1) rfl ?_
    refine x_getf (zdm d_Zt_ask_0 18 rfl) f_Zt_82 rfl rfl ?_
    refine x_aload_n (zdm d_Zt_ask_0 19 rfl) rfl (n := 1) rfl ?_
    refine x_getG (zdm d_Zt_ask_0 20 rfl) f_Zt_59 rfl rfl (by decide) hsl rfl ?_
    refine x_getf (zdm d_Zt_ask_0 21 rfl) f_Zt_305 rfl rfl ?_
    refine x_aload_n (zdm d_Zt_ask_0 22 rfl) rfl (n := 1) rfl ?_
    refine x_getG (zdm d_Zt_ask_0 23 rfl) f_Zt_59 rfl rfl (by decide) hsl rfl ?_
    refine x_getG (zdm d_Zt_ask_0 24 rfl) f_Zt_308 rfl rfl (by decide) hsl rfl ?_
    refine x_callVl (n := 3) (ci := 6) (zdm d_Zt_ask_0 25 rfl) k_Zt_312 (As := [(2, (M9 1 11)), (0, (M9 72 2)), (2, 73)]) rfl rfl rfl ⟨_, _, rfl⟩ (Nat.le_of_ble_eq_true rfl) rfl H (fun r10 M11 hr H => ?_)
    exact x_lreturn (zdm d_Zt_ask_0 26 rfl) rfl H
  · have H := H.2 c
    refine x_ldc2 (zdm d_Zt_ask_0 8 rfl) (n := (-1000000000000000)) (zLl rfl) w_Zt_174 ?_
    exact x_lreturn (zdm d_Zt_ask_0 9 rfl) rfl H
set_option maxRecDepth 20000 in
set_option maxHeartbeats 4000000 in
theorem B_Zt_image_38 {G : zG} {h sl : Nat} (hsl : 1 ≤ sl) {u : Nat × Nat × Nat × Nat} {l1 l2 : Int} {M : zM} {Q : Int → zM → Prop} (H : (zK (M 1 11) = (8, 0)) ∧ (((M (M 1 11) 2) ≤ l2 → zCt G h sl 0 0 y_Zt_sealOf [(2, 77), (0, l1)] M (fun r2 M3 => (0 ≤ l1 ∧ l1 < 35) ∧ ((zI (l1 + 1)) ∧ (Q ((zwr (zwr M3 77 l1 r2) 1 13 (l1 + 1)) 1 13) (zwr (zwr M3 77 l1 r2) 1 13 (l1 + 1)))))) ∧ (¬ (M (M 1 11) 2) ≤ l2 → (0 ≤ l2 ∧ l2 < 8) ∧ ((zI ((M 5 l2) + 1000000)) ∧ ((0 ≤ l1 ∧ l1 < 35) ∧ ((zI (l1 + 1)) ∧ ((0 ≤ (l1 + 1) ∧ (l1 + 1) < 35) ∧ ((zI (l1 + 2)) ∧ ((0 ≤ (l1 + 2) ∧ (l1 + 2) < 35) ∧ ((zI (l1 + 3)) ∧ (zCt G h sl 0 0 y_Line_goesUp [(2, 4), (0, l2)] (zwr (zwr (zwr M 77 l1 (zand (zshr ((M 5 l2) + 1000000) 16) 255)) 77 (l1 + 1) (zand (zshr ((M 5 l2) + 1000000) 8) 255)) 77 (l1 + 2) (zand ((M 5 l2) + 1000000) 255)) (fun r14 M15 => (r14 = 0 → (0 ≤ (l1 + 3) ∧ (l1 + 3) < 35) ∧ ((zI (l1 + 4)) ∧ ((zI (l2 + 1)) ∧ (zX G (y_Zt_image, h + 1, sl) u 38 [(0, (2, 1)), (1, (0, (l1 + 4))), (2, (0, (l2 + 1)))] [] (zwr M15 77 (l1 + 3) 0) Q)))) ∧ (¬ r14 = 0 → (0 ≤ (l1 + 3) ∧ (l1 + 3) < 35) ∧ ((zI (l1 + 4)) ∧ ((zI (l2 + 1)) ∧ (zX G (y_Zt_image, h + 1, sl) u 38 [(0, (2, 1)), (1, (0, (l1 + 4))), (2, (0, (l2 + 1)))] [] (zwr M15 77 (l1 + 3) 1) Q)))))))))))))))) : zX G (y_Zt_image, h + 1, sl) u 38 [(0, (2, 1)), (1, (0, l1)), (2, (0, l2))] [] M Q := by
  refine x_iload_n (zdm d_Zt_image_0 22 rfl) rfl (n := 2) rfl ?_
  refine x_aload_n (zdm d_Zt_image_0 23 rfl) rfl (n := 0) rfl ?_
  refine x_getf (zdm d_Zt_image_0 24 rfl) f_Zt_82 rfl rfl ?_
  obtain ⟨g1, H⟩ := H
  refine x_getf (zdm d_Zt_image_0 25 rfl) f_Zt_127 g1 rfl ?_
  refine x_icmpge (tgt := 139) (zdm d_Zt_image_0 26 rfl) (by decide) (fun c => ?_) (fun c => ?_)
  · have H := H.1 c
    refine x_aload_n (zdm d_Zt_image_1 21 rfl) rfl (n := 0) rfl ?_
    refine x_getG (zdm d_Zt_image_1 22 rfl) f_Zt_72 rfl rfl (by decide) hsl rfl ?_
    refine x_iload_n (zdm d_Zt_image_1 23 rfl) rfl (n := 1) rfl ?_
    refine x_aload_n (zdm d_Zt_image_1 24 rfl) rfl (n := 0) rfl ?_
    refine x_getG (zdm d_Zt_image_1 25 rfl) f_Zt_72 rfl rfl (by decide) hsl rfl ?_
    refine x_iload_n (zdm d_Zt_image_1 26 rfl) rfl (n := 1) rfl ?_
    refine x_callSi (n := 2) (zdm d_Zt_image_1 27 rfl) k_Zt_317 (As := [(2, 77), (0, l1)]) rfl rfl (Nat.le_of_ble_eq_true rfl) trivial H (fun r2 M3 hr H => ?_)
    obtain ⟨g4, H⟩ := H
    refine x_iast (zdm d_Zt_image_1 28 rfl) rfl g4 ?_
    refine x_aload_n (zdm d_Zt_image_1 29 rfl) rfl (n := 0) rfl ?_
    refine x_iload_n (zdm d_Zt_image_1 30 rfl) rfl (n := 1) rfl ?_
    refine x_iconst (zdm d_Zt_image_1 31 rfl) (zIl rfl) ?_
    obtain ⟨g5, H⟩ := H
    refine x_iadd (zdm d_Zt_image_1 32 rfl) g5 ?_
    refine x_putf (zdm d_Zt_image_1 33 rfl) f_Zt_321 rfl ⟨rfl, trivial⟩ (Or.inl rfl) ?_
    refine x_aload_n (zdm d_Zt_image_1 34 rfl) rfl (n := 0) rfl ?_
    refine x_getf (zdm d_Zt_image_1 35 rfl) f_Zt_321 rfl rfl ?_
    exact x_iret (zdm d_Zt_image_1 36 rfl) rfl H
  · have H := H.2 c
    refine x_aload_n (zdm d_Zt_image_0 27 rfl) rfl (n := 0) rfl ?_
    refine x_getG (zdm d_Zt_image_0 28 rfl) f_Zt_19 rfl rfl (by decide) hsl rfl ?_
    refine x_getG (zdm d_Zt_image_0 29 rfl) f_Zt_176 rfl rfl (by decide) hsl rfl ?_
    refine x_iload_n (zdm d_Zt_image_0 30 rfl) rfl (n := 2) rfl ?_
    obtain ⟨g6, H⟩ := H
    refine x_iald (zdm d_Zt_image_0 31 rfl) rfl g6 ?_
    refine x_ldcw (zdm d_Zt_image_0 32 rfl) (n := 1000000) (zIl rfl) w_Zt_316 ?_
    obtain ⟨g7, H⟩ := H
    refine x_iadd (zdm d_Zt_image_0 33 rfl) g7 ?_
    refine x_istore_n (zdm d_Zt_image_0 34 rfl) rfl (zlt rfl) rfl ?_
    refine x_aload_n (zdm d_Zt_image_0 35 rfl) rfl (n := 1) rfl ?_
    refine x_getG (zdm d_Zt_image_0 36 rfl) f_Zt_72 rfl rfl (by decide) hsl rfl ?_
    refine x_iload_n (zdm d_Zt_image_0 37 rfl) rfl (n := 2) rfl ?_
    refine x_iload_n (zdm d_Zt_image_0 38 rfl) rfl (n := 0) rfl ?_
    refine x_bipush (zdm d_Zt_image_0 39 rfl) (by decide) ?_
    refine x_ishr (zdm d_Zt_image_0 40 rfl) ?_
    refine x_sipush (zdm d_Zt_image_0 41 rfl) (by decide) ?_
    refine x_iand (zdm d_Zt_image_0 42 rfl) ?_
    obtain ⟨g8, H⟩ := H
    refine x_iast (zdm d_Zt_image_0 43 rfl) rfl g8 ?_
    refine x_aload_n (zdm d_Zt_image_0 44 rfl) rfl (n := 1) rfl ?_
    refine x_getG (zdm d_Zt_image_0 45 rfl) f_Zt_72 rfl rfl (by decide) hsl rfl ?_
    refine x_iload_n (zdm d_Zt_image_0 46 rfl) rfl (n := 2) rfl ?_
    refine x_iconst (zdm d_Zt_image_0 47 rfl) (zIl rfl) ?_
    obtain ⟨g9, H⟩ := H
    refine x_iadd (zdm d_Zt_image_0 48 rfl) g9 ?_
    refine x_iload_n (zdm d_Zt_image_0 49 rfl) rfl (n := 0) rfl ?_
    refine x_bipush (zdm d_Zt_image_0 50 rfl) (by decide) ?_
    refine x_ishr (zdm d_Zt_image_0 51 rfl) ?_
    refine x_sipush (zdm d_Zt_image_0 52 rfl) (by decide) ?_
    refine x_iand (zdm d_Zt_image_0 53 rfl) ?_
    obtain ⟨g10, H⟩ := H
    refine x_iast (zdm d_Zt_image_0 54 rfl) rfl g10 ?_
    refine x_aload_n (zdm d_Zt_image_0 55 rfl) rfl (n := 1) rfl ?_
    refine x_getG (zdm d_Zt_image_0 56 rfl) f_Zt_72 rfl rfl (by decide) hsl rfl ?_
    refine x_iload_n (zdm d_Zt_image_0 57 rfl) rfl (n := 2) rfl ?_
    refine x_iconst (zdm d_Zt_image_0 58 rfl) (zIl rfl) ?_
    obtain ⟨g11, H⟩ := H
    refine x_iadd (zdm d_Zt_image_0 59 rfl) g11 ?_
    refine x_iload_n (zdm d_Zt_image_1 0 rfl) rfl (n := 0) rfl ?_
    refine x_sipush (zdm d_Zt_image_1 1 rfl) (by decide) ?_
    refine x_iand (zdm d_Zt_image_1 2 rfl) ?_
    obtain ⟨g12, H⟩ := H
    refine x_iast (zdm d_Zt_image_1 3 rfl) rfl g12 ?_
    refine x_aload_n (zdm d_Zt_image_1 4 rfl) rfl (n := 1) rfl ?_
    refine x_getG (zdm d_Zt_image_1 5 rfl) f_Zt_72 rfl rfl (by decide) hsl rfl ?_
    refine x_iload_n (zdm d_Zt_image_1 6 rfl) rfl (n := 2) rfl ?_
    refine x_iconst (zdm d_Zt_image_1 7 rfl) (zIl rfl) ?_
    obtain ⟨g13, H⟩ := H
    refine x_iadd (zdm d_Zt_image_1 8 rfl) g13 ?_
    refine x_aload_n (zdm d_Zt_image_1 9 rfl) rfl (n := 1) rfl ?_
    refine x_getG (zdm d_Zt_image_1 10 rfl) f_Zt_19 rfl rfl (by decide) hsl rfl ?_
    refine x_iload_n (zdm d_Zt_image_1 11 rfl) rfl (n := 3) rfl ?_
    refine x_callVi (n := 1) (ci := 4) (zdm d_Zt_image_1 12 rfl) k_Zt_165 (As := [(0, l2)]) rfl rfl rfl ⟨_, _, rfl⟩ (Nat.le_of_ble_eq_true rfl) trivial H (fun r14 M15 hr H => ?_)
    have b16 : r14 = 0 ∨ r14 = 1 := hr
    refine x_ifeq (tgt := 128) (zdm d_Zt_image_1 13 rfl) (by decide) (fun c => ?_) (fun c => ?_)
    · have H := H.1 c
      refine x_iconst (zdm d_Zt_image_1 16 rfl) (zIl rfl) ?_
      obtain ⟨g17, H⟩ := H
      refine x_iast (zdm d_Zt_image_1 17 rfl) rfl g17 ?_
      obtain ⟨g18, H⟩ := H
      refine x_iinc (zdm d_Zt_image_1 18 rfl) (n := 2) rfl g18 (zlt rfl) rfl ?_
      obtain ⟨g19, H⟩ := H
      refine x_iinc (zdm d_Zt_image_1 19 rfl) (n := 3) rfl g19 (zlt rfl) rfl ?_
      refine x_goto (tgt := 38) (zdm d_Zt_image_1 20 rfl) (by decide) ?_
      exact zX.sub [3, 1, 0] rfl H
    · have H := H.2 c
      refine x_iconst (zdm d_Zt_image_1 14 rfl) (zIl rfl) ?_
      refine x_goto (tgt := 129) (zdm d_Zt_image_1 15 rfl) (by decide) ?_
      obtain ⟨g20, H⟩ := H
      refine x_iast (zdm d_Zt_image_1 17 rfl) rfl g20 ?_
      obtain ⟨g21, H⟩ := H
      refine x_iinc (zdm d_Zt_image_1 18 rfl) (n := 2) rfl g21 (zlt rfl) rfl ?_
      obtain ⟨g22, H⟩ := H
      refine x_iinc (zdm d_Zt_image_1 19 rfl) (n := 3) rfl g22 (zlt rfl) rfl ?_
      refine x_goto (tgt := 38) (zdm d_Zt_image_1 20 rfl) (by decide) ?_
      exact zX.sub [3, 1, 0] rfl H
set_option maxRecDepth 20000 in
set_option maxHeartbeats 4000000 in
theorem E_Zt_image {G : zG} {h sl : Nat} (hsl : 1 ≤ sl) {M : zM} {Q : Int → zM → Prop} (H : (zI (Int.tdiv (M 4 1) 256)) ∧ (zX G (y_Zt_image, h + 1, sl) (0, 0, 0, 0) 38 [(0, (2, 1)), (1, (0, 2)), (2, (0, 0))] [] (zwr (zwr M 77 0 (Int.tdiv (M 4 1) 256)) 77 1 (Int.tmod ((zwr M 77 0 (Int.tdiv (M 4 1) 256)) 4 1) 256)) Q)) : zCt G (h + 1) sl 0 0 y_Zt_image [(2, 1)] M Q := by
  refine zCt.of (by decide +kernel) (Nat.le_of_ble_eq_true rfl) ?_
  refine x_aload_n (zdm d_Zt_image_0 0 rfl) rfl (n := 0) rfl ?_
  refine x_getG (zdm d_Zt_image_0 1 rfl) f_Zt_72 rfl rfl (by decide) hsl rfl ?_
  refine x_iconst (zdm d_Zt_image_0 2 rfl) (zIl rfl) ?_
  refine x_aload_n (zdm d_Zt_image_0 3 rfl) rfl (n := 0) rfl ?_
  refine x_getG (zdm d_Zt_image_0 4 rfl) f_Zt_19 rfl rfl (by decide) hsl rfl ?_
  refine x_getf (zdm d_Zt_image_0 5 rfl) f_Zt_130 rfl rfl ?_
  refine x_sipush (zdm d_Zt_image_0 6 rfl) (by decide) ?_
  obtain ⟨g1, H⟩ := H
  refine x_idiv (zdm d_Zt_image_0 7 rfl) (by decide) g1 ?_
  refine x_iast (zdm d_Zt_image_0 8 rfl) rfl ⟨by decide, by decide⟩ ?_
  refine x_aload_n (zdm d_Zt_image_0 9 rfl) rfl (n := 0) rfl ?_
  refine x_getG (zdm d_Zt_image_0 10 rfl) f_Zt_72 rfl rfl (by decide) hsl rfl ?_
  refine x_iconst (zdm d_Zt_image_0 11 rfl) (zIl rfl) ?_
  refine x_aload_n (zdm d_Zt_image_0 12 rfl) rfl (n := 0) rfl ?_
  refine x_getG (zdm d_Zt_image_0 13 rfl) f_Zt_19 rfl rfl (by decide) hsl rfl ?_
  refine x_getf (zdm d_Zt_image_0 14 rfl) f_Zt_130 rfl rfl ?_
  refine x_sipush (zdm d_Zt_image_0 15 rfl) (by decide) ?_
  refine x_irem (zdm d_Zt_image_0 16 rfl) (by decide) ?_
  refine x_iast (zdm d_Zt_image_0 17 rfl) rfl ⟨by decide, by decide⟩ ?_
  refine x_iconst (zdm d_Zt_image_0 18 rfl) (zIl rfl) ?_
  refine x_istore_n (zdm d_Zt_image_0 19 rfl) rfl (zlt rfl) rfl ?_
  refine x_iconst (zdm d_Zt_image_0 20 rfl) (zIl rfl) ?_
  refine x_istore_n (zdm d_Zt_image_0 21 rfl) rfl (zlt rfl) rfl ?_
  exact zX.sub [2, 1, 0] rfl H
set_option maxRecDepth 20000 in
set_option maxHeartbeats 4000000 in
theorem E_Zt_octet {G : zG} {h sl : Nat} (hsl : 1 ≤ sl) {l1 : Int} {M : zM} {Q : Int → zM → Prop} (H : (l1 < 0 → Q (-1) M) ∧ (¬ l1 < 0 → ((M 1 13) ≤ l1 → Q (-1) M) ∧ (¬ (M 1 13) ≤ l1 → (0 ≤ l1 ∧ l1 < 35) ∧ (Q (M 77 l1) M)))) : zCt G h sl 0 0 y_Zt_octet [(2, 1), (0, l1)] M Q := by
  refine zCt.of (by decide +kernel) (Nat.le_of_ble_eq_true rfl) ?_
  refine x_iload_n (zdm d_Zt_octet_0 0 rfl) rfl (n := 1) rfl ?_
  refine x_iflt (tgt := 21) (zdm d_Zt_octet_0 1 rfl) (by decide) (fun c => ?_) (fun c => ?_)
  · have H := H.1 c
    refine x_iconst (zdm d_Zt_octet_0 11 rfl) (zIl rfl) ?_
    exact x_iret (zdm d_Zt_octet_0 12 rfl) rfl H
  · have H := H.2 c
    refine x_iload_n (zdm d_Zt_octet_0 2 rfl) rfl (n := 1) rfl ?_
    refine x_aload_n (zdm d_Zt_octet_0 3 rfl) rfl (n := 0) rfl ?_
    refine x_getf (zdm d_Zt_octet_0 4 rfl) f_Zt_321 rfl rfl ?_
    refine x_icmpge (tgt := 21) (zdm d_Zt_octet_0 5 rfl) (by decide) (fun c => ?_) (fun c => ?_)
    · have H := H.1 c
      refine x_iconst (zdm d_Zt_octet_0 11 rfl) (zIl rfl) ?_
      exact x_iret (zdm d_Zt_octet_0 12 rfl) rfl H
    · have H := H.2 c
      refine x_aload_n (zdm d_Zt_octet_0 6 rfl) rfl (n := 0) rfl ?_
      refine x_getG (zdm d_Zt_octet_0 7 rfl) f_Zt_72 rfl rfl (by decide) hsl rfl ?_
      refine x_iload_n (zdm d_Zt_octet_0 8 rfl) rfl (n := 1) rfl ?_
      obtain ⟨g1, H⟩ := H
      refine x_iald (zdm d_Zt_octet_0 9 rfl) rfl g1 ?_
      refine x_goto (tgt := 22) (zdm d_Zt_octet_0 10 rfl) (by decide) ?_
      exact x_iret (zdm d_Zt_octet_0 12 rfl) rfl H
set_option maxRecDepth 20000 in
set_option maxHeartbeats 4000000 in
theorem E_Zt_on {G : zG} {h sl : Nat} (hsl : 1 ≤ sl) {M : zM} {Q : Int → zM → Prop} (H : zCt G h sl 0 0 y_Zt_readImage [(2, 1), (2, 6)] M (fun r1 M2 => (¬ r1 = 0 → zCt G h sl 0 0 y_Line_copy [(2, 4), (2, 6)] (zwr M2 2 1 0) (fun r4 M5 => zCt G h sl 0 0 y_History_forget [(2, 18)] M5 (fun r6 M7 => zCt G h sl 0 0 y_Zt_settle [(2, 1)] M7 (fun r8 M9 => Q 1 M9)))) ∧ (¬ (¬ r1 = 0) → zCt G h sl 0 0 y_Zt_refused [(2, 1), (0, 5)] (zwr M2 2 1 0) (fun r10 M11 => Q r10 M11)))) : zCt G (h + 1) sl 0 0 y_Zt_on [(2, 1)] M Q := by
  refine zCt.of (by decide +kernel) (Nat.le_of_ble_eq_true rfl) ?_
  refine x_aload_n (zdm d_Zt_on_0 0 rfl) rfl (n := 0) rfl ?_
  refine x_aload_n (zdm d_Zt_on_0 1 rfl) rfl (n := 0) rfl ?_
  refine x_getG (zdm d_Zt_on_0 2 rfl) f_Zt_23 rfl rfl (by decide) hsl rfl ?_
  refine x_callVi (n := 1) (ci := 10) (zdm d_Zt_on_0 3 rfl) k_Zt_324 (As := [(2, 6)]) rfl rfl rfl ⟨_, _, rfl⟩ (Nat.le_of_ble_eq_true rfl) trivial H (fun r1 M2 hr H => ?_)
  have b3 : r1 = 0 ∨ r1 = 1 := hr
  refine x_istore_n (zdm d_Zt_on_0 4 rfl) rfl (zlt rfl) rfl ?_
  refine x_aload_n (zdm d_Zt_on_0 5 rfl) rfl (n := 1) rfl ?_
  refine x_getG (zdm d_Zt_on_0 6 rfl) f_Zt_10 rfl rfl (by decide) hsl rfl ?_
  refine x_iconst (zdm d_Zt_on_0 7 rfl) (zIl rfl) ?_
  refine x_putf (zdm d_Zt_on_0 8 rfl) f_Zt_100 rfl ⟨rfl, trivial⟩ (Or.inl rfl) ?_
  refine x_iload_n (zdm d_Zt_on_0 9 rfl) rfl (n := 0) rfl ?_
  refine x_ifne (tgt := 27) (zdm d_Zt_on_0 10 rfl) (by decide) (fun c => ?_) (fun c => ?_)
  · have H := H.1 c
    refine x_aload_n (zdm d_Zt_on_0 15 rfl) rfl (n := 1) rfl ?_
    refine x_getG (zdm d_Zt_on_0 16 rfl) f_Zt_19 rfl rfl (by decide) hsl rfl ?_
    refine x_aload_n (zdm d_Zt_on_0 17 rfl) rfl (n := 1) rfl ?_
    refine x_getG (zdm d_Zt_on_0 18 rfl) f_Zt_23 rfl rfl (by decide) hsl rfl ?_
    refine x_callVv (n := 1) (ci := 4) (zdm d_Zt_on_0 19 rfl) k_Zt_196 (As := [(2, 6)]) rfl rfl rfl ⟨_, _, rfl⟩ (Nat.le_of_ble_eq_true rfl) rfl H (fun r4 M5 hr H => ?_)
    refine x_aload_n (zdm d_Zt_on_0 20 rfl) rfl (n := 1) rfl ?_
    refine x_getG (zdm d_Zt_on_0 21 rfl) f_Zt_41 rfl rfl (by decide) hsl rfl ?_
    refine x_callVv (n := 0) (ci := 3) (zdm d_Zt_on_0 22 rfl) k_Zt_327 (As := []) rfl rfl rfl ⟨_, _, rfl⟩ (Nat.le_of_ble_eq_true rfl) rfl H (fun r6 M7 hr H => ?_)
    refine x_aload_n (zdm d_Zt_on_0 23 rfl) rfl (n := 1) rfl ?_
    refine x_callVv (n := 0) (ci := 10) (zdm d_Zt_on_0 24 rfl) k_Zt_283 (As := []) rfl rfl rfl ⟨_, _, rfl⟩ (Nat.le_of_ble_eq_true rfl) rfl H (fun r8 M9 hr H => ?_)
    refine x_iconst (zdm d_Zt_on_0 25 rfl) (zIl rfl) ?_
    exact x_ireturn (zdm d_Zt_on_0 26 rfl) (ty := .boolean) rfl (by decide) (Or.inr rfl) H
  · have H := H.2 c
    refine x_aload_n (zdm d_Zt_on_0 11 rfl) rfl (n := 1) rfl ?_
    refine x_iconst (zdm d_Zt_on_0 12 rfl) (zIl rfl) ?_
    refine x_callVi (n := 1) (ci := 10) (zdm d_Zt_on_0 13 rfl) k_Zt_110 (As := [(0, 5)]) rfl rfl rfl ⟨_, _, rfl⟩ (Nat.le_of_ble_eq_true rfl) trivial H (fun r10 M11 hr H => ?_)
    have b12 : r10 = 0 ∨ r10 = 1 := hr
    exact x_ireturn (zdm d_Zt_on_0 14 rfl) (ty := .boolean) rfl (by decide) b12 H
set_option maxRecDepth 20000 in
set_option maxHeartbeats 4000000 in
theorem E_Zt_status {G : zG} {h sl : Nat} (hsl : 1 ≤ sl) {l1 : Int} {M : zM} {Q : Int → zM → Prop} (H : (l1 < 0 → Q (-1) M) ∧ (¬ l1 < 0 → (6 ≤ l1 → Q (-1) M) ∧ (¬ 6 ≤ l1 → (0 ≤ l1 ∧ l1 < 6) ∧ (Q (M 78 l1) M)))) : zCt G h sl 0 0 y_Zt_status [(2, 1), (0, l1)] M Q := by
  refine zCt.of (by decide +kernel) (Nat.le_of_ble_eq_true rfl) ?_
  refine x_iload_n (zdm d_Zt_status_0 0 rfl) rfl (n := 1) rfl ?_
  refine x_iflt (tgt := 22) (zdm d_Zt_status_0 1 rfl) (by decide) (fun c => ?_) (fun c => ?_)
  · have H := H.1 c
    refine x_iconst (zdm d_Zt_status_0 12 rfl) (zIl rfl) ?_
    exact x_iret (zdm d_Zt_status_0 13 rfl) rfl H
  · have H := H.2 c
    refine x_iload_n (zdm d_Zt_status_0 2 rfl) rfl (n := 1) rfl ?_
    refine x_aload_n (zdm d_Zt_status_0 3 rfl) rfl (n := 0) rfl ?_
    refine x_getG (zdm d_Zt_status_0 4 rfl) f_Zt_76 rfl rfl (by decide) hsl rfl ?_
    refine x_alen0 (zdm d_Zt_status_0 5 rfl) rfl (by decide) ?_
    refine x_icmpge (tgt := 22) (zdm d_Zt_status_0 6 rfl) (by decide) (fun c => ?_) (fun c => ?_)
    · have H := H.1 c
      refine x_iconst (zdm d_Zt_status_0 12 rfl) (zIl rfl) ?_
      exact x_iret (zdm d_Zt_status_0 13 rfl) rfl H
    · have H := H.2 c
      refine x_aload_n (zdm d_Zt_status_0 7 rfl) rfl (n := 0) rfl ?_
      refine x_getG (zdm d_Zt_status_0 8 rfl) f_Zt_76 rfl rfl (by decide) hsl rfl ?_
      refine x_iload_n (zdm d_Zt_status_0 9 rfl) rfl (n := 1) rfl ?_
      obtain ⟨g1, H⟩ := H
      refine x_iald (zdm d_Zt_status_0 10 rfl) rfl g1 ?_
      refine x_goto (tgt := 23) (zdm d_Zt_status_0 11 rfl) (by decide) ?_
      exact x_iret (zdm d_Zt_status_0 13 rfl) rfl H
set_option maxRecDepth 20000 in
set_option maxHeartbeats 4000000 in
theorem E_Zt_none {G : zG} {h sl : Nat} (hsl : 1 ≤ sl) {l1 : Int} {M : zM} {Q : Int → zM → Prop} (H : (0 ≤ l1 ∧ l1 < 6) ∧ ((zI ((M 78 l1) + 1)) ∧ (Q (-1) (zwr M 78 l1 ((M 78 l1) + 1))))) : zCt G h sl 0 0 y_Zt_none [(2, 1), (0, l1)] M Q := by
  refine zCt.of (by decide +kernel) (Nat.le_of_ble_eq_true rfl) ?_
  refine x_aload_n (zdm d_Zt_none_0 0 rfl) rfl (n := 0) rfl ?_
  refine x_getG (zdm d_Zt_none_0 1 rfl) f_Zt_76 rfl rfl (by decide) hsl rfl ?_
  refine x_iload_n (zdm d_Zt_none_0 2 rfl) rfl (n := 1) rfl ?_
  refine x_dup2 (zdm d_Zt_none_0 3 rfl) z0n1 z2n1 ?_
  obtain ⟨g1, H⟩ := H
  refine x_iald (zdm d_Zt_none_0 4 rfl) rfl g1 ?_
  refine x_iconst (zdm d_Zt_none_0 5 rfl) (zIl rfl) ?_
  obtain ⟨g2, H⟩ := H
  refine x_iadd (zdm d_Zt_none_0 6 rfl) g2 ?_
  refine x_iast (zdm d_Zt_none_0 7 rfl) rfl g1 ?_
  refine x_iconst (zdm d_Zt_none_0 8 rfl) (zIl rfl) ?_
  exact x_iret (zdm d_Zt_none_0 9 rfl) rfl H
set_option maxRecDepth 20000 in
set_option maxHeartbeats 4000000 in
theorem E_Zt_refused {G : zG} {h sl : Nat} (hsl : 1 ≤ sl) {l1 : Int} {M : zM} {Q : Int → zM → Prop} (H : (0 ≤ l1 ∧ l1 < 6) ∧ ((zI ((M 78 l1) + 1)) ∧ (Q 0 (zwr M 78 l1 ((M 78 l1) + 1))))) : zCt G h sl 0 0 y_Zt_refused [(2, 1), (0, l1)] M Q := by
  refine zCt.of (by decide +kernel) (Nat.le_of_ble_eq_true rfl) ?_
  refine x_aload_n (zdm d_Zt_refused_0 0 rfl) rfl (n := 0) rfl ?_
  refine x_getG (zdm d_Zt_refused_0 1 rfl) f_Zt_76 rfl rfl (by decide) hsl rfl ?_
  refine x_iload_n (zdm d_Zt_refused_0 2 rfl) rfl (n := 1) rfl ?_
  refine x_dup2 (zdm d_Zt_refused_0 3 rfl) z0n1 z2n1 ?_
  obtain ⟨g1, H⟩ := H
  refine x_iald (zdm d_Zt_refused_0 4 rfl) rfl g1 ?_
  refine x_iconst (zdm d_Zt_refused_0 5 rfl) (zIl rfl) ?_
  obtain ⟨g2, H⟩ := H
  refine x_iadd (zdm d_Zt_refused_0 6 rfl) g2 ?_
  refine x_iast (zdm d_Zt_refused_0 7 rfl) rfl g1 ?_
  refine x_iconst (zdm d_Zt_refused_0 8 rfl) (zIl rfl) ?_
  exact x_ireturn (zdm d_Zt_refused_0 9 rfl) (ty := .boolean) rfl (by decide) (Or.inl rfl) H
set_option maxRecDepth 20000 in
set_option maxHeartbeats 4000000 in
theorem E_Zt_noteFault {G : zG} {h sl : Nat} (hsl : 1 ≤ sl) {M : zM} {Q : Int → zM → Prop} (H : Q 0 (zwr (zwr (zwr M 1 14 (M 72 3)) 1 15 ((zwr M 1 14 (M 72 3)) 72 4)) 2 1 0)) : zCt G h sl 0 0 y_Zt_noteFault [(2, 1)] M Q := by
  refine zCt.of (by decide +kernel) (Nat.le_of_ble_eq_true rfl) ?_
  refine x_aload_n (zdm d_Zt_noteFault_0 0 rfl) rfl (n := 0) rfl ?_
  refine x_aload_n (zdm d_Zt_noteFault_0 1 rfl) rfl (n := 0) rfl ?_
  refine x_getG (zdm d_Zt_noteFault_0 2 rfl) f_Zt_59 rfl rfl (by decide) hsl rfl ?_
  refine x_getf (zdm d_Zt_noteFault_0 3 rfl) f_Zt_330 rfl rfl ?_
  refine x_putf (zdm d_Zt_noteFault_0 4 rfl) f_Zt_124 rfl ⟨rfl, trivial⟩ (Or.inl rfl) ?_
  refine x_aload_n (zdm d_Zt_noteFault_0 5 rfl) rfl (n := 0) rfl ?_
  refine x_aload_n (zdm d_Zt_noteFault_0 6 rfl) rfl (n := 0) rfl ?_
  refine x_getG (zdm d_Zt_noteFault_0 7 rfl) f_Zt_59 rfl rfl (by decide) hsl rfl ?_
  refine x_getf (zdm d_Zt_noteFault_0 8 rfl) f_Zt_333 rfl rfl ?_
  refine x_putf (zdm d_Zt_noteFault_0 9 rfl) f_Zt_89 rfl ⟨rfl, trivial⟩ (Or.inl rfl) ?_
  refine x_aload_n (zdm d_Zt_noteFault_0 10 rfl) rfl (n := 0) rfl ?_
  refine x_getG (zdm d_Zt_noteFault_0 11 rfl) f_Zt_10 rfl rfl (by decide) hsl rfl ?_
  refine x_iconst (zdm d_Zt_noteFault_0 12 rfl) (zIl rfl) ?_
  refine x_putf (zdm d_Zt_noteFault_0 13 rfl) f_Zt_100 rfl ⟨rfl, trivial⟩ (Or.inl rfl) ?_
  exact x_return (zdm d_Zt_noteFault_0 14 rfl) rfl H
set_option maxRecDepth 20000 in
set_option maxHeartbeats 4000000 in
theorem E_Zt_startAgain {G : zG} {h sl : Nat} (hsl : 1 ≤ sl) {M : zM} {Q : Int → zM → Prop} (H : (zK (M 1 11) = (8, 0)) ∧ (zCt G h sl 0 0 y_Tablet_begin [(2, (M 1 11)), (2, 4)] M (fun r1 M2 => zCt G h sl 0 0 y_Course_begin [(2, 8), (2, (M2 1 11)), (2, 4)] M2 (fun r4 M5 => zCt G h sl 0 0 y_Course_begin [(2, 13), (2, (M5 1 11)), (2, 4)] M5 (fun r6 M7 => zCt G h sl 0 0 y_History_forget [(2, 18)] M7 (fun r8 M9 => zCt G h sl 0 0 y_Piece_forget [(2, 63)] M9 (fun r10 M11 => Q 0 M11))))))) : zCt G (h + 1) sl 0 0 y_Zt_startAgain [(2, 1)] M Q := by
  refine zCt.of (by decide +kernel) (Nat.le_of_ble_eq_true rfl) ?_
  refine x_aload_n (zdm d_Zt_startAgain_0 0 rfl) rfl (n := 0) rfl ?_
  refine x_getf (zdm d_Zt_startAgain_0 1 rfl) f_Zt_82 rfl rfl ?_
  refine x_aload_n (zdm d_Zt_startAgain_0 2 rfl) rfl (n := 0) rfl ?_
  refine x_getG (zdm d_Zt_startAgain_0 3 rfl) f_Zt_19 rfl rfl (by decide) hsl rfl ?_
  obtain ⟨g3, H⟩ := H
  refine x_callVv (n := 1) (ci := 8) (zdm d_Zt_startAgain_0 4 rfl) k_Zt_334 (As := [(2, 4)]) rfl rfl g3 ⟨_, _, rfl⟩ (Nat.le_of_ble_eq_true rfl) rfl H (fun r1 M2 hr H => ?_)
  refine x_aload_n (zdm d_Zt_startAgain_0 5 rfl) rfl (n := 0) rfl ?_
  refine x_getG (zdm d_Zt_startAgain_0 6 rfl) f_Zt_31 rfl rfl (by decide) hsl rfl ?_
  refine x_aload_n (zdm d_Zt_startAgain_0 7 rfl) rfl (n := 0) rfl ?_
  refine x_getf (zdm d_Zt_startAgain_0 8 rfl) f_Zt_82 rfl rfl ?_
  refine x_aload_n (zdm d_Zt_startAgain_0 9 rfl) rfl (n := 0) rfl ?_
  refine x_getG (zdm d_Zt_startAgain_0 10 rfl) f_Zt_19 rfl rfl (by decide) hsl rfl ?_
  refine x_callVv (n := 2) (ci := 2) (zdm d_Zt_startAgain_0 11 rfl) k_Zt_337 (As := [(2, (M2 1 11)), (2, 4)]) rfl rfl rfl ⟨_, _, rfl⟩ (Nat.le_of_ble_eq_true rfl) rfl H (fun r4 M5 hr H => ?_)
  refine x_aload_n (zdm d_Zt_startAgain_0 12 rfl) rfl (n := 0) rfl ?_
  refine x_getG (zdm d_Zt_startAgain_0 13 rfl) f_Zt_35 rfl rfl (by decide) hsl rfl ?_
  refine x_aload_n (zdm d_Zt_startAgain_0 14 rfl) rfl (n := 0) rfl ?_
  refine x_getf (zdm d_Zt_startAgain_0 15 rfl) f_Zt_82 rfl rfl ?_
  refine x_aload_n (zdm d_Zt_startAgain_0 16 rfl) rfl (n := 0) rfl ?_
  refine x_getG (zdm d_Zt_startAgain_0 17 rfl) f_Zt_19 rfl rfl (by decide) hsl rfl ?_
  refine x_callVv (n := 2) (ci := 2) (zdm d_Zt_startAgain_0 18 rfl) k_Zt_337 (As := [(2, (M5 1 11)), (2, 4)]) rfl rfl rfl ⟨_, _, rfl⟩ (Nat.le_of_ble_eq_true rfl) rfl H (fun r6 M7 hr H => ?_)
  refine x_aload_n (zdm d_Zt_startAgain_0 19 rfl) rfl (n := 0) rfl ?_
  refine x_getG (zdm d_Zt_startAgain_0 20 rfl) f_Zt_41 rfl rfl (by decide) hsl rfl ?_
  refine x_callVv (n := 0) (ci := 3) (zdm d_Zt_startAgain_0 21 rfl) k_Zt_327 (As := []) rfl rfl rfl ⟨_, _, rfl⟩ (Nat.le_of_ble_eq_true rfl) rfl H (fun r8 M9 hr H => ?_)
  refine x_aload_n (zdm d_Zt_startAgain_0 22 rfl) rfl (n := 0) rfl ?_
  refine x_getG (zdm d_Zt_startAgain_0 23 rfl) f_Zt_50 rfl rfl (by decide) hsl rfl ?_
  refine x_callVv (n := 0) (ci := 5) (zdm d_Zt_startAgain_0 24 rfl) k_Zt_340 (As := []) rfl rfl rfl ⟨_, _, rfl⟩ (Nat.le_of_ble_eq_true rfl) rfl H (fun r10 M11 hr H => ?_)
  exact x_return (zdm d_Zt_startAgain_0 25 rfl) rfl H
set_option maxRecDepth 20000 in
set_option maxHeartbeats 4000000 in
theorem E_Zt_settle {G : zG} {h sl : Nat} (hsl : 1 ≤ sl) {M : zM} {Q : Int → zM → Prop} (H : zCt G h sl 0 0 y_Course_begin [(2, 13), (2, (M 1 11)), (2, 4)] M (fun r1 M2 => zCt G h sl 0 0 y_Course_reach [(2, 8), (0, (M2 4 1))] M2 (fun r3 M4 => Q 0 M4))) : zCt G (h + 1) sl 0 0 y_Zt_settle [(2, 1)] M Q := by
  refine zCt.of (by decide +kernel) (Nat.le_of_ble_eq_true rfl) ?_
  refine x_aload_n (zdm d_Zt_settle_0 0 rfl) rfl (n := 0) rfl ?_
  refine x_getG (zdm d_Zt_settle_0 1 rfl) f_Zt_35 rfl rfl (by decide) hsl rfl ?_
  refine x_aload_n (zdm d_Zt_settle_0 2 rfl) rfl (n := 0) rfl ?_
  refine x_getf (zdm d_Zt_settle_0 3 rfl) f_Zt_82 rfl rfl ?_
  refine x_aload_n (zdm d_Zt_settle_0 4 rfl) rfl (n := 0) rfl ?_
  refine x_getG (zdm d_Zt_settle_0 5 rfl) f_Zt_19 rfl rfl (by decide) hsl rfl ?_
  refine x_callVv (n := 2) (ci := 2) (zdm d_Zt_settle_0 6 rfl) k_Zt_337 (As := [(2, (M 1 11)), (2, 4)]) rfl rfl rfl ⟨_, _, rfl⟩ (Nat.le_of_ble_eq_true rfl) rfl H (fun r1 M2 hr H => ?_)
  refine x_aload_n (zdm d_Zt_settle_0 7 rfl) rfl (n := 0) rfl ?_
  refine x_getG (zdm d_Zt_settle_0 8 rfl) f_Zt_31 rfl rfl (by decide) hsl rfl ?_
  refine x_aload_n (zdm d_Zt_settle_0 9 rfl) rfl (n := 0) rfl ?_
  refine x_getG (zdm d_Zt_settle_0 10 rfl) f_Zt_19 rfl rfl (by decide) hsl rfl ?_
  refine x_getf (zdm d_Zt_settle_0 11 rfl) f_Zt_130 rfl rfl ?_
  refine x_callVv (n := 1) (ci := 2) (zdm d_Zt_settle_0 12 rfl) k_Zt_193 (As := [(0, (M2 4 1))]) rfl rfl rfl ⟨_, _, rfl⟩ (Nat.le_of_ble_eq_true rfl) rfl H (fun r3 M4 hr H => ?_)
  exact x_return (zdm d_Zt_settle_0 13 rfl) rfl H
set_option maxRecDepth 20000 in
set_option maxHeartbeats 4000000 in
theorem E_Zt_isColumn {G : zG} {h sl : Nat} (hsl : 1 ≤ sl) {l1 : Int} {M : zM} {Q : Int → zM → Prop} (H : (l1 < 0 → Q 0 M) ∧ (¬ l1 < 0 → (zK (M 1 11) = (8, 0)) ∧ (((M (M 1 11) 2) ≤ l1 → Q 0 M) ∧ (¬ (M (M 1 11) 2) ≤ l1 → Q 1 M)))) : zCt G h sl 0 0 y_Zt_isColumn [(2, 1), (0, l1)] M Q := by
  refine zCt.of (by decide +kernel) (Nat.le_of_ble_eq_true rfl) ?_
  refine x_iload_n (zdm d_Zt_isColumn_0 0 rfl) rfl (n := 1) rfl ?_
  refine x_iflt (tgt := 19) (zdm d_Zt_isColumn_0 1 rfl) (by decide) (fun c => ?_) (fun c => ?_)
  · have H := H.1 c
    refine x_iconst (zdm d_Zt_isColumn_0 9 rfl) (zIl rfl) ?_
    exact x_ireturn (zdm d_Zt_isColumn_0 10 rfl) (ty := .boolean) rfl (by decide) (Or.inl rfl) H
  · have H := H.2 c
    refine x_iload_n (zdm d_Zt_isColumn_0 2 rfl) rfl (n := 1) rfl ?_
    refine x_aload_n (zdm d_Zt_isColumn_0 3 rfl) rfl (n := 0) rfl ?_
    refine x_getf (zdm d_Zt_isColumn_0 4 rfl) f_Zt_82 rfl rfl ?_
    obtain ⟨g1, H⟩ := H
    refine x_getf (zdm d_Zt_isColumn_0 5 rfl) f_Zt_127 g1 rfl ?_
    refine x_icmpge (tgt := 19) (zdm d_Zt_isColumn_0 6 rfl) (by decide) (fun c => ?_) (fun c => ?_)
    · have H := H.1 c
      refine x_iconst (zdm d_Zt_isColumn_0 9 rfl) (zIl rfl) ?_
      exact x_ireturn (zdm d_Zt_isColumn_0 10 rfl) (ty := .boolean) rfl (by decide) (Or.inl rfl) H
    · have H := H.2 c
      refine x_iconst (zdm d_Zt_isColumn_0 7 rfl) (zIl rfl) ?_
      refine x_goto (tgt := 20) (zdm d_Zt_isColumn_0 8 rfl) (by decide) ?_
      exact x_ireturn (zdm d_Zt_isColumn_0 10 rfl) (ty := .boolean) rfl (by decide) (Or.inr rfl) H
set_option maxRecDepth 20000 in
set_option maxHeartbeats 4000000 in
theorem E_Zt_isAhead {G : zG} {h sl : Nat} (hsl : 1 ≤ sl) {l1 l2 l3 : Int} {M : zM} {Q : Int → zM → Prop} (H : (l1 < l2 → Q 0 M) ∧ (¬ l1 < l2 → (l3 < l1 → Q 0 M) ∧ (¬ l3 < l1 → (zI (999 - (M 4 1))) ∧ (((999 - (M 4 1)) < l1 → Q 0 M) ∧ (¬ (999 - (M 4 1)) < l1 → Q 1 M))))) : zCt G h sl 0 0 y_Zt_isAhead [(2, 1), (0, l1), (0, l2), (0, l3)] M Q := by
  refine zCt.of (by decide +kernel) (Nat.le_of_ble_eq_true rfl) ?_
  refine x_iload_n (zdm d_Zt_isAhead_0 0 rfl) rfl (n := 1) rfl ?_
  refine x_iload_n (zdm d_Zt_isAhead_0 1 rfl) rfl (n := 2) rfl ?_
  refine x_icmplt (tgt := 29) (zdm d_Zt_isAhead_0 2 rfl) (by decide) (fun c => ?_) (fun c => ?_)
  · have H := H.1 c
    refine x_iconst (zdm d_Zt_isAhead_0 15 rfl) (zIl rfl) ?_
    exact x_ireturn (zdm d_Zt_isAhead_0 16 rfl) (ty := .boolean) rfl (by decide) (Or.inl rfl) H
  · have H := H.2 c
    refine x_iload_n (zdm d_Zt_isAhead_0 3 rfl) rfl (n := 1) rfl ?_
    refine x_iload_n (zdm d_Zt_isAhead_0 4 rfl) rfl (n := 3) rfl ?_
    refine x_icmpgt (tgt := 29) (zdm d_Zt_isAhead_0 5 rfl) (by decide) (fun c => ?_) (fun c => ?_)
    · have H := H.1 c
      refine x_iconst (zdm d_Zt_isAhead_0 15 rfl) (zIl rfl) ?_
      exact x_ireturn (zdm d_Zt_isAhead_0 16 rfl) (ty := .boolean) rfl (by decide) (Or.inl rfl) H
    · have H := H.2 c
      refine x_iload_n (zdm d_Zt_isAhead_0 6 rfl) rfl (n := 1) rfl ?_
      refine x_sipush (zdm d_Zt_isAhead_0 7 rfl) (by decide) ?_
      refine x_aload_n (zdm d_Zt_isAhead_0 8 rfl) rfl (n := 0) rfl ?_
      refine x_getG (zdm d_Zt_isAhead_0 9 rfl) f_Zt_19 rfl rfl (by decide) hsl rfl ?_
      refine x_getf (zdm d_Zt_isAhead_0 10 rfl) f_Zt_130 rfl rfl ?_
      obtain ⟨g1, H⟩ := H
      refine x_isub (zdm d_Zt_isAhead_0 11 rfl) g1 ?_
      refine x_icmpgt (tgt := 29) (zdm d_Zt_isAhead_0 12 rfl) (by decide) (fun c => ?_) (fun c => ?_)
      · have H := H.1 c
        refine x_iconst (zdm d_Zt_isAhead_0 15 rfl) (zIl rfl) ?_
        exact x_ireturn (zdm d_Zt_isAhead_0 16 rfl) (ty := .boolean) rfl (by decide) (Or.inl rfl) H
      · have H := H.2 c
        refine x_iconst (zdm d_Zt_isAhead_0 13 rfl) (zIl rfl) ?_
        refine x_goto (tgt := 30) (zdm d_Zt_isAhead_0 14 rfl) (by decide) ?_
        exact x_ireturn (zdm d_Zt_isAhead_0 16 rfl) (ty := .boolean) rfl (by decide) (Or.inr rfl) H
set_option maxRecDepth 20000 in
set_option maxHeartbeats 4000000 in
theorem E_Zt_mostAhead {G : zG} {h sl : Nat} (hsl : 1 ≤ sl) {M : zM} {Q : Int → zM → Prop} (H : (zI (999 - (M 4 1))) ∧ (zCt G h sl 0 0 y_Jm_min_III [(0, 200), (0, (999 - (M 4 1)))] M (fun r2 M3 => Q r2 M3))) : zCt G (h + 1) sl 0 0 y_Zt_mostAhead [(2, 1)] M Q := by
  refine zCt.of (by decide +kernel) (Nat.le_of_ble_eq_true rfl) ?_
  refine x_sipush (zdm d_Zt_mostAhead_0 0 rfl) (by decide) ?_
  refine x_sipush (zdm d_Zt_mostAhead_0 1 rfl) (by decide) ?_
  refine x_aload_n (zdm d_Zt_mostAhead_0 2 rfl) rfl (n := 0) rfl ?_
  refine x_getG (zdm d_Zt_mostAhead_0 3 rfl) f_Zt_19 rfl rfl (by decide) hsl rfl ?_
  refine x_getf (zdm d_Zt_mostAhead_0 4 rfl) f_Zt_130 rfl rfl ?_
  obtain ⟨g1, H⟩ := H
  refine x_isub (zdm d_Zt_mostAhead_0 5 rfl) g1 ?_
  refine x_callSi (n := 2) (zdm d_Zt_mostAhead_0 6 rfl) k_Zt_341 (As := [(0, 200), (0, (999 - (M 4 1)))]) rfl rfl (Nat.le_of_ble_eq_true rfl) trivial H (fun r2 M3 hr H => ?_)
  exact x_iret (zdm d_Zt_mostAhead_0 7 rfl) rfl H
set_option maxRecDepth 20000 in
set_option maxHeartbeats 4000000 in
theorem B_Zt_untrueColumns_4 {G : zG} {h sl : Nat} (hsl : 1 ≤ sl) {u : Nat × Nat × Nat × Nat} {l1 l2 : Int} {M : zM} {Q : Int → zM → Prop} (H : (zK (M 1 11) = (8, 0)) ∧ (((M (M 1 11) 2) ≤ l2 → Q l1 M) ∧ (¬ (M (M 1 11) 2) ≤ l2 → (0 ≤ l2 ∧ l2 < 8) ∧ (zCt G h sl 0 0 y_Course_told [(2, 8), (0, (M 4 1)), (0, l2)] M (fun r3 M4 => ((M 5 l2) = r3 → (zI (l2 + 1)) ∧ (zX G (y_Zt_untrueColumns, h + 1, sl) u 4 [(0, (2, 1)), (1, (0, l1)), (2, (0, (l2 + 1)))] [] M4 Q)) ∧ (¬ (M 5 l2) = r3 → (zI (l1 + 1)) ∧ ((zI (l2 + 1)) ∧ (zX G (y_Zt_untrueColumns, h + 1, sl) u 4 [(0, (2, 1)), (1, (0, (l1 + 1))), (2, (0, (l2 + 1)))] [] M4 Q)))))))) : zX G (y_Zt_untrueColumns, h + 1, sl) u 4 [(0, (2, 1)), (1, (0, l1)), (2, (0, l2))] [] M Q := by
  refine x_iload_n (zdm d_Zt_untrueColumns_0 4 rfl) rfl (n := 2) rfl ?_
  refine x_aload_n (zdm d_Zt_untrueColumns_0 5 rfl) rfl (n := 0) rfl ?_
  refine x_getf (zdm d_Zt_untrueColumns_0 6 rfl) f_Zt_82 rfl rfl ?_
  obtain ⟨g1, H⟩ := H
  refine x_getf (zdm d_Zt_untrueColumns_0 7 rfl) f_Zt_127 g1 rfl ?_
  refine x_icmpge (tgt := 51) (zdm d_Zt_untrueColumns_0 8 rfl) (by decide) (fun c => ?_) (fun c => ?_)
  · have H := H.1 c
    refine x_iload_n (zdm d_Zt_untrueColumns_0 25 rfl) rfl (n := 1) rfl ?_
    exact x_iret (zdm d_Zt_untrueColumns_0 26 rfl) rfl H
  · have H := H.2 c
    refine x_aload_n (zdm d_Zt_untrueColumns_0 9 rfl) rfl (n := 0) rfl ?_
    refine x_getG (zdm d_Zt_untrueColumns_0 10 rfl) f_Zt_19 rfl rfl (by decide) hsl rfl ?_
    refine x_getG (zdm d_Zt_untrueColumns_0 11 rfl) f_Zt_176 rfl rfl (by decide) hsl rfl ?_
    refine x_iload_n (zdm d_Zt_untrueColumns_0 12 rfl) rfl (n := 2) rfl ?_
    obtain ⟨g2, H⟩ := H
    refine x_iald (zdm d_Zt_untrueColumns_0 13 rfl) rfl g2 ?_
    refine x_aload_n (zdm d_Zt_untrueColumns_0 14 rfl) rfl (n := 0) rfl ?_
    refine x_getG (zdm d_Zt_untrueColumns_0 15 rfl) f_Zt_31 rfl rfl (by decide) hsl rfl ?_
    refine x_aload_n (zdm d_Zt_untrueColumns_0 16 rfl) rfl (n := 0) rfl ?_
    refine x_getG (zdm d_Zt_untrueColumns_0 17 rfl) f_Zt_19 rfl rfl (by decide) hsl rfl ?_
    refine x_getf (zdm d_Zt_untrueColumns_0 18 rfl) f_Zt_130 rfl rfl ?_
    refine x_iload_n (zdm d_Zt_untrueColumns_0 19 rfl) rfl (n := 2) rfl ?_
    refine x_callVi (n := 2) (ci := 2) (zdm d_Zt_untrueColumns_0 20 rfl) k_Zt_179 (As := [(0, (M 4 1)), (0, l2)]) rfl rfl rfl ⟨_, _, rfl⟩ (Nat.le_of_ble_eq_true rfl) trivial H (fun r3 M4 hr H => ?_)
    refine x_icmpeq (tgt := 45) (zdm d_Zt_untrueColumns_0 21 rfl) (by decide) (fun c => ?_) (fun c => ?_)
    · have H := H.1 c
      obtain ⟨g5, H⟩ := H
      refine x_iinc (zdm d_Zt_untrueColumns_0 23 rfl) (n := 2) rfl g5 (zlt rfl) rfl ?_
      refine x_goto (tgt := 4) (zdm d_Zt_untrueColumns_0 24 rfl) (by decide) ?_
      exact zX.sub [1, 2, 0] rfl H
    · have H := H.2 c
      obtain ⟨g6, H⟩ := H
      refine x_iinc (zdm d_Zt_untrueColumns_0 22 rfl) (n := 1) rfl g6 (zlt rfl) rfl ?_
      obtain ⟨g7, H⟩ := H
      refine x_iinc (zdm d_Zt_untrueColumns_0 23 rfl) (n := 2) rfl g7 (zlt rfl) rfl ?_
      refine x_goto (tgt := 4) (zdm d_Zt_untrueColumns_0 24 rfl) (by decide) ?_
      exact zX.sub [2, 1, 0] rfl H
set_option maxRecDepth 20000 in
set_option maxHeartbeats 4000000 in
theorem E_Zt_untrueColumns {G : zG} {h sl : Nat} (hsl : 1 ≤ sl) {M : zM} {Q : Int → zM → Prop} (H : zX G (y_Zt_untrueColumns, h + 1, sl) (0, 0, 0, 0) 4 [(0, (2, 1)), (1, (0, 0)), (2, (0, 0))] [] M Q) : zCt G (h + 1) sl 0 0 y_Zt_untrueColumns [(2, 1)] M Q := by
  refine zCt.of (by decide +kernel) (Nat.le_of_ble_eq_true rfl) ?_
  refine x_iconst (zdm d_Zt_untrueColumns_0 0 rfl) (zIl rfl) ?_
  refine x_istore_n (zdm d_Zt_untrueColumns_0 1 rfl) rfl (zlt rfl) rfl ?_
  refine x_iconst (zdm d_Zt_untrueColumns_0 2 rfl) (zIl rfl) ?_
  refine x_istore_n (zdm d_Zt_untrueColumns_0 3 rfl) rfl (zlt rfl) rfl ?_
  exact zX.sub [2, 1, 0] rfl H
set_option maxRecDepth 20000 in
set_option maxHeartbeats 4000000 in
theorem E_Zt_keepIfMarked {G : zG} {h sl : Nat} (hsl : 1 ≤ sl) {M : zM} {Q : Int → zM → Prop} (H : (zK (M 1 11) = (8, 0)) ∧ (zCt G h sl 0 0 y_Tablet_isMarked [(2, (M 1 11)), (2, 4)] M (fun r1 M2 => (¬ r1 = 0 → zCt G h sl 0 0 y_Zt_untrueColumns [(2, 1)] M2 (fun r5 M6 => zCt G h sl 0 0 y_History_keep [(2, 18), (0, (M2 4 1)), (0, r5)] M6 (fun r7 M8 => Q 1 M8))) ∧ (¬ (¬ r1 = 0) → Q 0 M2)))) : zCt G (h + 1) sl 0 0 y_Zt_keepIfMarked [(2, 1)] M Q := by
  refine zCt.of (by decide +kernel) (Nat.le_of_ble_eq_true rfl) ?_
  refine x_aload_n (zdm d_Zt_keepIfMarked_0 0 rfl) rfl (n := 0) rfl ?_
  refine x_getf (zdm d_Zt_keepIfMarked_0 1 rfl) f_Zt_82 rfl rfl ?_
  refine x_aload_n (zdm d_Zt_keepIfMarked_0 2 rfl) rfl (n := 0) rfl ?_
  refine x_getG (zdm d_Zt_keepIfMarked_0 3 rfl) f_Zt_19 rfl rfl (by decide) hsl rfl ?_
  obtain ⟨g3, H⟩ := H
  refine x_callVi (n := 1) (ci := 8) (zdm d_Zt_keepIfMarked_0 4 rfl) k_Zt_133 (As := [(2, 4)]) rfl rfl g3 ⟨_, _, rfl⟩ (Nat.le_of_ble_eq_true rfl) trivial H (fun r1 M2 hr H => ?_)
  have b4 : r1 = 0 ∨ r1 = 1 := hr
  refine x_ifne (tgt := 16) (zdm d_Zt_keepIfMarked_0 5 rfl) (by decide) (fun c => ?_) (fun c => ?_)
  · have H := H.1 c
    refine x_aload_n (zdm d_Zt_keepIfMarked_0 8 rfl) rfl (n := 0) rfl ?_
    refine x_getG (zdm d_Zt_keepIfMarked_0 9 rfl) f_Zt_41 rfl rfl (by decide) hsl rfl ?_
    refine x_aload_n (zdm d_Zt_keepIfMarked_0 10 rfl) rfl (n := 0) rfl ?_
    refine x_getG (zdm d_Zt_keepIfMarked_0 11 rfl) f_Zt_19 rfl rfl (by decide) hsl rfl ?_
    refine x_getf (zdm d_Zt_keepIfMarked_0 12 rfl) f_Zt_130 rfl rfl ?_
    refine x_aload_n (zdm d_Zt_keepIfMarked_0 13 rfl) rfl (n := 0) rfl ?_
    refine x_callVi (n := 0) (ci := 10) (zdm d_Zt_keepIfMarked_0 14 rfl) k_Zt_137 (As := []) rfl rfl rfl ⟨_, _, rfl⟩ (Nat.le_of_ble_eq_true rfl) trivial H (fun r5 M6 hr H => ?_)
    refine x_callVv (n := 2) (ci := 3) (zdm d_Zt_keepIfMarked_0 15 rfl) k_Zt_344 (As := [(0, (M2 4 1)), (0, r5)]) rfl rfl rfl ⟨_, _, rfl⟩ (Nat.le_of_ble_eq_true rfl) rfl H (fun r7 M8 hr H => ?_)
    refine x_iconst (zdm d_Zt_keepIfMarked_0 16 rfl) (zIl rfl) ?_
    exact x_ireturn (zdm d_Zt_keepIfMarked_0 17 rfl) (ty := .boolean) rfl (by decide) (Or.inr rfl) H
  · have H := H.2 c
    refine x_iconst (zdm d_Zt_keepIfMarked_0 6 rfl) (zIl rfl) ?_
    exact x_ireturn (zdm d_Zt_keepIfMarked_0 7 rfl) (ty := .boolean) rfl (by decide) (Or.inl rfl) H
set_option maxRecDepth 20000 in
set_option maxHeartbeats 4000000 in
theorem B_Zt_columnsAstray_73 {G : zG} {h sl : Nat} (hsl : 1 ≤ sl) {u : Nat × Nat × Nat × Nat} {l1 l2 s0 : Int} {M : zM} {Q : Int → zM → Prop} (H : (zK (M 1 11) = (8, 0)) ∧ ((0 ≤ l2 ∧ l2 < 8) ∧ (zCt G h sl 0 0 y_Column_moves [(2, ((M 1 11) + 7 + 2 * l2))] M (fun r3 M4 => (r3 = 0 → (zI (l2 + 1)) ∧ (zX G (y_Zt_columnsAstray, h + 1, sl) u 4 [(0, (2, 1)), (1, (0, l1)), (2, (0, (l2 + 1)))] [] M4 Q)) ∧ (¬ r3 = 0 → (¬ s0 = 0 → (zI (l2 + 1)) ∧ (zX G (y_Zt_columnsAstray, h + 1, sl) u 4 [(0, (2, 1)), (1, (0, l1)), (2, (0, (l2 + 1)))] [] M4 Q)) ∧ (¬ (¬ s0 = 0) → (zI (l2 + 1)) ∧ (zX G (y_Zt_columnsAstray, h + 1, sl) u 4 [(0, (2, 1)), (1, (0, (zor l1 (zshl 1 l2)))), (2, (0, (l2 + 1)))] [] M4 Q))))))) : zX G (y_Zt_columnsAstray, h + 1, sl) u 73 [(0, (2, 1)), (1, (0, l1)), (2, (0, l2))] [(0, s0)] M Q := by
  refine x_istore_n (zdm d_Zt_columnsAstray_0 37 rfl) rfl (zlt rfl) rfl ?_
  refine x_aload_n (zdm d_Zt_columnsAstray_0 38 rfl) rfl (n := 1) rfl ?_
  refine x_getf (zdm d_Zt_columnsAstray_0 39 rfl) f_Zt_82 rfl rfl ?_
  obtain ⟨g1, H⟩ := H
  refine x_getG (zdm d_Zt_columnsAstray_0 40 rfl) f_Zt_153 g1 rfl (by decide) hsl (zs_8 g1).1.1 ?_
  refine x_iload_n (zdm d_Zt_columnsAstray_0 41 rfl) rfl (n := 3) rfl ?_
  obtain ⟨g2, H⟩ := H
  refine x_aald5G (zdm d_Zt_columnsAstray_0 42 rfl) (zs_8 g1).1.2 g2 hsl (zs_cols g1 g2.1 g2.2).1 ?_
  refine x_callVi (n := 0) (ci := 1) (zdm d_Zt_columnsAstray_0 43 rfl) k_Zt_286 (As := []) rfl rfl (zs_cols g1 g2.1 g2.2).2 ⟨_, _, rfl⟩ (Nat.le_of_ble_eq_true rfl) trivial H (fun r3 M4 hr H => ?_)
  have b5 : r3 = 0 ∨ r3 = 1 := hr
  refine x_ifeq (tgt := 99) (zdm d_Zt_columnsAstray_0 44 rfl) (by decide) (fun c => ?_) (fun c => ?_)
  · have H := H.1 c
    obtain ⟨g6, H⟩ := H
    refine x_iinc (zdm d_Zt_columnsAstray_0 53 rfl) (n := 3) rfl g6 (zlt rfl) rfl ?_
    refine x_goto (tgt := 4) (zdm d_Zt_columnsAstray_0 54 rfl) (by decide) ?_
    exact zX.sub [2, 3, 0] rfl H
  · have H := H.2 c
    refine x_iload_n (zdm d_Zt_columnsAstray_0 45 rfl) rfl (n := 0) rfl ?_
    refine x_ifne (tgt := 99) (zdm d_Zt_columnsAstray_0 46 rfl) (by decide) (fun c => ?_) (fun c => ?_)
    · have H := H.1 c
      obtain ⟨g7, H⟩ := H
      refine x_iinc (zdm d_Zt_columnsAstray_0 53 rfl) (n := 3) rfl g7 (zlt rfl) rfl ?_
      refine x_goto (tgt := 4) (zdm d_Zt_columnsAstray_0 54 rfl) (by decide) ?_
      exact zX.sub [2, 3, 0] rfl H
    · have H := H.2 c
      refine x_iload_n (zdm d_Zt_columnsAstray_0 47 rfl) rfl (n := 2) rfl ?_
      refine x_iconst (zdm d_Zt_columnsAstray_0 48 rfl) (zIl rfl) ?_
      refine x_iload_n (zdm d_Zt_columnsAstray_0 49 rfl) rfl (n := 3) rfl ?_
      refine x_ishl (zdm d_Zt_columnsAstray_0 50 rfl) ?_
      refine x_ior (zdm d_Zt_columnsAstray_0 51 rfl) ?_
      refine x_istore_n (zdm d_Zt_columnsAstray_0 52 rfl) rfl (zlt rfl) rfl ?_
      obtain ⟨g8, H⟩ := H
      refine x_iinc (zdm d_Zt_columnsAstray_0 53 rfl) (n := 3) rfl g8 (zlt rfl) rfl ?_
      refine x_goto (tgt := 4) (zdm d_Zt_columnsAstray_0 54 rfl) (by decide) ?_
      exact zX.sub [3, 1, 0] rfl H
set_option maxRecDepth 20000 in
set_option maxHeartbeats 4000000 in
theorem B_Zt_columnsAstray_4 {G : zG} {h sl : Nat} (hsl : 1 ≤ sl) {u : Nat × Nat × Nat × Nat} {l1 l2 : Int} {M : zM} {Q : Int → zM → Prop} (H : (zK (M 1 11) = (8, 0)) ∧ (((M (M 1 11) 2) ≤ l2 → Q l1 M) ∧ (¬ (M (M 1 11) 2) ≤ l2 → (0 ≤ l2 ∧ l2 < 8) ∧ (zCt G h sl 0 0 y_Course_told [(2, 8), (0, (M 4 1)), (0, l2)] M (fun r3 M4 => (¬ (M 5 l2) = r3 → zX G (y_Zt_columnsAstray, h + 1, sl) u 73 [(0, (2, 1)), (1, (0, l1)), (2, (0, l2))] [(0, 0)] M4 Q) ∧ (¬ (¬ (M 5 l2) = r3) → zCt G h sl 0 0 y_Line_goesUp [(2, 4), (0, l2)] M4 (fun r5 M6 => zCt G h sl 0 0 y_Course_goesUp [(2, 8), (0, (M6 4 1)), (0, l2)] M6 (fun r8 M9 => (¬ r5 = r8 → zX G (y_Zt_columnsAstray, h + 1, sl) u 73 [(0, (2, 1)), (1, (0, l1)), (2, (0, l2))] [(0, 0)] M9 Q) ∧ (¬ (¬ r5 = r8) → zX G (y_Zt_columnsAstray, h + 1, sl) u 73 [(0, (2, 1)), (1, (0, l1)), (2, (0, l2))] [(0, 1)] M9 Q))))))))) : zX G (y_Zt_columnsAstray, h + 1, sl) u 4 [(0, (2, 1)), (1, (0, l1)), (2, (0, l2))] [] M Q := by
  refine x_iload_n (zdm d_Zt_columnsAstray_0 4 rfl) rfl (n := 2) rfl ?_
  refine x_aload_n (zdm d_Zt_columnsAstray_0 5 rfl) rfl (n := 0) rfl ?_
  refine x_getf (zdm d_Zt_columnsAstray_0 6 rfl) f_Zt_82 rfl rfl ?_
  obtain ⟨g1, H⟩ := H
  refine x_getf (zdm d_Zt_columnsAstray_0 7 rfl) f_Zt_127 g1 rfl ?_
  refine x_icmpge (tgt := 105) (zdm d_Zt_columnsAstray_0 8 rfl) (by decide) (fun c => ?_) (fun c => ?_)
  · have H := H.1 c
    refine x_iload_n (zdm d_Zt_columnsAstray_0 55 rfl) rfl (n := 1) rfl ?_
    exact x_iret (zdm d_Zt_columnsAstray_0 56 rfl) rfl H
  · have H := H.2 c
    refine x_aload_n (zdm d_Zt_columnsAstray_0 9 rfl) rfl (n := 0) rfl ?_
    refine x_getG (zdm d_Zt_columnsAstray_0 10 rfl) f_Zt_19 rfl rfl (by decide) hsl rfl ?_
    refine x_getG (zdm d_Zt_columnsAstray_0 11 rfl) f_Zt_176 rfl rfl (by decide) hsl rfl ?_
    refine x_iload_n (zdm d_Zt_columnsAstray_0 12 rfl) rfl (n := 2) rfl ?_
    obtain ⟨g2, H⟩ := H
    refine x_iald (zdm d_Zt_columnsAstray_0 13 rfl) rfl g2 ?_
    refine x_aload_n (zdm d_Zt_columnsAstray_0 14 rfl) rfl (n := 0) rfl ?_
    refine x_getG (zdm d_Zt_columnsAstray_0 15 rfl) f_Zt_31 rfl rfl (by decide) hsl rfl ?_
    refine x_aload_n (zdm d_Zt_columnsAstray_0 16 rfl) rfl (n := 0) rfl ?_
    refine x_getG (zdm d_Zt_columnsAstray_0 17 rfl) f_Zt_19 rfl rfl (by decide) hsl rfl ?_
    refine x_getf (zdm d_Zt_columnsAstray_0 18 rfl) f_Zt_130 rfl rfl ?_
    refine x_iload_n (zdm d_Zt_columnsAstray_0 19 rfl) rfl (n := 2) rfl ?_
    refine x_callVi (n := 2) (ci := 2) (zdm d_Zt_columnsAstray_0 20 rfl) k_Zt_179 (As := [(0, (M 4 1)), (0, l2)]) rfl rfl rfl ⟨_, _, rfl⟩ (Nat.le_of_ble_eq_true rfl) trivial H (fun r3 M4 hr H => ?_)
    refine x_icmpne (tgt := 72) (zdm d_Zt_columnsAstray_0 21 rfl) (by decide) (fun c => ?_) (fun c => ?_)
    · have H := H.1 c
      refine x_iconst (zdm d_Zt_columnsAstray_0 36 rfl) (zIl rfl) ?_
      exact H
    · have H := H.2 c
      refine x_aload_n (zdm d_Zt_columnsAstray_0 22 rfl) rfl (n := 0) rfl ?_
      refine x_getG (zdm d_Zt_columnsAstray_0 23 rfl) f_Zt_19 rfl rfl (by decide) hsl rfl ?_
      refine x_iload_n (zdm d_Zt_columnsAstray_0 24 rfl) rfl (n := 2) rfl ?_
      refine x_callVi (n := 1) (ci := 4) (zdm d_Zt_columnsAstray_0 25 rfl) k_Zt_165 (As := [(0, l2)]) rfl rfl rfl ⟨_, _, rfl⟩ (Nat.le_of_ble_eq_true rfl) trivial H (fun r5 M6 hr H => ?_)
      have b7 : r5 = 0 ∨ r5 = 1 := hr
      refine x_aload_n (zdm d_Zt_columnsAstray_0 26 rfl) rfl (n := 0) rfl ?_
      refine x_getG (zdm d_Zt_columnsAstray_0 27 rfl) f_Zt_31 rfl rfl (by decide) hsl rfl ?_
      refine x_aload_n (zdm d_Zt_columnsAstray_0 28 rfl) rfl (n := 0) rfl ?_
      refine x_getG (zdm d_Zt_columnsAstray_0 29 rfl) f_Zt_19 rfl rfl (by decide) hsl rfl ?_
      refine x_getf (zdm d_Zt_columnsAstray_0 30 rfl) f_Zt_130 rfl rfl ?_
      refine x_iload_n (zdm d_Zt_columnsAstray_0 31 rfl) rfl (n := 2) rfl ?_
      refine x_callVi (n := 2) (ci := 2) (zdm d_Zt_columnsAstray_0 32 rfl) k_Zt_348 (As := [(0, (M6 4 1)), (0, l2)]) rfl rfl rfl ⟨_, _, rfl⟩ (Nat.le_of_ble_eq_true rfl) trivial H (fun r8 M9 hr H => ?_)
      have b10 : r8 = 0 ∨ r8 = 1 := hr
      refine x_icmpne (tgt := 72) (zdm d_Zt_columnsAstray_0 33 rfl) (by decide) (fun c => ?_) (fun c => ?_)
      · have H := H.1 c
        refine x_iconst (zdm d_Zt_columnsAstray_0 36 rfl) (zIl rfl) ?_
        exact H
      · have H := H.2 c
        refine x_iconst (zdm d_Zt_columnsAstray_0 34 rfl) (zIl rfl) ?_
        refine x_goto (tgt := 73) (zdm d_Zt_columnsAstray_0 35 rfl) (by decide) ?_
        exact H
set_option maxRecDepth 20000 in
set_option maxHeartbeats 4000000 in
theorem E_Zt_columnsAstray {G : zG} {h sl : Nat} (hsl : 1 ≤ sl) {M : zM} {Q : Int → zM → Prop} (H : zX G (y_Zt_columnsAstray, h + 1, sl) (0, 0, 0, 0) 4 [(0, (2, 1)), (1, (0, 0)), (2, (0, 0))] [] M Q) : zCt G (h + 1) sl 0 0 y_Zt_columnsAstray [(2, 1)] M Q := by
  refine zCt.of (by decide +kernel) (Nat.le_of_ble_eq_true rfl) ?_
  refine x_iconst (zdm d_Zt_columnsAstray_0 0 rfl) (zIl rfl) ?_
  refine x_istore_n (zdm d_Zt_columnsAstray_0 1 rfl) rfl (zlt rfl) rfl ?_
  refine x_iconst (zdm d_Zt_columnsAstray_0 2 rfl) (zIl rfl) ?_
  refine x_istore_n (zdm d_Zt_columnsAstray_0 3 rfl) rfl (zlt rfl) rfl ?_
  exact zX.sub [2, 1, 0] rfl H
set_option maxRecDepth 20000 in
set_option maxHeartbeats 4000000 in
theorem B_Zt_heals_109 {G : zG} {h sl : Nat} (hsl : 1 ≤ sl) {u : Nat × Nat × Nat × Nat} {l2 l3 l4 : Int} {M : zM} {Q : Int → zM → Prop} (H : (zK (M 1 11) = (8, 0)) ∧ (((M (M 1 11) 2) ≤ l4 → (zI (l3 + 1)) ∧ (zX G (y_Zt_heals, h + 1, sl) u 88 [(0, (2, 1)), (2, (0, l2)), (3, (0, (l3 + 1)))] [] M Q)) ∧ (¬ (M (M 1 11) 2) ≤ l4 → (0 ≤ l4 ∧ l4 < 8) ∧ ((zI ((M 4 1) + l3)) ∧ (zCt G h sl 0 0 y_Course_told [(2, 8), (0, ((M 4 1) + l3)), (0, l4)] M (fun r5 M6 => ((M 7 l4) = r5 → (zI (l4 + 1)) ∧ (zX G (y_Zt_heals, h + 1, sl) u 109 [(0, (2, 1)), (2, (0, l2)), (3, (0, l3)), (4, (0, (l4 + 1)))] [] M6 Q)) ∧ (¬ (M 7 l4) = r5 → Q 0 M6))))))) : zX G (y_Zt_heals, h + 1, sl) u 109 [(0, (2, 1)), (2, (0, l2)), (3, (0, l3)), (4, (0, l4))] [] M Q := by
  refine x_iload (zdm d_Zt_heals_0 58 rfl) (n := 3) rfl ?_
  refine x_aload_n (zdm d_Zt_heals_0 59 rfl) rfl (n := 0) rfl ?_
  refine x_getf (zdm d_Zt_heals_1 0 rfl) f_Zt_82 rfl rfl ?_
  obtain ⟨g1, H⟩ := H
  refine x_getf (zdm d_Zt_heals_1 1 rfl) f_Zt_127 g1 rfl ?_
  refine x_icmpge (tgt := 160) (zdm d_Zt_heals_1 2 rfl) (by decide) (fun c => ?_) (fun c => ?_)
  · have H := H.1 c
    obtain ⟨g2, H⟩ := H
    refine x_iinc (zdm d_Zt_heals_1 22 rfl) (n := 2) rfl g2 (zlt rfl) rfl ?_
    refine x_goto (tgt := 88) (zdm d_Zt_heals_1 23 rfl) (by decide) ?_
    exact zX.sub [1, 2, 0] rfl H
  · have H := H.2 c
    refine x_aload_n (zdm d_Zt_heals_1 3 rfl) rfl (n := 0) rfl ?_
    refine x_getG (zdm d_Zt_heals_1 4 rfl) f_Zt_23 rfl rfl (by decide) hsl rfl ?_
    refine x_getG (zdm d_Zt_heals_1 5 rfl) f_Zt_176 rfl rfl (by decide) hsl rfl ?_
    refine x_iload (zdm d_Zt_heals_1 6 rfl) (n := 3) rfl ?_
    obtain ⟨g3, H⟩ := H
    refine x_iald (zdm d_Zt_heals_1 7 rfl) rfl g3 ?_
    refine x_aload_n (zdm d_Zt_heals_1 8 rfl) rfl (n := 0) rfl ?_
    refine x_getG (zdm d_Zt_heals_1 9 rfl) f_Zt_31 rfl rfl (by decide) hsl rfl ?_
    refine x_aload_n (zdm d_Zt_heals_1 10 rfl) rfl (n := 0) rfl ?_
    refine x_getG (zdm d_Zt_heals_1 11 rfl) f_Zt_19 rfl rfl (by decide) hsl rfl ?_
    refine x_getf (zdm d_Zt_heals_1 12 rfl) f_Zt_130 rfl rfl ?_
    refine x_iload_n (zdm d_Zt_heals_1 13 rfl) rfl (n := 2) rfl ?_
    obtain ⟨g4, H⟩ := H
    refine x_iadd (zdm d_Zt_heals_1 14 rfl) g4 ?_
    refine x_iload (zdm d_Zt_heals_1 15 rfl) (n := 3) rfl ?_
    refine x_callVi (n := 2) (ci := 2) (zdm d_Zt_heals_1 16 rfl) k_Zt_179 (As := [(0, ((M 4 1) + l3)), (0, l4)]) rfl rfl rfl ⟨_, _, rfl⟩ (Nat.le_of_ble_eq_true rfl) trivial H (fun r5 M6 hr H => ?_)
    refine x_icmpeq (tgt := 154) (zdm d_Zt_heals_1 17 rfl) (by decide) (fun c => ?_) (fun c => ?_)
    · have H := H.1 c
      obtain ⟨g7, H⟩ := H
      refine x_iinc (zdm d_Zt_heals_1 20 rfl) (n := 3) rfl g7 (zlt rfl) rfl ?_
      refine x_goto (tgt := 109) (zdm d_Zt_heals_1 21 rfl) (by decide) ?_
      exact zX.sub [1, 2, 3, 0] rfl H
    · have H := H.2 c
      refine x_iconst (zdm d_Zt_heals_1 18 rfl) (zIl rfl) ?_
      exact x_ireturn (zdm d_Zt_heals_1 19 rfl) (ty := .boolean) rfl (by decide) (Or.inl rfl) H
set_option maxRecDepth 20000 in
set_option maxHeartbeats 4000000 in
theorem B_Zt_heals_88 {G : zG} {h sl : Nat} (hsl : 1 ≤ sl) {u : Nat × Nat × Nat × Nat} {l2 l3 : Int} {M : zM} {Q : Int → zM → Prop} (H : (l2 < l3 → Q 1 M) ∧ (¬ l2 < l3 → (zK (M 1 11) = (8, 0)) ∧ (zCt G h sl 0 0 y_Tablet_next [(2, (M 1 11)), (2, 6), (0, (-1)), (0, 0)] M (fun r1 M2 => zX G (y_Zt_heals, h + 1, sl) u 109 [(0, (2, 1)), (2, (0, l2)), (3, (0, l3)), (4, (0, 0))] [] M2 Q)))) : zX G (y_Zt_heals, h + 1, sl) u 88 [(0, (2, 1)), (2, (0, l2)), (3, (0, l3))] [] M Q := by
  refine x_iload_n (zdm d_Zt_heals_0 46 rfl) rfl (n := 2) rfl ?_
  refine x_iload_n (zdm d_Zt_heals_0 47 rfl) rfl (n := 1) rfl ?_
  refine x_icmpgt (tgt := 166) (zdm d_Zt_heals_0 48 rfl) (by decide) (fun c => ?_) (fun c => ?_)
  · have H := H.1 c
    refine x_iconst (zdm d_Zt_heals_1 24 rfl) (zIl rfl) ?_
    exact x_ireturn (zdm d_Zt_heals_1 25 rfl) (ty := .boolean) rfl (by decide) (Or.inr rfl) H
  · have H := H.2 c
    refine x_aload_n (zdm d_Zt_heals_0 49 rfl) rfl (n := 0) rfl ?_
    refine x_getf (zdm d_Zt_heals_0 50 rfl) f_Zt_82 rfl rfl ?_
    refine x_aload_n (zdm d_Zt_heals_0 51 rfl) rfl (n := 0) rfl ?_
    refine x_getG (zdm d_Zt_heals_0 52 rfl) f_Zt_23 rfl rfl (by decide) hsl rfl ?_
    refine x_iconst (zdm d_Zt_heals_0 53 rfl) (zIl rfl) ?_
    refine x_iconst (zdm d_Zt_heals_0 54 rfl) (zIl rfl) ?_
    obtain ⟨g3, H⟩ := H
    refine x_callVv (n := 3) (ci := 8) (zdm d_Zt_heals_0 55 rfl) k_Zt_276 (As := [(2, 6), (0, (-1)), (0, 0)]) rfl rfl g3 ⟨_, _, rfl⟩ (Nat.le_of_ble_eq_true rfl) rfl H (fun r1 M2 hr H => ?_)
    refine x_iconst (zdm d_Zt_heals_0 56 rfl) (zIl rfl) ?_
    refine x_istore (zdm d_Zt_heals_0 57 rfl) (zlt rfl) rfl ?_
    exact zX.sub [1, 2, 3, 0] rfl H
set_option maxRecDepth 20000 in
set_option maxHeartbeats 4000000 in
theorem B_Zt_heals_13 {G : zG} {h sl : Nat} (hsl : 1 ≤ sl) {u : Nat × Nat × Nat × Nat} {l1 l2 l3 : Int} {M : zM} {Q : Int → zM → Prop} (H : (zK (M 1 11) = (8, 0)) ∧ (((M (M 1 11) 2) ≤ l3 → zX G (y_Zt_heals, h + 1, sl) u 88 [(0, (2, 1)), (2, (0, l2)), (3, (0, 1))] [] M Q) ∧ (¬ (M (M 1 11) 2) ≤ l3 → (¬ (zand (zshr l1 l3) 1) = 1 → (zI (l3 + 1)) ∧ (zX G (y_Zt_heals, h + 1, sl) u 13 [(0, (2, 1)), (1, (0, l1)), (2, (0, l2)), (3, (0, (l3 + 1)))] [] M Q)) ∧ (¬ (¬ (zand (zshr l1 l3) 1) = 1) → zCt G h sl 0 0 y_Course_told [(2, 8), (0, (M 4 1)), (0, l3)] M (fun r3 M4 => (0 ≤ l3 ∧ l3 < 8) ∧ (zCt G h sl 0 0 y_Course_goesUp [(2, 8), (0, ((zwr M4 7 l3 r3) 4 1)), (0, l3)] (zwr M4 7 l3 r3) (fun r6 M7 => zCt G h sl 0 0 y_Line_go [(2, 6), (0, l3), (0, r6)] M7 (fun r9 M10 => (zI (l3 + 1)) ∧ (zX G (y_Zt_heals, h + 1, sl) u 13 [(0, (2, 1)), (1, (0, l1)), (2, (0, l2)), (3, (0, (l3 + 1)))] [] M10 Q))))))))) : zX G (y_Zt_heals, h + 1, sl) u 13 [(0, (2, 1)), (1, (0, l1)), (2, (0, l2)), (3, (0, l3))] [] M Q := by
  refine x_iload_n (zdm d_Zt_heals_0 7 rfl) rfl (n := 3) rfl ?_
  refine x_aload_n (zdm d_Zt_heals_0 8 rfl) rfl (n := 0) rfl ?_
  refine x_getf (zdm d_Zt_heals_0 9 rfl) f_Zt_82 rfl rfl ?_
  obtain ⟨g1, H⟩ := H
  refine x_getf (zdm d_Zt_heals_0 10 rfl) f_Zt_127 g1 rfl ?_
  refine x_icmpge (tgt := 86) (zdm d_Zt_heals_0 11 rfl) (by decide) (fun c => ?_) (fun c => ?_)
  · have H := H.1 c
    refine x_iconst (zdm d_Zt_heals_0 44 rfl) (zIl rfl) ?_
    refine x_istore_n (zdm d_Zt_heals_0 45 rfl) rfl (zlt rfl) rfl ?_
    exact zX.sub [1, 3, 0] rfl H
  · have H := H.2 c
    refine x_iload_n (zdm d_Zt_heals_0 12 rfl) rfl (n := 1) rfl ?_
    refine x_iload_n (zdm d_Zt_heals_0 13 rfl) rfl (n := 3) rfl ?_
    refine x_ishr (zdm d_Zt_heals_0 14 rfl) ?_
    refine x_iconst (zdm d_Zt_heals_0 15 rfl) (zIl rfl) ?_
    refine x_iand (zdm d_Zt_heals_0 16 rfl) ?_
    refine x_iconst (zdm d_Zt_heals_0 17 rfl) (zIl rfl) ?_
    refine x_icmpne (tgt := 80) (zdm d_Zt_heals_0 18 rfl) (by decide) (fun c => ?_) (fun c => ?_)
    · have H := H.1 c
      obtain ⟨g2, H⟩ := H
      refine x_iinc (zdm d_Zt_heals_0 42 rfl) (n := 3) rfl g2 (zlt rfl) rfl ?_
      refine x_goto (tgt := 13) (zdm d_Zt_heals_0 43 rfl) (by decide) ?_
      exact zX.sub [1, 2, 3, 0] rfl H
    · have H := H.2 c
      refine x_aload_n (zdm d_Zt_heals_0 19 rfl) rfl (n := 0) rfl ?_
      refine x_getG (zdm d_Zt_heals_0 20 rfl) f_Zt_23 rfl rfl (by decide) hsl rfl ?_
      refine x_getG (zdm d_Zt_heals_0 21 rfl) f_Zt_176 rfl rfl (by decide) hsl rfl ?_
      refine x_iload_n (zdm d_Zt_heals_0 22 rfl) rfl (n := 3) rfl ?_
      refine x_aload_n (zdm d_Zt_heals_0 23 rfl) rfl (n := 0) rfl ?_
      refine x_getG (zdm d_Zt_heals_0 24 rfl) f_Zt_31 rfl rfl (by decide) hsl rfl ?_
      refine x_aload_n (zdm d_Zt_heals_0 25 rfl) rfl (n := 0) rfl ?_
      refine x_getG (zdm d_Zt_heals_0 26 rfl) f_Zt_19 rfl rfl (by decide) hsl rfl ?_
      refine x_getf (zdm d_Zt_heals_0 27 rfl) f_Zt_130 rfl rfl ?_
      refine x_iload_n (zdm d_Zt_heals_0 28 rfl) rfl (n := 3) rfl ?_
      refine x_callVi (n := 2) (ci := 2) (zdm d_Zt_heals_0 29 rfl) k_Zt_179 (As := [(0, (M 4 1)), (0, l3)]) rfl rfl rfl ⟨_, _, rfl⟩ (Nat.le_of_ble_eq_true rfl) trivial H (fun r3 M4 hr H => ?_)
      obtain ⟨g5, H⟩ := H
      refine x_iast (zdm d_Zt_heals_0 30 rfl) rfl g5 ?_
      refine x_aload_n (zdm d_Zt_heals_0 31 rfl) rfl (n := 0) rfl ?_
      refine x_getG (zdm d_Zt_heals_0 32 rfl) f_Zt_23 rfl rfl (by decide) hsl rfl ?_
      refine x_iload_n (zdm d_Zt_heals_0 33 rfl) rfl (n := 3) rfl ?_
      refine x_aload_n (zdm d_Zt_heals_0 34 rfl) rfl (n := 0) rfl ?_
      refine x_getG (zdm d_Zt_heals_0 35 rfl) f_Zt_31 rfl rfl (by decide) hsl rfl ?_
      refine x_aload_n (zdm d_Zt_heals_0 36 rfl) rfl (n := 0) rfl ?_
      refine x_getG (zdm d_Zt_heals_0 37 rfl) f_Zt_19 rfl rfl (by decide) hsl rfl ?_
      refine x_getf (zdm d_Zt_heals_0 38 rfl) f_Zt_130 rfl rfl ?_
      refine x_iload_n (zdm d_Zt_heals_0 39 rfl) rfl (n := 3) rfl ?_
      refine x_callVi (n := 2) (ci := 2) (zdm d_Zt_heals_0 40 rfl) k_Zt_348 (As := [(0, ((zwr M4 7 l3 r3) 4 1)), (0, l3)]) rfl rfl rfl ⟨_, _, rfl⟩ (Nat.le_of_ble_eq_true rfl) trivial H (fun r6 M7 hr H => ?_)
      have b8 : r6 = 0 ∨ r6 = 1 := hr
      refine x_callVv (n := 2) (ci := 4) (zdm d_Zt_heals_0 41 rfl) k_Zt_292 (As := [(0, l3), (0, r6)]) rfl rfl rfl ⟨_, _, rfl⟩ (Nat.le_of_ble_eq_true rfl) rfl H (fun r9 M10 hr H => ?_)
      obtain ⟨g11, H⟩ := H
      refine x_iinc (zdm d_Zt_heals_0 42 rfl) (n := 3) rfl g11 (zlt rfl) rfl ?_
      refine x_goto (tgt := 13) (zdm d_Zt_heals_0 43 rfl) (by decide) ?_
      exact zX.sub [1, 2, 3, 0] rfl H
set_option maxRecDepth 20000 in
set_option maxHeartbeats 4000000 in
theorem E_Zt_heals {G : zG} {h sl : Nat} (hsl : 1 ≤ sl) {l1 l2 : Int} {M : zM} {Q : Int → zM → Prop} (H : zCt G h sl 0 0 y_Line_copy [(2, 6), (2, 4)] M (fun r1 M2 => zX G (y_Zt_heals, h + 1, sl) (0, 0, 0, 0) 13 [(0, (2, 1)), (1, (0, l1)), (2, (0, l2)), (3, (0, 0))] [] M2 Q)) : zCt G (h + 1) sl 0 0 y_Zt_heals [(2, 1), (0, l1), (0, l2)] M Q := by
  refine zCt.of (by decide +kernel) (Nat.le_of_ble_eq_true rfl) ?_
  refine x_aload_n (zdm d_Zt_heals_0 0 rfl) rfl (n := 0) rfl ?_
  refine x_getG (zdm d_Zt_heals_0 1 rfl) f_Zt_23 rfl rfl (by decide) hsl rfl ?_
  refine x_aload_n (zdm d_Zt_heals_0 2 rfl) rfl (n := 0) rfl ?_
  refine x_getG (zdm d_Zt_heals_0 3 rfl) f_Zt_19 rfl rfl (by decide) hsl rfl ?_
  refine x_callVv (n := 1) (ci := 4) (zdm d_Zt_heals_0 4 rfl) k_Zt_196 (As := [(2, 4)]) rfl rfl rfl ⟨_, _, rfl⟩ (Nat.le_of_ble_eq_true rfl) rfl H (fun r1 M2 hr H => ?_)
  refine x_iconst (zdm d_Zt_heals_0 5 rfl) (zIl rfl) ?_
  refine x_istore_n (zdm d_Zt_heals_0 6 rfl) rfl (zlt rfl) rfl ?_
  exact zX.sub [1, 2, 3, 0] rfl H
set_option maxRecDepth 20000 in
set_option maxHeartbeats 4000000 in
theorem E_Zt_draw {G : zG} {h sl : Nat} (hsl : 1 ≤ sl) {l1 : Int} {M : zM} {Q : Int → zM → Prop} (H : (zL (1103515245 * (M 1 16))) ∧ ((zL ((1103515245 * (M 1 16)) + 12345)) ∧ ((l1 ≤ 0 → Q 0 (zwr M 1 16 (zland ((1103515245 * (M 1 16)) + 12345) 2147483647))) ∧ (¬ l1 ≤ 0 → (zL (Int.tdiv ((zwr M 1 16 (zland ((1103515245 * (M 1 16)) + 12345) 2147483647)) 1 16) 64)) ∧ ((l1 ≠ 0) ∧ (Q (zl2i (Int.tmod (Int.tdiv ((zwr M 1 16 (zland ((1103515245 * (M 1 16)) + 12345) 2147483647)) 1 16) 64) l1)) (zwr M 1 16 (zland ((1103515245 * (M 1 16)) + 12345) 2147483647)))))))) : zCt G h sl 0 0 y_Zt_draw [(2, 1), (0, l1)] M Q := by
  refine zCt.of (by decide +kernel) (Nat.le_of_ble_eq_true rfl) ?_
  refine x_aload_n (zdm d_Zt_draw_0 0 rfl) rfl (n := 0) rfl ?_
  refine x_ldc2 (zdm d_Zt_draw_0 1 rfl) (n := 1103515245) (zLl rfl) w_Zt_350 ?_
  refine x_aload_n (zdm d_Zt_draw_0 2 rfl) rfl (n := 0) rfl ?_
  refine x_getf (zdm d_Zt_draw_0 3 rfl) f_Zt_93 rfl rfl ?_
  obtain ⟨g1, H⟩ := H
  refine x_lmul (zdm d_Zt_draw_0 4 rfl) g1 ?_
  refine x_ldc2 (zdm d_Zt_draw_0 5 rfl) (n := 12345) (zLl rfl) w_Zt_352 ?_
  obtain ⟨g2, H⟩ := H
  refine x_ladd (zdm d_Zt_draw_0 6 rfl) g2 ?_
  refine x_ldc2 (zdm d_Zt_draw_0 7 rfl) (n := 2147483647) (zLl rfl) w_Zt_354 ?_
  refine x_land (zdm d_Zt_draw_0 8 rfl) ?_
  refine x_putf (zdm d_Zt_draw_0 9 rfl) f_Zt_93 rfl ⟨rfl, trivial⟩ (Or.inl rfl) ?_
  refine x_iload_n (zdm d_Zt_draw_0 10 rfl) rfl (n := 1) rfl ?_
  refine x_ifle (tgt := 39) (zdm d_Zt_draw_0 11 rfl) (by decide) (fun c => ?_) (fun c => ?_)
  · have H := H.1 c
    refine x_iconst (zdm d_Zt_draw_0 21 rfl) (zIl rfl) ?_
    exact x_iret (zdm d_Zt_draw_0 22 rfl) rfl H
  · have H := H.2 c
    refine x_aload_n (zdm d_Zt_draw_0 12 rfl) rfl (n := 0) rfl ?_
    refine x_getf (zdm d_Zt_draw_0 13 rfl) f_Zt_93 rfl rfl ?_
    refine x_ldc2 (zdm d_Zt_draw_0 14 rfl) (n := 64) (zLl rfl) w_Zt_356 ?_
    obtain ⟨g3, H⟩ := H
    refine x_ldiv (zdm d_Zt_draw_0 15 rfl) (by decide) g3 ?_
    refine x_iload_n (zdm d_Zt_draw_0 16 rfl) rfl (n := 1) rfl ?_
    refine x_i2l (zdm d_Zt_draw_0 17 rfl) ?_
    obtain ⟨g4, H⟩ := H
    refine x_lrem (zdm d_Zt_draw_0 18 rfl) g4 ?_
    refine x_l2i (zdm d_Zt_draw_0 19 rfl) ?_
    refine x_goto (tgt := 40) (zdm d_Zt_draw_0 20 rfl) (by decide) ?_
    exact x_iret (zdm d_Zt_draw_0 22 rfl) rfl H
set_option maxRecDepth 20000 in
set_option maxHeartbeats 4000000 in
theorem E_Zt_slipByTheSeed {G : zG} {h sl : Nat} (hsl : 1 ≤ sl) {M : zM} {Q : Int → zM → Prop} (H : zCt G h sl 0 0 y_Zt_draw [(2, 1), (0, 100)] M (fun r1 M2 => (zK (M2 1 11) = (8, 0)) ∧ (((M2 (M2 1 11) 4) ≤ r1 → Q 0 M2) ∧ (¬ (M2 (M2 1 11) 4) ≤ r1 → (¬ (M2 (M2 1 11) 2) = 0 → zCt G h sl 0 0 y_Zt_draw [(2, 1), (0, (M2 (M2 1 11) 2))] M2 (fun r4 M5 => zCt G h sl 0 0 y_Zt_draw [(2, 1), (0, 9)] M5 (fun r6 M7 => (zI (r6 + 1)) ∧ (zCt G h sl 0 0 y_Zt_isColumn [(2, 1), (0, r4)] M7 (fun r9 M10 => (r9 = 0 → Q 0 M10) ∧ (¬ r9 = 0 → (zK (M10 1 11) = (8, 0)) ∧ ((0 ≤ r4 ∧ r4 < 8) ∧ (zCt G h sl 0 0 y_Column_moves [(2, ((M10 1 11) + 7 + 2 * r4))] M10 (fun r14 M15 => (¬ r14 = 0 → (zK (M15 1 11) = (8, 0)) ∧ (zCt G h sl 0 0 y_Column_slipped [(2, ((M15 1 11) + 7 + 2 * r4)), (0, (M15 5 r4)), (0, (r6 + 1))] M15 (fun r18 M19 => Q 1 (zwr M19 5 r4 r18)))) ∧ (¬ (¬ r14 = 0) → Q 0 M15)))))))))) ∧ (¬ (¬ (M2 (M2 1 11) 2) = 0) → Q 0 M2))))) : zCt G (h + 1) sl 0 0 y_Zt_slipByTheSeed [(2, 1)] M Q := by
  refine zCt.of (by decide +kernel) (Nat.le_of_ble_eq_true rfl) ?_
  refine x_aload_n (zdm d_Zt_slipByTheSeed_0 0 rfl) rfl (n := 0) rfl ?_
  refine x_bipush (zdm d_Zt_slipByTheSeed_0 1 rfl) (by decide) ?_
  refine x_callVi (n := 1) (ci := 10) (zdm d_Zt_slipByTheSeed_0 2 rfl) k_Zt_358 (As := [(0, 100)]) rfl rfl rfl ⟨_, _, rfl⟩ (Nat.le_of_ble_eq_true rfl) trivial H (fun r1 M2 hr H => ?_)
  refine x_aload_n (zdm d_Zt_slipByTheSeed_0 3 rfl) rfl (n := 0) rfl ?_
  refine x_getf (zdm d_Zt_slipByTheSeed_0 4 rfl) f_Zt_82 rfl rfl ?_
  obtain ⟨g3, H⟩ := H
  refine x_getf (zdm d_Zt_slipByTheSeed_0 5 rfl) f_Zt_231 g3 rfl ?_
  refine x_icmpge (tgt := 26) (zdm d_Zt_slipByTheSeed_0 6 rfl) (by decide) (fun c => ?_) (fun c => ?_)
  · have H := H.1 c
    refine x_iconst (zdm d_Zt_slipByTheSeed_0 11 rfl) (zIl rfl) ?_
    exact x_ireturn (zdm d_Zt_slipByTheSeed_0 12 rfl) (ty := .boolean) rfl (by decide) (Or.inl rfl) H
  · have H := H.2 c
    refine x_aload_n (zdm d_Zt_slipByTheSeed_0 7 rfl) rfl (n := 0) rfl ?_
    refine x_getf (zdm d_Zt_slipByTheSeed_0 8 rfl) f_Zt_82 rfl rfl ?_
    refine x_getf (zdm d_Zt_slipByTheSeed_0 9 rfl) f_Zt_127 g3 rfl ?_
    refine x_ifne (tgt := 28) (zdm d_Zt_slipByTheSeed_0 10 rfl) (by decide) (fun c => ?_) (fun c => ?_)
    · have H := H.1 c
      refine x_aload_n (zdm d_Zt_slipByTheSeed_0 13 rfl) rfl (n := 0) rfl ?_
      refine x_aload_n (zdm d_Zt_slipByTheSeed_0 14 rfl) rfl (n := 0) rfl ?_
      refine x_getf (zdm d_Zt_slipByTheSeed_0 15 rfl) f_Zt_82 rfl rfl ?_
      refine x_getf (zdm d_Zt_slipByTheSeed_0 16 rfl) f_Zt_127 g3 rfl ?_
      refine x_callVi (n := 1) (ci := 10) (zdm d_Zt_slipByTheSeed_0 17 rfl) k_Zt_358 (As := [(0, (M2 (M2 1 11) 2))]) rfl rfl rfl ⟨_, _, rfl⟩ (Nat.le_of_ble_eq_true rfl) trivial H (fun r4 M5 hr H => ?_)
      refine x_istore_n (zdm d_Zt_slipByTheSeed_0 18 rfl) rfl (zlt rfl) rfl ?_
      refine x_aload_n (zdm d_Zt_slipByTheSeed_0 19 rfl) rfl (n := 1) rfl ?_
      refine x_bipush (zdm d_Zt_slipByTheSeed_0 20 rfl) (by decide) ?_
      refine x_callVi (n := 1) (ci := 10) (zdm d_Zt_slipByTheSeed_0 21 rfl) k_Zt_358 (As := [(0, 9)]) rfl rfl rfl ⟨_, _, rfl⟩ (Nat.le_of_ble_eq_true rfl) trivial H (fun r6 M7 hr H => ?_)
      refine x_iconst (zdm d_Zt_slipByTheSeed_0 22 rfl) (zIl rfl) ?_
      obtain ⟨g8, H⟩ := H
      refine x_iadd (zdm d_Zt_slipByTheSeed_0 23 rfl) g8 ?_
      refine x_istore_n (zdm d_Zt_slipByTheSeed_0 24 rfl) rfl (zlt rfl) rfl ?_
      refine x_aload_n (zdm d_Zt_slipByTheSeed_0 25 rfl) rfl (n := 2) rfl ?_
      refine x_iload_n (zdm d_Zt_slipByTheSeed_0 26 rfl) rfl (n := 1) rfl ?_
      refine x_callVi (n := 1) (ci := 10) (zdm d_Zt_slipByTheSeed_0 27 rfl) k_Zt_150 (As := [(0, r4)]) rfl rfl rfl ⟨_, _, rfl⟩ (Nat.le_of_ble_eq_true rfl) trivial H (fun r9 M10 hr H => ?_)
      have b11 : r9 = 0 ∨ r9 = 1 := hr
      refine x_ifeq (tgt := 72) (zdm d_Zt_slipByTheSeed_0 28 rfl) (by decide) (fun c => ?_) (fun c => ?_)
      · have H := H.1 c
        refine x_iconst (zdm d_Zt_slipByTheSeed_0 36 rfl) (zIl rfl) ?_
        exact x_ireturn (zdm d_Zt_slipByTheSeed_0 37 rfl) (ty := .boolean) rfl (by decide) (Or.inl rfl) H
      · have H := H.2 c
        refine x_aload_n (zdm d_Zt_slipByTheSeed_0 29 rfl) rfl (n := 2) rfl ?_
        refine x_getf (zdm d_Zt_slipByTheSeed_0 30 rfl) f_Zt_82 rfl rfl ?_
        obtain ⟨g12, H⟩ := H
        refine x_getG (zdm d_Zt_slipByTheSeed_0 31 rfl) f_Zt_153 g12 rfl (by decide) hsl (zs_8 g12).1.1 ?_
        refine x_iload_n (zdm d_Zt_slipByTheSeed_0 32 rfl) rfl (n := 1) rfl ?_
        obtain ⟨g13, H⟩ := H
        refine x_aald5G (zdm d_Zt_slipByTheSeed_0 33 rfl) (zs_8 g12).1.2 g13 hsl (zs_cols g12 g13.1 g13.2).1 ?_
        refine x_callVi (n := 0) (ci := 1) (zdm d_Zt_slipByTheSeed_0 34 rfl) k_Zt_286 (As := []) rfl rfl (zs_cols g12 g13.1 g13.2).2 ⟨_, _, rfl⟩ (Nat.le_of_ble_eq_true rfl) trivial H (fun r14 M15 hr H => ?_)
        have b16 : r14 = 0 ∨ r14 = 1 := hr
        refine x_ifne (tgt := 74) (zdm d_Zt_slipByTheSeed_0 35 rfl) (by decide) (fun c => ?_) (fun c => ?_)
        · have H := H.1 c
          refine x_aload_n (zdm d_Zt_slipByTheSeed_0 38 rfl) rfl (n := 2) rfl ?_
          refine x_getG (zdm d_Zt_slipByTheSeed_0 39 rfl) f_Zt_19 rfl rfl (by decide) hsl rfl ?_
          refine x_getG (zdm d_Zt_slipByTheSeed_0 40 rfl) f_Zt_176 rfl rfl (by decide) hsl rfl ?_
          refine x_iload_n (zdm d_Zt_slipByTheSeed_0 41 rfl) rfl (n := 1) rfl ?_
          refine x_aload_n (zdm d_Zt_slipByTheSeed_0 42 rfl) rfl (n := 2) rfl ?_
          refine x_getf (zdm d_Zt_slipByTheSeed_0 43 rfl) f_Zt_82 rfl rfl ?_
          obtain ⟨g17, H⟩ := H
          refine x_getG (zdm d_Zt_slipByTheSeed_0 44 rfl) f_Zt_153 g17 rfl (by decide) hsl (zs_8 g17).1.1 ?_
          refine x_iload_n (zdm d_Zt_slipByTheSeed_0 45 rfl) rfl (n := 1) rfl ?_
          refine x_aald5G (zdm d_Zt_slipByTheSeed_0 46 rfl) (zs_8 g17).1.2 g13 hsl (zs_cols g17 g13.1 g13.2).1 ?_
          refine x_aload_n (zdm d_Zt_slipByTheSeed_0 47 rfl) rfl (n := 2) rfl ?_
          refine x_getG (zdm d_Zt_slipByTheSeed_0 48 rfl) f_Zt_19 rfl rfl (by decide) hsl rfl ?_
          refine x_getG (zdm d_Zt_slipByTheSeed_0 49 rfl) f_Zt_176 rfl rfl (by decide) hsl rfl ?_
          refine x_iload_n (zdm d_Zt_slipByTheSeed_0 50 rfl) rfl (n := 1) rfl ?_
          refine x_iald (zdm d_Zt_slipByTheSeed_0 51 rfl) rfl g13 ?_
          refine x_iload_n (zdm d_Zt_slipByTheSeed_0 52 rfl) rfl (n := 0) rfl ?_
          refine x_callVi (n := 2) (ci := 1) (zdm d_Zt_slipByTheSeed_0 53 rfl) k_Zt_234 (As := [(0, (M15 5 r4)), (0, (r6 + 1))]) rfl rfl (zs_cols g17 g13.1 g13.2).2 ⟨_, _, rfl⟩ (Nat.le_of_ble_eq_true rfl) trivial H (fun r18 M19 hr H => ?_)
          refine x_iast (zdm d_Zt_slipByTheSeed_0 54 rfl) rfl g13 ?_
          refine x_iconst (zdm d_Zt_slipByTheSeed_0 55 rfl) (zIl rfl) ?_
          exact x_ireturn (zdm d_Zt_slipByTheSeed_0 56 rfl) (ty := .boolean) rfl (by decide) (Or.inr rfl) H
        · have H := H.2 c
          refine x_iconst (zdm d_Zt_slipByTheSeed_0 36 rfl) (zIl rfl) ?_
          exact x_ireturn (zdm d_Zt_slipByTheSeed_0 37 rfl) (ty := .boolean) rfl (by decide) (Or.inl rfl) H
    · have H := H.2 c
      refine x_iconst (zdm d_Zt_slipByTheSeed_0 11 rfl) (zIl rfl) ?_
      exact x_ireturn (zdm d_Zt_slipByTheSeed_0 12 rfl) (ty := .boolean) rfl (by decide) (Or.inl rfl) H
set_option maxRecDepth 20000 in
set_option maxHeartbeats 4000000 in
theorem B_Zt_readImage_250 {G : zG} {h sl : Nat} (hsl : 1 ≤ sl) {u : Nat × Nat × Nat × Nat} {l1 l3 s0 s1 s2 : Int} {M : zM} {Q : Int → zM → Prop} (H : (zK s2 = (4, 0)) ∧ (zCt G h sl 0 0 y_Line_go [(2, s2), (0, s1), (0, s0)] M (fun r1 M2 => (zI (l3 + 1)) ∧ (zX G (y_Zt_readImage, h + 1, sl) u 96 [(0, (2, 1)), (1, (2, l1)), (3, (0, (l3 + 1)))] [] M2 Q)))) : zX G (y_Zt_readImage, h + 1, sl) u 250 [(0, (2, 1)), (1, (2, l1)), (3, (0, l3))] [(0, s0), (0, s1), (2, s2)] M Q := by
  obtain ⟨g3, H⟩ := H
  refine x_callVv (n := 2) (ci := 4) (zdm d_Zt_readImage_2 15 rfl) k_Zt_292 (As := [(0, s1), (0, s0)]) rfl rfl g3 ⟨_, _, rfl⟩ (Nat.le_of_ble_eq_true rfl) rfl H (fun r1 M2 hr H => ?_)
  obtain ⟨g4, H⟩ := H
  refine x_iinc (zdm d_Zt_readImage_2 16 rfl) (n := 2) rfl g4 (zlt rfl) rfl ?_
  refine x_goto (tgt := 96) (zdm d_Zt_readImage_2 17 rfl) (by decide) ?_
  exact zX.sub [1, 2, 0] rfl H
set_option maxRecDepth 20000 in
set_option maxHeartbeats 4000000 in
theorem B_Zt_readImage_224 {G : zG} {h sl : Nat} (hsl : 1 ≤ sl) {u : Nat × Nat × Nat × Nat} {l1 l3 l6 l7 s0 s1 : Int} {M : zM} {Q : Int → zM → Prop} (H : (s1 ≤ s0 → (zK l1 = (4, 0)) ∧ ((0 ≤ l3 ∧ l3 < 8) ∧ ((¬ l7 = 1 → zX G (y_Zt_readImage, h + 1, sl) u 250 [(0, (2, 1)), (1, (2, l1)), (3, (0, l3))] [(0, 0), (0, l3), (2, l1)] (zwr M (l1 + 1) l3 l6) Q) ∧ (¬ (¬ l7 = 1) → zX G (y_Zt_readImage, h + 1, sl) u 250 [(0, (2, 1)), (1, (2, l1)), (3, (0, l3))] [(0, 1), (0, l3), (2, l1)] (zwr M (l1 + 1) l3 l6) Q)))) ∧ (¬ s1 ≤ s0 → Q 0 M)) : zX G (y_Zt_readImage, h + 1, sl) u 224 [(0, (2, 1)), (1, (2, l1)), (3, (0, l3)), (6, (0, l6)), (7, (0, l7))] [(0, s0), (0, s1)] M Q := by
  refine x_icmple (tgt := 229) (zdm d_Zt_readImage_1 59 rfl) (by decide) (fun c => ?_) (fun c => ?_)
  · have H := H.1 c
    refine x_aload_n (zdm d_Zt_readImage_2 2 rfl) rfl (n := 1) rfl ?_
    obtain ⟨g1, H⟩ := H
    refine x_getG (zdm d_Zt_readImage_2 3 rfl) f_Zt_176 g1 rfl (by decide) hsl (zs_4 g1).1 ?_
    refine x_iload_n (zdm d_Zt_readImage_2 4 rfl) rfl (n := 2) rfl ?_
    refine x_iload (zdm d_Zt_readImage_2 5 rfl) (n := 3) rfl ?_
    obtain ⟨g2, H⟩ := H
    refine x_iast (zdm d_Zt_readImage_2 6 rfl) (zs_4 g1).2 g2 ?_
    refine x_aload_n (zdm d_Zt_readImage_2 7 rfl) rfl (n := 1) rfl ?_
    refine x_iload_n (zdm d_Zt_readImage_2 8 rfl) rfl (n := 2) rfl ?_
    refine x_iload (zdm d_Zt_readImage_2 9 rfl) (n := 4) rfl ?_
    refine x_iconst (zdm d_Zt_readImage_2 10 rfl) (zIl rfl) ?_
    refine x_icmpne (tgt := 249) (zdm d_Zt_readImage_2 11 rfl) (by decide) (fun c => ?_) (fun c => ?_)
    · have H := H.1 c
      refine x_iconst (zdm d_Zt_readImage_2 14 rfl) (zIl rfl) ?_
      exact zX.sub [0, 1, 2] rfl H
    · have H := H.2 c
      refine x_iconst (zdm d_Zt_readImage_2 12 rfl) (zIl rfl) ?_
      refine x_goto (tgt := 250) (zdm d_Zt_readImage_2 13 rfl) (by decide) ?_
      exact zX.sub [0, 1, 2] rfl H
  · have H := H.2 c
    refine x_iconst (zdm d_Zt_readImage_2 0 rfl) (zIl rfl) ?_
    exact x_ireturn (zdm d_Zt_readImage_2 1 rfl) (ty := .boolean) rfl (by decide) (Or.inl rfl) H
set_option maxRecDepth 20000 in
set_option maxHeartbeats 4000000 in
theorem B_Zt_readImage_202 {G : zG} {h sl : Nat} (hsl : 1 ≤ sl) {u : Nat × Nat × Nat × Nat} {l1 l3 l4 l6 l7 s0 : Int} {M : zM} {Q : Int → zM → Prop} (H : (s0 = 0 → Q 0 M) ∧ (¬ s0 = 0 → (zK l4 = (1, 0)) ∧ ((¬ (M l4 1) = 0 → zX G (y_Zt_readImage, h + 1, sl) u 224 [(0, (2, 1)), (1, (2, l1)), (3, (0, l3)), (6, (0, l6)), (7, (0, l7))] [(0, 0), (0, l7)] M Q) ∧ (¬ (¬ (M l4 1) = 0) → zX G (y_Zt_readImage, h + 1, sl) u 224 [(0, (2, 1)), (1, (2, l1)), (3, (0, l3)), (6, (0, l6)), (7, (0, l7))] [(0, 1), (0, l7)] M Q)))) : zX G (y_Zt_readImage, h + 1, sl) u 202 [(0, (2, 1)), (1, (2, l1)), (3, (0, l3)), (4, (2, l4)), (6, (0, l6)), (7, (0, l7))] [(0, s0)] M Q := by
  refine x_istore (zdm d_Zt_readImage_1 49 rfl) (zlt rfl) rfl ?_
  refine x_iload (zdm d_Zt_readImage_1 50 rfl) (n := 0) rfl ?_
  refine x_ifeq (tgt := 227) (zdm d_Zt_readImage_1 51 rfl) (by decide) (fun c => ?_) (fun c => ?_)
  · have H := H.1 c
    refine x_iconst (zdm d_Zt_readImage_2 0 rfl) (zIl rfl) ?_
    exact x_ireturn (zdm d_Zt_readImage_2 1 rfl) (ty := .boolean) rfl (by decide) (Or.inl rfl) H
  · have H := H.2 c
    refine x_iload (zdm d_Zt_readImage_1 52 rfl) (n := 6) rfl ?_
    refine x_aload (zdm d_Zt_readImage_1 53 rfl) (n := 4) rfl ?_
    obtain ⟨g1, H⟩ := H
    refine x_getf (zdm d_Zt_readImage_1 54 rfl) f_Zt_162 g1 rfl ?_
    refine x_ifne (tgt := 223) (zdm d_Zt_readImage_1 55 rfl) (by decide) (fun c => ?_) (fun c => ?_)
    · have H := H.1 c
      refine x_iconst (zdm d_Zt_readImage_1 58 rfl) (zIl rfl) ?_
      exact zX.sub [1, 2, 3, 5, 6] rfl H
    · have H := H.2 c
      refine x_iconst (zdm d_Zt_readImage_1 56 rfl) (zIl rfl) ?_
      refine x_goto (tgt := 224) (zdm d_Zt_readImage_1 57 rfl) (by decide) ?_
      exact zX.sub [1, 2, 3, 5, 6] rfl H
set_option maxRecDepth 20000 in
set_option maxHeartbeats 4000000 in
theorem B_Zt_readImage_96 {G : zG} {h sl : Nat} (hsl : 1 ≤ sl) {u : Nat × Nat × Nat × Nat} {l1 l3 : Int} {M : zM} {Q : Int → zM → Prop} (H : (zK (M 1 11) = (8, 0)) ∧ (((M (M 1 11) 2) ≤ l3 → Q 1 M) ∧ (¬ (M (M 1 11) 2) ≤ l3 → (0 ≤ l3 ∧ l3 < 8) ∧ ((zI (4 * l3)) ∧ ((zI (2 + (4 * l3))) ∧ (zCt G h sl 0 0 y_Tape_pair [(2, 2), (0, (2 + (4 * l3)))] M (fun r5 M6 => (zI (r5 * 256)) ∧ ((zI ((2 + (4 * l3)) + 2)) ∧ ((0 ≤ ((2 + (4 * l3)) + 2) ∧ ((2 + (4 * l3)) + 2) < 1600) ∧ ((zI ((r5 * 256) + (M6 3 ((2 + (4 * l3)) + 2)))) ∧ ((zI (((r5 * 256) + (M6 3 ((2 + (4 * l3)) + 2))) - 1000000)) ∧ ((zI ((2 + (4 * l3)) + 3)) ∧ ((0 ≤ ((2 + (4 * l3)) + 3) ∧ ((2 + (4 * l3)) + 3) < 1600) ∧ (zCt G h sl 0 0 y_Column_moves [(2, ((M 1 11) + 7 + 2 * l3))] M6 (fun r14 M15 => (r14 = 0 → (1000000 < (((r5 * 256) + (M6 3 ((2 + (4 * l3)) + 2))) - 1000000) → zX G (y_Zt_readImage, h + 1, sl) u 202 [(0, (2, 1)), (1, (2, l1)), (3, (0, l3)), (4, (2, ((M 1 11) + 7 + 2 * l3))), (6, (0, (((r5 * 256) + (M6 3 ((2 + (4 * l3)) + 2))) - 1000000))), (7, (0, (M6 3 ((2 + (4 * l3)) + 3))))] [(0, 0)] M15 Q) ∧ (¬ 1000000 < (((r5 * 256) + (M6 3 ((2 + (4 * l3)) + 2))) - 1000000) → zX G (y_Zt_readImage, h + 1, sl) u 202 [(0, (2, 1)), (1, (2, l1)), (3, (0, l3)), (4, (2, ((M 1 11) + 7 + 2 * l3))), (6, (0, (((r5 * 256) + (M6 3 ((2 + (4 * l3)) + 2))) - 1000000))), (7, (0, (M6 3 ((2 + (4 * l3)) + 3))))] [(0, 1)] M15 Q)) ∧ (¬ r14 = 0 → zCt G h sl 0 0 y_Column_canTell [(2, ((M 1 11) + 7 + 2 * l3)), (0, (((r5 * 256) + (M6 3 ((2 + (4 * l3)) + 2))) - 1000000))] M15 (fun r17 M18 => zX G (y_Zt_readImage, h + 1, sl) u 202 [(0, (2, 1)), (1, (2, l1)), (3, (0, l3)), (4, (2, ((M 1 11) + 7 + 2 * l3))), (6, (0, (((r5 * 256) + (M6 3 ((2 + (4 * l3)) + 2))) - 1000000))), (7, (0, (M6 3 ((2 + (4 * l3)) + 3))))] [(0, r17)] M18 Q))))))))))))))))) : zX G (y_Zt_readImage, h + 1, sl) u 96 [(0, (2, 1)), (1, (2, l1)), (3, (0, l3))] [] M Q := by
  refine x_iload_n (zdm d_Zt_readImage_0 54 rfl) rfl (n := 2) rfl ?_
  refine x_aload_n (zdm d_Zt_readImage_0 55 rfl) rfl (n := 0) rfl ?_
  refine x_getf (zdm d_Zt_readImage_0 56 rfl) f_Zt_82 rfl rfl ?_
  obtain ⟨g1, H⟩ := H
  refine x_getf (zdm d_Zt_readImage_0 57 rfl) f_Zt_127 g1 rfl ?_
  refine x_icmpge (tgt := 259) (zdm d_Zt_readImage_0 58 rfl) (by decide) (fun c => ?_) (fun c => ?_)
  · have H := H.1 c
    refine x_iconst (zdm d_Zt_readImage_2 18 rfl) (zIl rfl) ?_
    exact x_ireturn (zdm d_Zt_readImage_2 19 rfl) (ty := .boolean) rfl (by decide) (Or.inr rfl) H
  · have H := H.2 c
    refine x_aload_n (zdm d_Zt_readImage_0 59 rfl) rfl (n := 0) rfl ?_
    refine x_getf (zdm d_Zt_readImage_1 0 rfl) f_Zt_82 rfl rfl ?_
    refine x_getG (zdm d_Zt_readImage_1 1 rfl) f_Zt_153 g1 rfl (by decide) hsl (zs_8 g1).1.1 ?_
    refine x_iload_n (zdm d_Zt_readImage_1 2 rfl) rfl (n := 2) rfl ?_
    obtain ⟨g2, H⟩ := H
    refine x_aald5G (zdm d_Zt_readImage_1 3 rfl) (zs_8 g1).1.2 g2 hsl (zs_cols g1 g2.1 g2.2).1 ?_
    refine x_astore (zdm d_Zt_readImage_1 4 rfl) (zlt rfl) rfl ?_
    refine x_iconst (zdm d_Zt_readImage_1 5 rfl) (zIl rfl) ?_
    refine x_iconst (zdm d_Zt_readImage_1 6 rfl) (zIl rfl) ?_
    refine x_iload_n (zdm d_Zt_readImage_1 7 rfl) rfl (n := 3) rfl ?_
    obtain ⟨g3, H⟩ := H
    refine x_imul (zdm d_Zt_readImage_1 8 rfl) g3 ?_
    obtain ⟨g4, H⟩ := H
    refine x_iadd (zdm d_Zt_readImage_1 9 rfl) g4 ?_
    refine x_istore (zdm d_Zt_readImage_1 10 rfl) (zlt rfl) rfl ?_
    refine x_aload_n (zdm d_Zt_readImage_1 11 rfl) rfl (n := 2) rfl ?_
    refine x_getG (zdm d_Zt_readImage_1 12 rfl) f_Zt_10 rfl rfl (by decide) hsl rfl ?_
    refine x_iload (zdm d_Zt_readImage_1 13 rfl) (n := 0) rfl ?_
    refine x_callVi (n := 1) (ci := 9) (zdm d_Zt_readImage_1 14 rfl) k_Zt_367 (As := [(0, (2 + (4 * l3)))]) rfl rfl rfl ⟨_, _, rfl⟩ (Nat.le_of_ble_eq_true rfl) trivial H (fun r5 M6 hr H => ?_)
    refine x_sipush (zdm d_Zt_readImage_1 15 rfl) (by decide) ?_
    obtain ⟨g7, H⟩ := H
    refine x_imul (zdm d_Zt_readImage_1 16 rfl) g7 ?_
    refine x_aload_n (zdm d_Zt_readImage_1 17 rfl) rfl (n := 2) rfl ?_
    refine x_getG (zdm d_Zt_readImage_1 18 rfl) f_Zt_10 rfl rfl (by decide) hsl rfl ?_
    refine x_getG (zdm d_Zt_readImage_1 19 rfl) f_Zt_361 rfl rfl (by decide) hsl rfl ?_
    refine x_iload (zdm d_Zt_readImage_1 20 rfl) (n := 0) rfl ?_
    refine x_iconst (zdm d_Zt_readImage_1 21 rfl) (zIl rfl) ?_
    obtain ⟨g8, H⟩ := H
    refine x_iadd (zdm d_Zt_readImage_1 22 rfl) g8 ?_
    obtain ⟨g9, H⟩ := H
    refine x_iald (zdm d_Zt_readImage_1 23 rfl) rfl g9 ?_
    obtain ⟨g10, H⟩ := H
    refine x_iadd (zdm d_Zt_readImage_1 24 rfl) g10 ?_
    refine x_ldcw (zdm d_Zt_readImage_1 25 rfl) (n := 1000000) (zIl rfl) w_Zt_316 ?_
    obtain ⟨g11, H⟩ := H
    refine x_isub (zdm d_Zt_readImage_1 26 rfl) g11 ?_
    refine x_istore (zdm d_Zt_readImage_1 27 rfl) (zlt rfl) rfl ?_
    refine x_aload_n (zdm d_Zt_readImage_1 28 rfl) rfl (n := 3) rfl ?_
    refine x_getG (zdm d_Zt_readImage_1 29 rfl) f_Zt_10 rfl rfl (by decide) hsl rfl ?_
    refine x_getG (zdm d_Zt_readImage_1 30 rfl) f_Zt_361 rfl rfl (by decide) hsl rfl ?_
    refine x_iload (zdm d_Zt_readImage_1 31 rfl) (n := 1) rfl ?_
    refine x_iconst (zdm d_Zt_readImage_1 32 rfl) (zIl rfl) ?_
    obtain ⟨g12, H⟩ := H
    refine x_iadd (zdm d_Zt_readImage_1 33 rfl) g12 ?_
    obtain ⟨g13, H⟩ := H
    refine x_iald (zdm d_Zt_readImage_1 34 rfl) rfl g13 ?_
    refine x_istore (zdm d_Zt_readImage_1 35 rfl) (zlt rfl) rfl ?_
    refine x_aload (zdm d_Zt_readImage_1 36 rfl) (n := 3) rfl ?_
    refine x_callVi (n := 0) (ci := 1) (zdm d_Zt_readImage_1 37 rfl) k_Zt_286 (As := []) rfl rfl (zs_cols g1 g2.1 g2.2).2 ⟨_, _, rfl⟩ (Nat.le_of_ble_eq_true rfl) trivial H (fun r14 M15 hr H => ?_)
    have b16 : r14 = 0 ∨ r14 = 1 := hr
    refine x_ifeq (tgt := 189) (zdm d_Zt_readImage_1 38 rfl) (by decide) (fun c => ?_) (fun c => ?_)
    · have H := H.1 c
      refine x_iload (zdm d_Zt_readImage_1 43 rfl) (n := 1) rfl ?_
      refine x_ldcw (zdm d_Zt_readImage_1 44 rfl) (n := 1000000) (zIl rfl) w_Zt_316 ?_
      refine x_icmpgt (tgt := 201) (zdm d_Zt_readImage_1 45 rfl) (by decide) (fun c => ?_) (fun c => ?_)
      · have H := H.1 c
        refine x_iconst (zdm d_Zt_readImage_1 48 rfl) (zIl rfl) ?_
        exact zX.sub [4, 5, 6, 3, 1, 0] rfl H
      · have H := H.2 c
        refine x_iconst (zdm d_Zt_readImage_1 46 rfl) (zIl rfl) ?_
        refine x_goto (tgt := 202) (zdm d_Zt_readImage_1 47 rfl) (by decide) ?_
        exact zX.sub [4, 5, 6, 3, 1, 0] rfl H
    · have H := H.2 c
      refine x_aload (zdm d_Zt_readImage_1 39 rfl) (n := 3) rfl ?_
      refine x_iload (zdm d_Zt_readImage_1 40 rfl) (n := 1) rfl ?_
      refine x_callVi (n := 1) (ci := 1) (zdm d_Zt_readImage_1 41 rfl) k_Zt_289 (As := [(0, (((r5 * 256) + (M6 3 ((2 + (4 * l3)) + 2))) - 1000000))]) rfl rfl (zs_cols g1 g2.1 g2.2).2 ⟨_, _, rfl⟩ (Nat.le_of_ble_eq_true rfl) trivial H (fun r17 M18 hr H => ?_)
      have b19 : r17 = 0 ∨ r17 = 1 := hr
      refine x_goto (tgt := 202) (zdm d_Zt_readImage_1 42 rfl) (by decide) ?_
      exact zX.sub [4, 5, 6, 3, 1, 0] rfl H
set_option maxRecDepth 20000 in
set_option maxHeartbeats 4000000 in
theorem E_Zt_readImage {G : zG} {h sl : Nat} (hsl : 1 ≤ sl) {l1 : Int} {M : zM} {Q : Int → zM → Prop} (H : (zK (M 1 11) = (8, 0)) ∧ ((zI (4 * (M (M 1 11) 2))) ∧ ((zI (2 + (4 * (M (M 1 11) 2)))) ∧ ((zI ((2 + (4 * (M (M 1 11) 2))) + 1)) ∧ ((¬ (M 2 1) = ((2 + (4 * (M (M 1 11) 2))) + 1) → Q 0 M) ∧ (¬ (¬ (M 2 1) = ((2 + (4 * (M (M 1 11) 2))) + 1)) → (0 ≤ (2 + (4 * (M (M 1 11) 2))) ∧ (2 + (4 * (M (M 1 11) 2))) < 1600) ∧ (zCt G h sl 0 0 y_Zt_sealOf [(2, 3), (0, (2 + (4 * (M (M 1 11) 2))))] M (fun r6 M7 => ((M 3 (2 + (4 * (M (M 1 11) 2)))) = r6 → (zI ((M7 3 0) * 256)) ∧ ((zI (((M7 3 0) * 256) + (M7 3 1))) ∧ ((zK l1 = (4, 0)) ∧ ((((zwr (zwr M7 l1 1 (((M7 3 0) * 256) + (M7 3 1))) l1 2 0) l1 1) ≤ 999 → zX G (y_Zt_readImage, h + 1, sl) (0, 0, 0, 0) 96 [(0, (2, 1)), (1, (2, l1)), (3, (0, 0))] [] (zwr (zwr M7 l1 1 (((M7 3 0) * 256) + (M7 3 1))) l1 2 0) Q) ∧ (¬ ((zwr (zwr M7 l1 1 (((M7 3 0) * 256) + (M7 3 1))) l1 2 0) l1 1) ≤ 999 → Q 0 (zwr (zwr M7 l1 1 (((M7 3 0) * 256) + (M7 3 1))) l1 2 0)))))) ∧ (¬ (M 3 (2 + (4 * (M (M 1 11) 2)))) = r6 → Q 0 M7))))))))) : zCt G (h + 1) sl 0 0 y_Zt_readImage [(2, 1), (2, l1)] M Q := by
  refine zCt.of (by decide +kernel) (Nat.le_of_ble_eq_true rfl) ?_
  refine x_iconst (zdm d_Zt_readImage_0 0 rfl) (zIl rfl) ?_
  refine x_iconst (zdm d_Zt_readImage_0 1 rfl) (zIl rfl) ?_
  refine x_aload_n (zdm d_Zt_readImage_0 2 rfl) rfl (n := 0) rfl ?_
  refine x_getf (zdm d_Zt_readImage_0 3 rfl) f_Zt_82 rfl rfl ?_
  obtain ⟨g1, H⟩ := H
  refine x_getf (zdm d_Zt_readImage_0 4 rfl) f_Zt_127 g1 rfl ?_
  obtain ⟨g2, H⟩ := H
  refine x_imul (zdm d_Zt_readImage_0 5 rfl) g2 ?_
  obtain ⟨g3, H⟩ := H
  refine x_iadd (zdm d_Zt_readImage_0 6 rfl) g3 ?_
  refine x_istore_n (zdm d_Zt_readImage_0 7 rfl) rfl (zlt rfl) rfl ?_
  refine x_aload_n (zdm d_Zt_readImage_0 8 rfl) rfl (n := 1) rfl ?_
  refine x_getG (zdm d_Zt_readImage_0 9 rfl) f_Zt_10 rfl rfl (by decide) hsl rfl ?_
  refine x_getf (zdm d_Zt_readImage_0 10 rfl) f_Zt_100 rfl rfl ?_
  refine x_iload_n (zdm d_Zt_readImage_0 11 rfl) rfl (n := 0) rfl ?_
  refine x_iconst (zdm d_Zt_readImage_0 12 rfl) (zIl rfl) ?_
  obtain ⟨g4, H⟩ := H
  refine x_iadd (zdm d_Zt_readImage_0 13 rfl) g4 ?_
  refine x_icmpne (tgt := 48) (zdm d_Zt_readImage_0 14 rfl) (by decide) (fun c => ?_) (fun c => ?_)
  · have H := H.1 c
    refine x_iconst (zdm d_Zt_readImage_0 26 rfl) (zIl rfl) ?_
    exact x_ireturn (zdm d_Zt_readImage_0 27 rfl) (ty := .boolean) rfl (by decide) (Or.inl rfl) H
  · have H := H.2 c
    refine x_aload_n (zdm d_Zt_readImage_0 15 rfl) rfl (n := 1) rfl ?_
    refine x_getG (zdm d_Zt_readImage_0 16 rfl) f_Zt_10 rfl rfl (by decide) hsl rfl ?_
    refine x_getG (zdm d_Zt_readImage_0 17 rfl) f_Zt_361 rfl rfl (by decide) hsl rfl ?_
    refine x_iload_n (zdm d_Zt_readImage_0 18 rfl) rfl (n := 0) rfl ?_
    obtain ⟨g5, H⟩ := H
    refine x_iald (zdm d_Zt_readImage_0 19 rfl) rfl g5 ?_
    refine x_aload_n (zdm d_Zt_readImage_0 20 rfl) rfl (n := 1) rfl ?_
    refine x_getG (zdm d_Zt_readImage_0 21 rfl) f_Zt_10 rfl rfl (by decide) hsl rfl ?_
    refine x_getG (zdm d_Zt_readImage_0 22 rfl) f_Zt_361 rfl rfl (by decide) hsl rfl ?_
    refine x_iload_n (zdm d_Zt_readImage_0 23 rfl) rfl (n := 0) rfl ?_
    refine x_callSi (n := 2) (zdm d_Zt_readImage_0 24 rfl) k_Zt_317 (As := [(2, 3), (0, (2 + (4 * (M (M 1 11) 2))))]) rfl rfl (Nat.le_of_ble_eq_true rfl) trivial H (fun r6 M7 hr H => ?_)
    refine x_icmpeq (tgt := 50) (zdm d_Zt_readImage_0 25 rfl) (by decide) (fun c => ?_) (fun c => ?_)
    · have H := H.1 c
      refine x_aload_n (zdm d_Zt_readImage_0 28 rfl) rfl (n := 2) rfl ?_
      refine x_aload_n (zdm d_Zt_readImage_0 29 rfl) rfl (n := 1) rfl ?_
      refine x_getG (zdm d_Zt_readImage_0 30 rfl) f_Zt_10 rfl rfl (by decide) hsl rfl ?_
      refine x_getG (zdm d_Zt_readImage_0 31 rfl) f_Zt_361 rfl rfl (by decide) hsl rfl ?_
      refine x_iconst (zdm d_Zt_readImage_0 32 rfl) (zIl rfl) ?_
      refine x_iald (zdm d_Zt_readImage_0 33 rfl) rfl ⟨by decide, by decide⟩ ?_
      refine x_sipush (zdm d_Zt_readImage_0 34 rfl) (by decide) ?_
      obtain ⟨g8, H⟩ := H
      refine x_imul (zdm d_Zt_readImage_0 35 rfl) g8 ?_
      refine x_aload_n (zdm d_Zt_readImage_0 36 rfl) rfl (n := 1) rfl ?_
      refine x_getG (zdm d_Zt_readImage_0 37 rfl) f_Zt_10 rfl rfl (by decide) hsl rfl ?_
      refine x_getG (zdm d_Zt_readImage_0 38 rfl) f_Zt_361 rfl rfl (by decide) hsl rfl ?_
      refine x_iconst (zdm d_Zt_readImage_0 39 rfl) (zIl rfl) ?_
      refine x_iald (zdm d_Zt_readImage_0 40 rfl) rfl ⟨by decide, by decide⟩ ?_
      obtain ⟨g9, H⟩ := H
      refine x_iadd (zdm d_Zt_readImage_0 41 rfl) g9 ?_
      obtain ⟨g10, H⟩ := H
      refine x_putf (zdm d_Zt_readImage_0 42 rfl) f_Zt_130 g10 ⟨rfl, trivial⟩ (Or.inl rfl) ?_
      refine x_aload_n (zdm d_Zt_readImage_0 43 rfl) rfl (n := 2) rfl ?_
      refine x_iconst (zdm d_Zt_readImage_0 44 rfl) (zIl rfl) ?_
      refine x_putf (zdm d_Zt_readImage_0 45 rfl) f_Zt_364 g10 ⟨rfl, trivial⟩ (Or.inl rfl) ?_
      refine x_aload_n (zdm d_Zt_readImage_0 46 rfl) rfl (n := 2) rfl ?_
      refine x_getf (zdm d_Zt_readImage_0 47 rfl) f_Zt_130 g10 rfl ?_
      refine x_sipush (zdm d_Zt_readImage_0 48 rfl) (by decide) ?_
      refine x_icmple (tgt := 94) (zdm d_Zt_readImage_0 49 rfl) (by decide) (fun c => ?_) (fun c => ?_)
      · have H := H.1 c
        refine x_iconst (zdm d_Zt_readImage_0 52 rfl) (zIl rfl) ?_
        refine x_istore_n (zdm d_Zt_readImage_0 53 rfl) rfl (zlt rfl) rfl ?_
        exact zX.sub [2, 3, 0] rfl H
      · have H := H.2 c
        refine x_iconst (zdm d_Zt_readImage_0 50 rfl) (zIl rfl) ?_
        exact x_ireturn (zdm d_Zt_readImage_0 51 rfl) (ty := .boolean) rfl (by decide) (Or.inl rfl) H
    · have H := H.2 c
      refine x_iconst (zdm d_Zt_readImage_0 26 rfl) (zIl rfl) ?_
      exact x_ireturn (zdm d_Zt_readImage_0 27 rfl) (ty := .boolean) rfl (by decide) (Or.inl rfl) H
set_option maxRecDepth 20000 in
set_option maxHeartbeats 4000000 in
theorem B_Zt_sealOf_6 {G : zG} {h sl : Nat} (hsl : 1 ≤ sl) {u : Nat × Nat × Nat × Nat} {l0 l1 l2 l3 : Int} {M : zM} {Q : Int → zM → Prop} (H : (l1 ≤ l3 → Q l2 M) ∧ (¬ l1 ≤ l3 → ((zK l0).1 = 100) ∧ ((0 ≤ (zK l0).2 ∧ (zK l0).2 ≤ 100000) ∧ (((zK l0).2 ≤ l3 → Q l2 M) ∧ (¬ (zK l0).2 ≤ l3 → (zI (3 * l2)) ∧ ((0 ≤ l3 ∧ l3 < (zK l0).2) ∧ ((zI ((3 * l2) + (M l0 l3))) ∧ ((zI (l3 + 1)) ∧ (zX G (y_Zt_sealOf, h, sl) u 6 [(0, (2, l0)), (1, (0, l1)), (2, (0, (Int.tmod ((3 * l2) + (M l0 l3)) 251))), (3, (0, (l3 + 1)))] [] M Q))))))))) : zX G (y_Zt_sealOf, h, sl) u 6 [(0, (2, l0)), (1, (0, l1)), (2, (0, l2)), (3, (0, l3))] [] M Q := by
  refine x_iload_n (zdm d_Zt_sealOf_0 4 rfl) rfl (n := 3) rfl ?_
  refine x_iload_n (zdm d_Zt_sealOf_0 5 rfl) rfl (n := 1) rfl ?_
  refine x_icmpge (tgt := 35) (zdm d_Zt_sealOf_0 6 rfl) (by decide) (fun c => ?_) (fun c => ?_)
  · have H := H.1 c
    refine x_iload_n (zdm d_Zt_sealOf_0 23 rfl) rfl (n := 2) rfl ?_
    exact x_iret (zdm d_Zt_sealOf_0 24 rfl) rfl H
  · have H := H.2 c
    refine x_iload_n (zdm d_Zt_sealOf_0 7 rfl) rfl (n := 3) rfl ?_
    refine x_aload_n (zdm d_Zt_sealOf_0 8 rfl) rfl (n := 0) rfl ?_
    obtain ⟨g1, H⟩ := H
    obtain ⟨g2, H⟩ := H
    refine x_alen0 (zdm d_Zt_sealOf_0 9 rfl) (zKe g1) g2 ?_
    refine x_icmpge (tgt := 35) (zdm d_Zt_sealOf_0 10 rfl) (by decide) (fun c => ?_) (fun c => ?_)
    · have H := H.1 c
      refine x_iload_n (zdm d_Zt_sealOf_0 23 rfl) rfl (n := 2) rfl ?_
      exact x_iret (zdm d_Zt_sealOf_0 24 rfl) rfl H
    · have H := H.2 c
      refine x_iconst (zdm d_Zt_sealOf_0 11 rfl) (zIl rfl) ?_
      refine x_iload_n (zdm d_Zt_sealOf_0 12 rfl) rfl (n := 2) rfl ?_
      obtain ⟨g3, H⟩ := H
      refine x_imul (zdm d_Zt_sealOf_0 13 rfl) g3 ?_
      refine x_aload_n (zdm d_Zt_sealOf_0 14 rfl) rfl (n := 0) rfl ?_
      refine x_iload_n (zdm d_Zt_sealOf_0 15 rfl) rfl (n := 3) rfl ?_
      obtain ⟨g4, H⟩ := H
      refine x_iald (zdm d_Zt_sealOf_0 16 rfl) (zKe g1) g4 ?_
      obtain ⟨g5, H⟩ := H
      refine x_iadd (zdm d_Zt_sealOf_0 17 rfl) g5 ?_
      refine x_sipush (zdm d_Zt_sealOf_0 18 rfl) (by decide) ?_
      refine x_irem (zdm d_Zt_sealOf_0 19 rfl) (by decide) ?_
      refine x_istore_n (zdm d_Zt_sealOf_0 20 rfl) rfl (zlt rfl) rfl ?_
      obtain ⟨g6, H⟩ := H
      refine x_iinc (zdm d_Zt_sealOf_0 21 rfl) (n := 3) rfl g6 (zlt rfl) rfl ?_
      refine x_goto (tgt := 6) (zdm d_Zt_sealOf_0 22 rfl) (by decide) ?_
      exact zX.sub [2, 3, 1, 0] rfl H
set_option maxRecDepth 20000 in
set_option maxHeartbeats 4000000 in
theorem E_Zt_sealOf {G : zG} {h sl : Nat} (hsl : 1 ≤ sl) {l0 l1 : Int} {M : zM} {Q : Int → zM → Prop} (H : zX G (y_Zt_sealOf, h, sl) (0, 0, 0, 0) 6 [(0, (2, l0)), (1, (0, l1)), (2, (0, 181)), (3, (0, 0))] [] M Q) : zCt G h sl 0 0 y_Zt_sealOf [(2, l0), (0, l1)] M Q := by
  refine zCt.of (by decide +kernel) (Nat.le_of_ble_eq_true rfl) ?_
  refine x_sipush (zdm d_Zt_sealOf_0 0 rfl) (by decide) ?_
  refine x_istore_n (zdm d_Zt_sealOf_0 1 rfl) rfl (zlt rfl) rfl ?_
  refine x_iconst (zdm d_Zt_sealOf_0 2 rfl) (zIl rfl) ?_
  refine x_istore_n (zdm d_Zt_sealOf_0 3 rfl) rfl (zlt rfl) rfl ?_
  exact zX.sub [2, 3, 1, 0] rfl H
