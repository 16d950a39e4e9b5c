set_option maxRecDepth 20000 in
set_option maxHeartbeats 4000000 in
theorem B_Md_turn_17 {G : zG} {h sl : Nat} (hsl : 2 ≤ sl) {u : Nat × Nat × Nat × Nat} {M : zM} {Q : Int → zM → Prop} (H : zCt G h sl 0 0 y_Md_isRefused [(2, 125), (0, 2)] M (fun r1 M2 => Q r1 M2)) : zX G (y_Md_turn, h + 1, sl) u 17 [(0, (2, 125))] [] M Q := by
  refine x_aload_n (zdm d_Md_turn_0 9 rfl) rfl (n := 0) rfl ?_
  refine x_iconst (zdm d_Md_turn_0 10 rfl) (zIl rfl) ?_
  refine x_callVi (n := 1) (ci := 11) (zdm d_Md_turn_0 11 rfl) k_Md_534 (As := [(0, 2)]) rfl rfl rfl ⟨_, _, rfl⟩ (Nat.le_of_ble_eq_true rfl) trivial H (fun r1 M2 hr H => ?_)
  have b3 : r1 = 0 ∨ r1 = 1 := hr
  exact x_ireturn (zdm d_Md_turn_0 12 rfl) (ty := .boolean) rfl (by decide) b3 H
set_option maxRecDepth 20000 in
set_option maxHeartbeats 4000000 in
theorem E_Md_turn {G : zG} {h sl : Nat} (hsl : 2 ≤ sl) {l1 : Int} {M : zM} {Q : Int → zM → Prop} (H : zCt G h sl 0 0 y_Md_isColumn [(2, 125), (1, l1)] M (fun r1 M2 => (r1 = 0 → zX G (y_Md_turn, h + 1, sl) (0, 0, 0, 0) 17 [(0, (2, 125))] [] M2 Q) ∧ (¬ r1 = 0 → zCt G h sl 0 0 y_Md_sortOf [(2, 125), (0, l1)] M2 (fun r4 M5 => (r4 = 0 → zCt G h sl 0 0 y_Md_keeps [(2, 125)] M5 (fun r6 M7 => (zI (9 + l1)) ∧ ((0 ≤ (9 + l1) ∧ (9 + l1) < 98) ∧ ((zI (1 - (M7 164 (9 + l1)))) ∧ (Q 1 (zwr M7 164 (9 + l1) (1 - (M7 164 (9 + l1))))))))) ∧ (¬ r4 = 0 → zX G (y_Md_turn, h + 1, sl) (0, 0, 0, 0) 17 [(0, (2, 125))] [] M5 Q))))) : zCt G (h + 1) sl 0 0 y_Md_turn [(2, 125), (0, l1)] M Q := by
  refine zCt.of (by decide +kernel) (Nat.le_of_ble_eq_true rfl) ?_
  refine x_aload_n (zdm d_Md_turn_0 0 rfl) rfl (n := 0) rfl ?_
  refine x_iload_n (zdm d_Md_turn_0 1 rfl) rfl (n := 1) rfl ?_
  refine x_i2l (zdm d_Md_turn_0 2 rfl) ?_
  refine x_callVi (n := 1) (ci := 11) (zdm d_Md_turn_0 3 rfl) k_Md_466 (As := [(1, l1)]) rfl rfl rfl ⟨_, _, rfl⟩ (Nat.le_of_ble_eq_true rfl) trivial H (fun r1 M2 hr H => ?_)
  have b3 : r1 = 0 ∨ r1 = 1 := hr
  refine x_ifeq (tgt := 17) (zdm d_Md_turn_0 4 rfl) (by decide) (fun c => ?_) (fun c => ?_)
  · have H := H.1 c
    exact zX.sub [0] rfl H
  · have H := H.2 c
    refine x_aload_n (zdm d_Md_turn_0 5 rfl) rfl (n := 0) rfl ?_
    refine x_iload_n (zdm d_Md_turn_0 6 rfl) rfl (n := 1) rfl ?_
    refine x_callVi (n := 1) (ci := 11) (zdm d_Md_turn_0 7 rfl) k_Md_424 (As := [(0, l1)]) rfl rfl rfl ⟨_, _, rfl⟩ (Nat.le_of_ble_eq_true rfl) trivial H (fun r4 M5 hr H => ?_)
    refine x_ifeq (tgt := 23) (zdm d_Md_turn_0 8 rfl) (by decide) (fun c => ?_) (fun c => ?_)
    · have H := H.1 c
      refine x_aload_n (zdm d_Md_turn_0 13 rfl) rfl (n := 0) rfl ?_
      refine x_callVv (n := 0) (ci := 11) (zdm d_Md_turn_0 14 rfl) k_Md_528 (As := []) rfl rfl rfl ⟨_, _, rfl⟩ (Nat.le_of_ble_eq_true rfl) rfl H (fun r6 M7 hr H => ?_)
      refine x_aload_n (zdm d_Md_turn_0 15 rfl) rfl (n := 0) rfl ?_
      refine x_getG (zdm d_Md_turn_0 16 rfl) f_Md_130 rfl rfl (by decide) hsl rfl ?_
      refine x_bipush (zdm d_Md_turn_0 17 rfl) (by decide) ?_
      refine x_iload_n (zdm d_Md_turn_0 18 rfl) rfl (n := 1) rfl ?_
      obtain ⟨g8, H⟩ := H
      refine x_iadd (zdm d_Md_turn_0 19 rfl) g8 ?_
      refine x_iconst (zdm d_Md_turn_0 20 rfl) (zIl rfl) ?_
      refine x_aload_n (zdm d_Md_turn_0 21 rfl) rfl (n := 0) rfl ?_
      refine x_getG (zdm d_Md_turn_0 22 rfl) f_Md_130 rfl rfl (by decide) hsl rfl ?_
      refine x_bipush (zdm d_Md_turn_0 23 rfl) (by decide) ?_
      refine x_iload_n (zdm d_Md_turn_0 24 rfl) rfl (n := 1) rfl ?_
      refine x_iadd (zdm d_Md_turn_0 25 rfl) g8 ?_
      obtain ⟨g9, H⟩ := H
      refine x_iald (zdm d_Md_turn_0 26 rfl) rfl g9 ?_
      obtain ⟨g10, H⟩ := H
      refine x_isub (zdm d_Md_turn_0 27 rfl) g10 ?_
      refine x_iast (zdm d_Md_turn_0 28 rfl) rfl g9 ?_
      refine x_iconst (zdm d_Md_turn_0 29 rfl) (zIl rfl) ?_
      exact x_ireturn (zdm d_Md_turn_0 30 rfl) (ty := .boolean) rfl (by decide) (Or.inr rfl) H
    · have H := H.2 c
      exact zX.sub [0] rfl H
set_option maxRecDepth 20000 in
set_option maxHeartbeats 4000000 in
theorem E_Md_seed {G : zG} {h sl : Nat} (hsl : 2 ≤ sl) {l1 : Int} {M : zM} {Q : Int → zM → Prop} (H : (0 ≤ l1 → Q 1 (zwr M 125 68 l1)) ∧ (¬ 0 ≤ l1 → zCt G h sl 0 0 y_Md_isRefused [(2, 125), (0, 5)] M (fun r1 M2 => Q r1 M2))) : zCt G (h + 1) sl 0 0 y_Md_seed [(2, 125), (0, l1)] M Q := by
  refine zCt.of (by decide +kernel) (Nat.le_of_ble_eq_true rfl) ?_
  refine x_iload_n (zdm d_Md_seed_0 0 rfl) rfl (n := 1) rfl ?_
  refine x_ifge (tgt := 10) (zdm d_Md_seed_0 1 rfl) (by decide) (fun c => ?_) (fun c => ?_)
  · have H := H.1 c
    refine x_aload_n (zdm d_Md_seed_0 6 rfl) rfl (n := 0) rfl ?_
    refine x_iload_n (zdm d_Md_seed_0 7 rfl) rfl (n := 1) rfl ?_
    refine x_i2l (zdm d_Md_seed_0 8 rfl) ?_
    refine x_putf (zdm d_Md_seed_0 9 rfl) f_Md_158 rfl ⟨rfl, trivial⟩ (Or.inl rfl) ?_
    refine x_iconst (zdm d_Md_seed_0 10 rfl) (zIl rfl) ?_
    exact x_ireturn (zdm d_Md_seed_0 11 rfl) (ty := .boolean) rfl (by decide) (Or.inr rfl) H
  · have H := H.2 c
    refine x_aload_n (zdm d_Md_seed_0 2 rfl) rfl (n := 0) rfl ?_
    refine x_iconst (zdm d_Md_seed_0 3 rfl) (zIl rfl) ?_
    refine x_callVi (n := 1) (ci := 11) (zdm d_Md_seed_0 4 rfl) k_Md_534 (As := [(0, 5)]) rfl rfl rfl ⟨_, _, rfl⟩ (Nat.le_of_ble_eq_true rfl) trivial H (fun r1 M2 hr H => ?_)
    have b3 : r1 = 0 ∨ r1 = 1 := hr
    exact x_ireturn (zdm d_Md_seed_0 5 rfl) (ty := .boolean) rfl (by decide) b3 H
set_option maxRecDepth 20000 in
set_option maxHeartbeats 4000000 in
theorem E_Md_drawOf {G : zG} {h sl : Nat} (hsl : 2 ≤ sl) {l1 : Int} {M : zM} {Q : Int → zM → Prop} (H : (zL (1103515245 * (M 125 68))) ∧ ((zL ((1103515245 * (M 125 68)) + 12345)) ∧ ((zL (Int.tdiv ((zwr M 125 68 (Int.tmod ((1103515245 * (M 125 68)) + 12345) 2147483648)) 125 68) 64)) ∧ ((l1 ≠ 0) ∧ (Q (zl2i (Int.tmod (Int.tdiv ((zwr M 125 68 (Int.tmod ((1103515245 * (M 125 68)) + 12345) 2147483648)) 125 68) 64) l1)) (zwr M 125 68 (Int.tmod ((1103515245 * (M 125 68)) + 12345) 2147483648))))))) : zCt G h sl 0 0 y_Md_drawOf [(2, 125), (0, l1)] M Q := by
  refine zCt.of (by decide +kernel) (Nat.le_of_ble_eq_true rfl) ?_
  refine x_aload_n (zdm d_Md_drawOf_0 0 rfl) rfl (n := 0) rfl ?_
  refine x_ldc2 (zdm d_Md_drawOf_0 1 rfl) (n := 1103515245) (zLl rfl) w_Md_537 ?_
  refine x_aload_n (zdm d_Md_drawOf_0 2 rfl) rfl (n := 0) rfl ?_
  refine x_getf (zdm d_Md_drawOf_0 3 rfl) f_Md_158 rfl rfl ?_
  obtain ⟨g1, H⟩ := H
  refine x_lmul (zdm d_Md_drawOf_0 4 rfl) g1 ?_
  refine x_ldc2 (zdm d_Md_drawOf_0 5 rfl) (n := 12345) (zLl rfl) w_Md_539 ?_
  obtain ⟨g2, H⟩ := H
  refine x_ladd (zdm d_Md_drawOf_0 6 rfl) g2 ?_
  refine x_ldc2 (zdm d_Md_drawOf_0 7 rfl) (n := 2147483648) (zLl rfl) w_Md_541 ?_
  refine x_lrem (zdm d_Md_drawOf_0 8 rfl) (by decide) ?_
  refine x_putf (zdm d_Md_drawOf_0 9 rfl) f_Md_158 rfl ⟨rfl, trivial⟩ (Or.inl rfl) ?_
  refine x_aload_n (zdm d_Md_drawOf_0 10 rfl) rfl (n := 0) rfl ?_
  refine x_getf (zdm d_Md_drawOf_0 11 rfl) f_Md_158 rfl rfl ?_
  refine x_ldc2 (zdm d_Md_drawOf_0 12 rfl) (n := 64) (zLl rfl) w_Md_543 ?_
  obtain ⟨g3, H⟩ := H
  refine x_ldiv (zdm d_Md_drawOf_0 13 rfl) (by decide) g3 ?_
  refine x_iload_n (zdm d_Md_drawOf_0 14 rfl) rfl (n := 1) rfl ?_
  refine x_i2l (zdm d_Md_drawOf_0 15 rfl) ?_
  obtain ⟨g4, H⟩ := H
  refine x_lrem (zdm d_Md_drawOf_0 16 rfl) g4 ?_
  refine x_l2i (zdm d_Md_drawOf_0 17 rfl) ?_
  exact x_iret (zdm d_Md_drawOf_0 18 rfl) rfl H
set_option maxRecDepth 20000 in
set_option maxHeartbeats 4000000 in
theorem B_Md_chance_87 {G : zG} {h sl : Nat} (hsl : 2 ≤ sl) {u : Nat × Nat × Nat × Nat} {l1 l2 l3 : Int} {M : zM} {Q : Int → zM → Prop} (H : zCt G h sl 0 0 y_Md_isMarked [(2, 125)] M (fun r1 M2 => (r1 = 0 → (zI (l3 + 1)) ∧ (zX G (y_Md_chance, h + 1, sl) u 26 [(0, (2, 125)), (1, (0, l1)), (2, (0, l2)), (3, (0, (l3 + 1)))] [] M2 Q)) ∧ (¬ r1 = 0 → zCt G h sl 0 0 y_Md_isKept [(2, 125)] M2 (fun r5 M6 => (zI (l3 + 1)) ∧ (zX G (y_Md_chance, h + 1, sl) u 26 [(0, (2, 125)), (1, (0, l1)), (2, (0, l2)), (3, (0, (l3 + 1)))] [] M6 Q))))) : zX G (y_Md_chance, h + 1, sl) u 87 [(0, (2, 125)), (1, (0, l1)), (2, (0, l2)), (3, (0, l3))] [] M Q := by
  refine x_aload_n (zdm d_Md_chance_0 48 rfl) rfl (n := 0) rfl ?_
  refine x_callVi (n := 0) (ci := 11) (zdm d_Md_chance_0 49 rfl) k_Md_463 (As := []) rfl rfl rfl ⟨_, _, rfl⟩ (Nat.le_of_ble_eq_true rfl) trivial H (fun r1 M2 hr H => ?_)
  have b3 : r1 = 0 ∨ r1 = 1 := hr
  refine x_ifeq (tgt := 98) (zdm d_Md_chance_0 50 rfl) (by decide) (fun c => ?_) (fun c => ?_)
  · have H := H.1 c
    obtain ⟨g4, H⟩ := H
    refine x_iinc (zdm d_Md_chance_0 53 rfl) (n := 3) rfl g4 (zlt rfl) rfl ?_
    refine x_goto (tgt := 26) (zdm d_Md_chance_0 54 rfl) (by decide) ?_
    exact zX.sub [1, 2, 3, 0] rfl H
  · have H := H.2 c
    refine x_aload_n (zdm d_Md_chance_0 51 rfl) rfl (n := 0) rfl ?_
    refine x_callVv (n := 0) (ci := 11) (zdm d_Md_chance_0 52 rfl) k_Md_531 (As := []) rfl rfl rfl ⟨_, _, rfl⟩ (Nat.le_of_ble_eq_true rfl) rfl H (fun r5 M6 hr H => ?_)
    obtain ⟨g7, H⟩ := H
    refine x_iinc (zdm d_Md_chance_0 53 rfl) (n := 3) rfl g7 (zlt rfl) rfl ?_
    refine x_goto (tgt := 26) (zdm d_Md_chance_0 54 rfl) (by decide) ?_
    exact zX.sub [1, 2, 3, 0] rfl H
set_option maxRecDepth 20000 in
set_option maxHeartbeats 4000000 in
theorem B_Md_chance_26 {G : zG} {h sl : Nat} (hsl : 2 ≤ sl) {u : Nat × Nat × Nat × Nat} {l1 l2 l3 : Int} {M : zM} {Q : Int → zM → Prop} (H : (l1 ≤ l3 → Q l2 M) ∧ (¬ l1 ≤ l3 → zCt G h sl 0 0 y_Md_lineGoes [(2, 125)] M (fun r1 M2 => zCt G h sl 0 0 y_Md_drawOf [(2, 125), (0, 100)] M2 (fun r3 M4 => ((M4 158 3) ≤ r3 → zX G (y_Md_chance, h + 1, sl) u 87 [(0, (2, 125)), (1, (0, l1)), (2, (0, l2)), (3, (0, l3))] [] M4 Q) ∧ (¬ (M4 158 3) ≤ r3 → zCt G h sl 0 0 y_Md_columnMany [(2, 125)] M4 (fun r5 M6 => (r5 ≤ 0 → zX G (y_Md_chance, h + 1, sl) u 87 [(0, (2, 125)), (1, (0, l1)), (2, (0, l2)), (3, (0, l3))] [] M6 Q) ∧ (¬ r5 ≤ 0 → zCt G h sl 0 0 y_Md_columnMany [(2, 125)] M6 (fun r7 M8 => zCt G h sl 0 0 y_Md_drawOf [(2, 125), (0, r7)] M8 (fun r9 M10 => zCt G h sl 0 0 y_Md_drawOf [(2, 125), (0, 9)] M10 (fun r11 M12 => (zI (1 + r11)) ∧ (zCt G h sl 0 0 y_Md_isSlipped [(2, 125), (0, r9), (0, (1 + r11))] M12 (fun r14 M15 => (r14 = 0 → zX G (y_Md_chance, h + 1, sl) u 87 [(0, (2, 125)), (1, (0, l1)), (2, (0, l2)), (3, (0, l3))] [] M15 Q) ∧ (¬ r14 = 0 → (zI (l2 + 1)) ∧ (zX G (y_Md_chance, h + 1, sl) u 87 [(0, (2, 125)), (1, (0, l1)), (2, (0, (l2 + 1))), (3, (0, l3))] [] M15 Q)))))))))))))) : zX G (y_Md_chance, h + 1, sl) u 26 [(0, (2, 125)), (1, (0, l1)), (2, (0, l2)), (3, (0, l3))] [] M Q := by
  refine x_iload_n (zdm d_Md_chance_0 17 rfl) rfl (n := 3) rfl ?_
  refine x_iload_n (zdm d_Md_chance_0 18 rfl) rfl (n := 1) rfl ?_
  refine x_icmpge (tgt := 104) (zdm d_Md_chance_0 19 rfl) (by decide) (fun c => ?_) (fun c => ?_)
  · have H := H.1 c
    refine x_iload_n (zdm d_Md_chance_0 55 rfl) rfl (n := 2) rfl ?_
    exact x_iret (zdm d_Md_chance_0 56 rfl) rfl H
  · have H := H.2 c
    refine x_aload_n (zdm d_Md_chance_0 20 rfl) rfl (n := 0) rfl ?_
    refine x_callVv (n := 0) (ci := 11) (zdm d_Md_chance_0 21 rfl) k_Md_446 (As := []) rfl rfl rfl ⟨_, _, rfl⟩ (Nat.le_of_ble_eq_true rfl) rfl H (fun r1 M2 hr H => ?_)
    refine x_aload_n (zdm d_Md_chance_0 22 rfl) rfl (n := 0) rfl ?_
    refine x_bipush (zdm d_Md_chance_0 23 rfl) (by decide) ?_
    refine x_callVi (n := 1) (ci := 11) (zdm d_Md_chance_0 24 rfl) k_Md_545 (As := [(0, 100)]) rfl rfl rfl ⟨_, _, rfl⟩ (Nat.le_of_ble_eq_true rfl) trivial H (fun r3 M4 hr H => ?_)
    refine x_aload_n (zdm d_Md_chance_0 25 rfl) rfl (n := 0) rfl ?_
    refine x_getG (zdm d_Md_chance_0 26 rfl) f_Md_111 rfl rfl (by decide) hsl rfl ?_
    refine x_iconst (zdm d_Md_chance_0 27 rfl) (zIl rfl) ?_
    refine x_iald (zdm d_Md_chance_0 28 rfl) rfl ⟨by decide, by decide⟩ ?_
    refine x_icmpge (tgt := 87) (zdm d_Md_chance_0 29 rfl) (by decide) (fun c => ?_) (fun c => ?_)
    · have H := H.1 c
      exact H
    · have H := H.2 c
      refine x_aload_n (zdm d_Md_chance_0 30 rfl) rfl (n := 0) rfl ?_
      refine x_callVi (n := 0) (ci := 11) (zdm d_Md_chance_0 31 rfl) k_Md_391 (As := []) rfl rfl rfl ⟨_, _, rfl⟩ (Nat.le_of_ble_eq_true rfl) trivial H (fun r5 M6 hr H => ?_)
      refine x_ifle (tgt := 87) (zdm d_Md_chance_0 32 rfl) (by decide) (fun c => ?_) (fun c => ?_)
      · have H := H.1 c
        exact H
      · have H := H.2 c
        refine x_aload_n (zdm d_Md_chance_0 33 rfl) rfl (n := 0) rfl ?_
        refine x_aload_n (zdm d_Md_chance_0 34 rfl) rfl (n := 0) rfl ?_
        refine x_callVi (n := 0) (ci := 11) (zdm d_Md_chance_0 35 rfl) k_Md_391 (As := []) rfl rfl rfl ⟨_, _, rfl⟩ (Nat.le_of_ble_eq_true rfl) trivial H (fun r7 M8 hr H => ?_)
        refine x_callVi (n := 1) (ci := 11) (zdm d_Md_chance_0 36 rfl) k_Md_545 (As := [(0, r7)]) rfl rfl rfl ⟨_, _, rfl⟩ (Nat.le_of_ble_eq_true rfl) trivial H (fun r9 M10 hr H => ?_)
        refine x_istore (zdm d_Md_chance_0 37 rfl) (zlt rfl) rfl ?_
        refine x_aload_n (zdm d_Md_chance_0 38 rfl) rfl (n := 1) rfl ?_
        refine x_iload (zdm d_Md_chance_0 39 rfl) (n := 0) rfl ?_
        refine x_iconst (zdm d_Md_chance_0 40 rfl) (zIl rfl) ?_
        refine x_aload_n (zdm d_Md_chance_0 41 rfl) rfl (n := 1) rfl ?_
        refine x_bipush (zdm d_Md_chance_0 42 rfl) (by decide) ?_
        refine x_callVi (n := 1) (ci := 11) (zdm d_Md_chance_0 43 rfl) k_Md_545 (As := [(0, 9)]) rfl rfl rfl ⟨_, _, rfl⟩ (Nat.le_of_ble_eq_true rfl) trivial H (fun r11 M12 hr H => ?_)
        obtain ⟨g13, H⟩ := H
        refine x_iadd (zdm d_Md_chance_0 44 rfl) g13 ?_
        refine x_callVi (n := 2) (ci := 11) (zdm d_Md_chance_0 45 rfl) k_Md_509 (As := [(0, r9), (0, (1 + r11))]) rfl rfl rfl ⟨_, _, rfl⟩ (Nat.le_of_ble_eq_true rfl) trivial H (fun r14 M15 hr H => ?_)
        have b16 : r14 = 0 ∨ r14 = 1 := hr
        refine x_ifeq (tgt := 87) (zdm d_Md_chance_0 46 rfl) (by decide) (fun c => ?_) (fun c => ?_)
        · have H := H.1 c
          exact zX.sub [1, 2, 3, 4] rfl H
        · have H := H.2 c
          obtain ⟨g17, H⟩ := H
          refine x_iinc (zdm d_Md_chance_0 47 rfl) (n := 3) rfl g17 (zlt rfl) rfl ?_
          exact zX.sub [2, 3, 0, 4] rfl H
set_option maxRecDepth 20000 in
set_option maxHeartbeats 4000000 in
theorem E_Md_chance {G : zG} {h sl : Nat} (hsl : 2 ≤ sl) {l1 : Int} {M : zM} {Q : Int → zM → Prop} (H : zCt G h sl 0 0 y_Md_isAhead [(2, 125), (1, l1), (0, 1), (0, 100)] M (fun r1 M2 => (¬ r1 = 0 → zCt G h sl 0 0 y_Md_keeps [(2, 125)] M2 (fun r4 M5 => zX G (y_Md_chance, h + 1, sl) (0, 0, 0, 0) 26 [(0, (2, 125)), (1, (0, l1)), (2, (0, 0)), (3, (0, 0))] [] M5 Q)) ∧ (¬ (¬ r1 = 0) → zCt G h sl 0 0 y_Md_refuses [(2, 125), (0, 3)] M2 (fun r6 M7 => Q r6 M7)))) : zCt G (h + 1) sl 0 0 y_Md_chance [(2, 125), (0, l1)] M Q := by
  refine zCt.of (by decide +kernel) (Nat.le_of_ble_eq_true rfl) ?_
  refine x_aload_n (zdm d_Md_chance_0 0 rfl) rfl (n := 0) rfl ?_
  refine x_iload_n (zdm d_Md_chance_0 1 rfl) rfl (n := 1) rfl ?_
  refine x_i2l (zdm d_Md_chance_0 2 rfl) ?_
  refine x_iconst (zdm d_Md_chance_0 3 rfl) (zIl rfl) ?_
  refine x_bipush (zdm d_Md_chance_0 4 rfl) (by decide) ?_
  refine x_callVi (n := 3) (ci := 11) (zdm d_Md_chance_0 5 rfl) k_Md_489 (As := [(1, l1), (0, 1), (0, 100)]) rfl rfl rfl ⟨_, _, rfl⟩ (Nat.le_of_ble_eq_true rfl) trivial H (fun r1 M2 hr H => ?_)
  have b3 : r1 = 0 ∨ r1 = 1 := hr
  refine x_ifne (tgt := 18) (zdm d_Md_chance_0 6 rfl) (by decide) (fun c => ?_) (fun c => ?_)
  · have H := H.1 c
    refine x_aload_n (zdm d_Md_chance_0 11 rfl) rfl (n := 0) rfl ?_
    refine x_callVv (n := 0) (ci := 11) (zdm d_Md_chance_0 12 rfl) k_Md_528 (As := []) rfl rfl rfl ⟨_, _, rfl⟩ (Nat.le_of_ble_eq_true rfl) rfl H (fun r4 M5 hr H => ?_)
    refine x_iconst (zdm d_Md_chance_0 13 rfl) (zIl rfl) ?_
    refine x_istore_n (zdm d_Md_chance_0 14 rfl) rfl (zlt rfl) rfl ?_
    refine x_iconst (zdm d_Md_chance_0 15 rfl) (zIl rfl) ?_
    refine x_istore_n (zdm d_Md_chance_0 16 rfl) rfl (zlt rfl) rfl ?_
    exact zX.sub [2, 3, 1, 0] rfl H
  · have H := H.2 c
    refine x_aload_n (zdm d_Md_chance_0 7 rfl) rfl (n := 0) rfl ?_
    refine x_iconst (zdm d_Md_chance_0 8 rfl) (zIl rfl) ?_
    refine x_callVi (n := 1) (ci := 11) (zdm d_Md_chance_0 9 rfl) k_Md_368 (As := [(0, 3)]) rfl rfl rfl ⟨_, _, rfl⟩ (Nat.le_of_ble_eq_true rfl) trivial H (fun r6 M7 hr H => ?_)
    exact x_iret (zdm d_Md_chance_0 10 rfl) rfl H
set_option maxRecDepth 20000 in
set_option maxHeartbeats 4000000 in
theorem E_Md_qCode {G : zG} {h sl : Nat} (hsl : 2 ≤ sl) {l1 : Int} {M : zM} {Q : Int → zM → Prop} (H : (0 ≤ (M 125 90) ∧ (M 125 90) < 1700) ∧ ((zI (((zwr M 193 (M 125 90) l1) 125 90) + 1)) ∧ (Q 0 (zwr (zwr M 193 (M 125 90) l1) 125 90 (((zwr M 193 (M 125 90) l1) 125 90) + 1))))) : zCt G h sl 0 0 y_Md_qCode [(2, 125), (0, l1)] M Q := by
  refine zCt.of (by decide +kernel) (Nat.le_of_ble_eq_true rfl) ?_
  refine x_aload_n (zdm d_Md_qCode_0 0 rfl) rfl (n := 0) rfl ?_
  refine x_getG (zdm d_Md_qCode_0 1 rfl) f_Md_222 rfl rfl (by decide) hsl rfl ?_
  refine x_aload_n (zdm d_Md_qCode_0 2 rfl) rfl (n := 0) rfl ?_
  refine x_getf (zdm d_Md_qCode_0 3 rfl) f_Md_316 rfl rfl ?_
  refine x_iload_n (zdm d_Md_qCode_0 4 rfl) rfl (n := 1) rfl ?_
  obtain ⟨g1, H⟩ := H
  refine x_iast (zdm d_Md_qCode_0 5 rfl) rfl g1 ?_
  refine x_aload_n (zdm d_Md_qCode_0 6 rfl) rfl (n := 0) rfl ?_
  refine x_dup (zdm d_Md_qCode_0 7 rfl) z2n1 ?_
  refine x_getf (zdm d_Md_qCode_0 8 rfl) f_Md_316 rfl rfl ?_
  refine x_iconst (zdm d_Md_qCode_0 9 rfl) (zIl rfl) ?_
  obtain ⟨g2, H⟩ := H
  refine x_iadd (zdm d_Md_qCode_0 10 rfl) g2 ?_
  refine x_putf (zdm d_Md_qCode_0 11 rfl) f_Md_316 rfl ⟨rfl, trivial⟩ (Or.inl rfl) ?_
  exact x_return (zdm d_Md_qCode_0 12 rfl) rfl H
set_option maxRecDepth 20000 in
set_option maxHeartbeats 4000000 in
theorem E_Md_qOpens {G : zG} {h sl : Nat} (hsl : 2 ≤ sl) {l1 l2 : Int} {M : zM} {Q : Int → zM → Prop} (H : ((M 125 5) = 0 → (¬ (M 125 93) = 6 → (zI ((M 125 93) + 1)) ∧ ((0 ≤ ((zwr M 125 93 ((M 125 93) + 1)) 125 92) ∧ ((zwr M 125 93 ((M 125 93) + 1)) 125 92) < 1700) ∧ ((zI (((zwr (zwr M 125 93 ((M 125 93) + 1)) 194 ((zwr M 125 93 ((M 125 93) + 1)) 125 92) l1) 125 92) + 1)) ∧ (Q 0 (zwr (zwr (zwr M 125 93 ((M 125 93) + 1)) 194 ((zwr M 125 93 ((M 125 93) + 1)) 125 92) l1) 125 92 (((zwr (zwr M 125 93 ((M 125 93) + 1)) 194 ((zwr M 125 93 ((M 125 93) + 1)) 125 92) l1) 125 92) + 1)))))) ∧ (¬ (¬ (M 125 93) = 6) → zCt G h sl 0 0 y_Md_fail [(2, 125), (0, 4), (0, l2)] M (fun r4 M5 => Q 0 M5))) ∧ (¬ (M 125 5) = 0 → Q 0 M)) : zCt G (h + 1) sl 0 0 y_Md_qOpens [(2, 125), (0, l1), (0, l2)] M Q := by
  refine zCt.of (by decide +kernel) (Nat.le_of_ble_eq_true rfl) ?_
  refine x_aload_n (zdm d_Md_qOpens_0 0 rfl) rfl (n := 0) rfl ?_
  refine x_getf (zdm d_Md_qOpens_0 1 rfl) f_Md_237 rfl rfl ?_
  refine x_ifeq (tgt := 8) (zdm d_Md_qOpens_0 2 rfl) (by decide) (fun c => ?_) (fun c => ?_)
  · have H := H.1 c
    refine x_aload_n (zdm d_Md_qOpens_0 4 rfl) rfl (n := 0) rfl ?_
    refine x_getf (zdm d_Md_qOpens_0 5 rfl) f_Md_322 rfl rfl ?_
    refine x_bipush (zdm d_Md_qOpens_0 6 rfl) (by decide) ?_
    refine x_icmpne (tgt := 24) (zdm d_Md_qOpens_0 7 rfl) (by decide) (fun c => ?_) (fun c => ?_)
    · have H := H.1 c
      refine x_aload_n (zdm d_Md_qOpens_0 13 rfl) rfl (n := 0) rfl ?_
      refine x_dup (zdm d_Md_qOpens_0 14 rfl) z2n1 ?_
      refine x_getf (zdm d_Md_qOpens_0 15 rfl) f_Md_322 rfl rfl ?_
      refine x_iconst (zdm d_Md_qOpens_0 16 rfl) (zIl rfl) ?_
      obtain ⟨g1, H⟩ := H
      refine x_iadd (zdm d_Md_qOpens_0 17 rfl) g1 ?_
      refine x_putf (zdm d_Md_qOpens_0 18 rfl) f_Md_322 rfl ⟨rfl, trivial⟩ (Or.inl rfl) ?_
      refine x_aload_n (zdm d_Md_qOpens_0 19 rfl) rfl (n := 0) rfl ?_
      refine x_getG (zdm d_Md_qOpens_0 20 rfl) f_Md_225 rfl rfl (by decide) hsl rfl ?_
      refine x_aload_n (zdm d_Md_qOpens_0 21 rfl) rfl (n := 0) rfl ?_
      refine x_getf (zdm d_Md_qOpens_0 22 rfl) f_Md_319 rfl rfl ?_
      refine x_iload_n (zdm d_Md_qOpens_0 23 rfl) rfl (n := 1) rfl ?_
      obtain ⟨g2, H⟩ := H
      refine x_iast (zdm d_Md_qOpens_0 24 rfl) rfl g2 ?_
      refine x_aload_n (zdm d_Md_qOpens_0 25 rfl) rfl (n := 0) rfl ?_
      refine x_dup (zdm d_Md_qOpens_0 26 rfl) z2n1 ?_
      refine x_getf (zdm d_Md_qOpens_0 27 rfl) f_Md_319 rfl rfl ?_
      refine x_iconst (zdm d_Md_qOpens_0 28 rfl) (zIl rfl) ?_
      obtain ⟨g3, H⟩ := H
      refine x_iadd (zdm d_Md_qOpens_0 29 rfl) g3 ?_
      refine x_putf (zdm d_Md_qOpens_0 30 rfl) f_Md_319 rfl ⟨rfl, trivial⟩ (Or.inl rfl) ?_
      exact x_return (zdm d_Md_qOpens_0 31 rfl) rfl H
    · have H := H.2 c
      refine x_aload_n (zdm d_Md_qOpens_0 8 rfl) rfl (n := 0) rfl ?_
      refine x_iconst (zdm d_Md_qOpens_0 9 rfl) (zIl rfl) ?_
      refine x_iload_n (zdm d_Md_qOpens_0 10 rfl) rfl (n := 2) rfl ?_
      refine x_callVv (n := 2) (ci := 11) (zdm d_Md_qOpens_0 11 rfl) k_Md_267 (As := [(0, 4), (0, l2)]) rfl rfl rfl ⟨_, _, rfl⟩ (Nat.le_of_ble_eq_true rfl) rfl H (fun r4 M5 hr H => ?_)
      exact x_return (zdm d_Md_qOpens_0 12 rfl) rfl H
  · have H := H.2 c
    exact x_return (zdm d_Md_qOpens_0 3 rfl) rfl H
set_option maxRecDepth 20000 in
set_option maxHeartbeats 4000000 in
theorem E_Md_qIsOn {G : zG} {h sl : Nat} (hsl : 2 ≤ sl) {l1 : Int} {M : zM} {Q : Int → zM → Prop} (H : ((M 125 92) ≤ 0 → Q 0 M) ∧ (¬ (M 125 92) ≤ 0 → (zI ((M 125 92) - 1)) ∧ ((0 ≤ ((M 125 92) - 1) ∧ ((M 125 92) - 1) < 1700) ∧ ((¬ (M 194 ((M 125 92) - 1)) = l1 → Q 0 M) ∧ (¬ (¬ (M 194 ((M 125 92) - 1)) = l1) → Q 1 M))))) : zCt G h sl 0 0 y_Md_qIsOn [(2, 125), (0, l1)] M Q := by
  refine zCt.of (by decide +kernel) (Nat.le_of_ble_eq_true rfl) ?_
  refine x_aload_n (zdm d_Md_qIsOn_0 0 rfl) rfl (n := 0) rfl ?_
  refine x_getf (zdm d_Md_qIsOn_0 1 rfl) f_Md_319 rfl rfl ?_
  refine x_ifle (tgt := 26) (zdm d_Md_qIsOn_0 2 rfl) (by decide) (fun c => ?_) (fun c => ?_)
  · have H := H.1 c
    refine x_iconst (zdm d_Md_qIsOn_0 14 rfl) (zIl rfl) ?_
    exact x_ireturn (zdm d_Md_qIsOn_0 15 rfl) (ty := .boolean) rfl (by decide) (Or.inl rfl) H
  · have H := H.2 c
    refine x_aload_n (zdm d_Md_qIsOn_0 3 rfl) rfl (n := 0) rfl ?_
    refine x_getG (zdm d_Md_qIsOn_0 4 rfl) f_Md_225 rfl rfl (by decide) hsl rfl ?_
    refine x_aload_n (zdm d_Md_qIsOn_0 5 rfl) rfl (n := 0) rfl ?_
    refine x_getf (zdm d_Md_qIsOn_0 6 rfl) f_Md_319 rfl rfl ?_
    refine x_iconst (zdm d_Md_qIsOn_0 7 rfl) (zIl rfl) ?_
    obtain ⟨g1, H⟩ := H
    refine x_isub (zdm d_Md_qIsOn_0 8 rfl) g1 ?_
    obtain ⟨g2, H⟩ := H
    refine x_iald (zdm d_Md_qIsOn_0 9 rfl) rfl g2 ?_
    refine x_iload_n (zdm d_Md_qIsOn_0 10 rfl) rfl (n := 1) rfl ?_
    refine x_icmpne (tgt := 26) (zdm d_Md_qIsOn_0 11 rfl) (by decide) (fun c => ?_) (fun c => ?_)
    · have H := H.1 c
      refine x_iconst (zdm d_Md_qIsOn_0 14 rfl) (zIl rfl) ?_
      exact x_ireturn (zdm d_Md_qIsOn_0 15 rfl) (ty := .boolean) rfl (by decide) (Or.inl rfl) H
    · have H := H.2 c
      refine x_iconst (zdm d_Md_qIsOn_0 12 rfl) (zIl rfl) ?_
      refine x_goto (tgt := 27) (zdm d_Md_qIsOn_0 13 rfl) (by decide) ?_
      exact x_ireturn (zdm d_Md_qIsOn_0 15 rfl) (ty := .boolean) rfl (by decide) (Or.inr rfl) H
set_option maxRecDepth 20000 in
set_option maxHeartbeats 4000000 in
theorem E_Md_qDrops {G : zG} {h sl : Nat} (hsl : 2 ≤ sl) {M : zM} {Q : Int → zM → Prop} (H : (zI ((M 125 92) - 1)) ∧ ((0 ≤ ((zwr M 125 92 ((M 125 92) - 1)) 125 92) ∧ ((zwr M 125 92 ((M 125 92) - 1)) 125 92) < 1700) ∧ (zCt G h sl 0 0 y_Md_qCode [(2, 125), (0, ((zwr M 125 92 ((M 125 92) - 1)) 194 ((zwr M 125 92 ((M 125 92) - 1)) 125 92)))] (zwr M 125 92 ((M 125 92) - 1)) (fun r3 M4 => Q 0 M4)))) : zCt G (h + 1) sl 0 0 y_Md_qDrops [(2, 125)] M Q := by
  refine zCt.of (by decide +kernel) (Nat.le_of_ble_eq_true rfl) ?_
  refine x_aload_n (zdm d_Md_qDrops_0 0 rfl) rfl (n := 0) rfl ?_
  refine x_dup (zdm d_Md_qDrops_0 1 rfl) z2n1 ?_
  refine x_getf (zdm d_Md_qDrops_0 2 rfl) f_Md_319 rfl rfl ?_
  refine x_iconst (zdm d_Md_qDrops_0 3 rfl) (zIl rfl) ?_
  obtain ⟨g1, H⟩ := H
  refine x_isub (zdm d_Md_qDrops_0 4 rfl) g1 ?_
  refine x_putf (zdm d_Md_qDrops_0 5 rfl) f_Md_319 rfl ⟨rfl, trivial⟩ (Or.inl rfl) ?_
  refine x_aload_n (zdm d_Md_qDrops_0 6 rfl) rfl (n := 0) rfl ?_
  refine x_aload_n (zdm d_Md_qDrops_0 7 rfl) rfl (n := 0) rfl ?_
  refine x_getG (zdm d_Md_qDrops_0 8 rfl) f_Md_225 rfl rfl (by decide) hsl rfl ?_
  refine x_aload_n (zdm d_Md_qDrops_0 9 rfl) rfl (n := 0) rfl ?_
  refine x_getf (zdm d_Md_qDrops_0 10 rfl) f_Md_319 rfl rfl ?_
  obtain ⟨g2, H⟩ := H
  refine x_iald (zdm d_Md_qDrops_0 11 rfl) rfl g2 ?_
  refine x_callVv (n := 1) (ci := 11) (zdm d_Md_qDrops_0 12 rfl) k_Md_548 (As := [(0, ((zwr M 125 92 ((M 125 92) - 1)) 194 ((zwr M 125 92 ((M 125 92) - 1)) 125 92)))]) rfl rfl rfl ⟨_, _, rfl⟩ (Nat.le_of_ble_eq_true rfl) rfl H (fun r3 M4 hr H => ?_)
  exact x_return (zdm d_Md_qDrops_0 13 rfl) rfl H
set_option maxRecDepth 20000 in
set_option maxHeartbeats 4000000 in
theorem E_Md_qIsBracket {G : zG} {h sl : Nat} (hsl : 2 ≤ sl) {l0 : Int} {M : zM} {Q : Int → zM → Prop} (H : (l0 < 20 → Q 0 M) ∧ (¬ l0 < 20 → (24 < l0 → Q 0 M) ∧ (¬ 24 < l0 → Q 1 M))) : zCt G h sl 0 0 y_Md_qIsBracket [(0, l0)] M Q := by
  refine zCt.of (by decide +kernel) (Nat.le_of_ble_eq_true rfl) ?_
  refine x_iload_n (zdm d_Md_qIsBracket_0 0 rfl) rfl (n := 0) rfl ?_
  refine x_bipush (zdm d_Md_qIsBracket_0 1 rfl) (by decide) ?_
  refine x_icmplt (tgt := 16) (zdm d_Md_qIsBracket_0 2 rfl) (by decide) (fun c => ?_) (fun c => ?_)
  · have H := H.1 c
    refine x_iconst (zdm d_Md_qIsBracket_0 8 rfl) (zIl rfl) ?_
    exact x_ireturn (zdm d_Md_qIsBracket_0 9 rfl) (ty := .boolean) rfl (by decide) (Or.inl rfl) H
  · have H := H.2 c
    refine x_iload_n (zdm d_Md_qIsBracket_0 3 rfl) rfl (n := 0) rfl ?_
    refine x_bipush (zdm d_Md_qIsBracket_0 4 rfl) (by decide) ?_
    refine x_icmpgt (tgt := 16) (zdm d_Md_qIsBracket_0 5 rfl) (by decide) (fun c => ?_) (fun c => ?_)
    · have H := H.1 c
      refine x_iconst (zdm d_Md_qIsBracket_0 8 rfl) (zIl rfl) ?_
      exact x_ireturn (zdm d_Md_qIsBracket_0 9 rfl) (ty := .boolean) rfl (by decide) (Or.inl rfl) H
    · have H := H.2 c
      refine x_iconst (zdm d_Md_qIsBracket_0 6 rfl) (zIl rfl) ?_
      refine x_goto (tgt := 17) (zdm d_Md_qIsBracket_0 7 rfl) (by decide) ?_
      exact x_ireturn (zdm d_Md_qIsBracket_0 9 rfl) (ty := .boolean) rfl (by decide) (Or.inr rfl) H
set_option maxRecDepth 20000 in
set_option maxHeartbeats 4000000 in
theorem B_Md_qBracket_33 {G : zG} {h sl : Nat} (hsl : 2 ≤ sl) {u : Nat × Nat × Nat × Nat} {l1 : Int} {M : zM} {Q : Int → zM → Prop} (H : (l1 < (M 125 94) → Q (-1) M) ∧ (¬ l1 < (M 125 94) → (0 ≤ l1 ∧ l1 < 1700) ∧ (Q (M 194 l1) M))) : zX G (y_Md_qBracket, h + 1, sl) u 33 [(0, (2, 125)), (1, (0, l1))] [] M Q := by
  refine x_iload_n (zdm d_Md_qBracket_0 17 rfl) rfl (n := 1) rfl ?_
  refine x_aload_n (zdm d_Md_qBracket_0 18 rfl) rfl (n := 0) rfl ?_
  refine x_getf (zdm d_Md_qBracket_0 19 rfl) f_Md_325 rfl rfl ?_
  refine x_icmplt (tgt := 50) (zdm d_Md_qBracket_0 20 rfl) (by decide) (fun c => ?_) (fun c => ?_)
  · have H := H.1 c
    refine x_iconst (zdm d_Md_qBracket_0 26 rfl) (zIl rfl) ?_
    exact x_iret (zdm d_Md_qBracket_0 27 rfl) rfl H
  · have H := H.2 c
    refine x_aload_n (zdm d_Md_qBracket_0 21 rfl) rfl (n := 0) rfl ?_
    refine x_getG (zdm d_Md_qBracket_0 22 rfl) f_Md_225 rfl rfl (by decide) hsl rfl ?_
    refine x_iload_n (zdm d_Md_qBracket_0 23 rfl) rfl (n := 1) rfl ?_
    obtain ⟨g1, H⟩ := H
    refine x_iald (zdm d_Md_qBracket_0 24 rfl) rfl g1 ?_
    refine x_goto (tgt := 51) (zdm d_Md_qBracket_0 25 rfl) (by decide) ?_
    exact x_iret (zdm d_Md_qBracket_0 27 rfl) rfl H
set_option maxRecDepth 20000 in
set_option maxHeartbeats 4000000 in
theorem B_Md_qBracket_7 {G : zG} {h sl : Nat} (hsl : 2 ≤ sl) {u : Nat × Nat × Nat × Nat} {l1 : Int} {M : zM} {Q : Int → zM → Prop} (H : (l1 < (M 125 94) → zX G (y_Md_qBracket, h + 1, sl) u 33 [(0, (2, 125)), (1, (0, l1))] [] M Q) ∧ (¬ l1 < (M 125 94) → (0 ≤ l1 ∧ l1 < 1700) ∧ (zCt G h sl 0 0 y_Md_qIsBracket [(0, (M 194 l1))] M (fun r2 M3 => (¬ r2 = 0 → zX G (y_Md_qBracket, h + 1, sl) u 33 [(0, (2, 125)), (1, (0, l1))] [] M3 Q) ∧ (¬ (¬ r2 = 0) → (zI (l1 + (-1))) ∧ (zX G (y_Md_qBracket, h + 1, sl) u 7 [(0, (2, 125)), (1, (0, (l1 + (-1))))] [] M3 Q)))))) : zX G (y_Md_qBracket, h + 1, sl) u 7 [(0, (2, 125)), (1, (0, l1))] [] M Q := by
  refine x_iload_n (zdm d_Md_qBracket_0 5 rfl) rfl (n := 1) rfl ?_
  refine x_aload_n (zdm d_Md_qBracket_0 6 rfl) rfl (n := 0) rfl ?_
  refine x_getf (zdm d_Md_qBracket_0 7 rfl) f_Md_325 rfl rfl ?_
  refine x_icmplt (tgt := 33) (zdm d_Md_qBracket_0 8 rfl) (by decide) (fun c => ?_) (fun c => ?_)
  · have H := H.1 c
    exact H
  · have H := H.2 c
    refine x_aload_n (zdm d_Md_qBracket_0 9 rfl) rfl (n := 0) rfl ?_
    refine x_getG (zdm d_Md_qBracket_0 10 rfl) f_Md_225 rfl rfl (by decide) hsl rfl ?_
    refine x_iload_n (zdm d_Md_qBracket_0 11 rfl) rfl (n := 1) rfl ?_
    obtain ⟨g1, H⟩ := H
    refine x_iald (zdm d_Md_qBracket_0 12 rfl) rfl g1 ?_
    refine x_callSi (n := 1) (zdm d_Md_qBracket_0 13 rfl) k_Md_551 (As := [(0, (M 194 l1))]) rfl rfl (Nat.le_of_ble_eq_true rfl) trivial H (fun r2 M3 hr H => ?_)
    have b4 : r2 = 0 ∨ r2 = 1 := hr
    refine x_ifne (tgt := 33) (zdm d_Md_qBracket_0 14 rfl) (by decide) (fun c => ?_) (fun c => ?_)
    · have H := H.1 c
      exact H
    · have H := H.2 c
      obtain ⟨g5, H⟩ := H
      refine x_iinc (zdm d_Md_qBracket_0 15 rfl) (n := 1) rfl g5 (zlt rfl) rfl ?_
      refine x_goto (tgt := 7) (zdm d_Md_qBracket_0 16 rfl) (by decide) ?_
      exact zX.sub [1, 0] rfl H
set_option maxRecDepth 20000 in
set_option maxHeartbeats 4000000 in
theorem E_Md_qBracket {G : zG} {h sl : Nat} (hsl : 2 ≤ sl) {M : zM} {Q : Int → zM → Prop} (H : (zI ((M 125 92) - 1)) ∧ (zX G (y_Md_qBracket, h + 1, sl) (0, 0, 0, 0) 7 [(0, (2, 125)), (1, (0, ((M 125 92) - 1)))] [] M Q)) : zCt G (h + 1) sl 0 0 y_Md_qBracket [(2, 125)] M Q := by
  refine zCt.of (by decide +kernel) (Nat.le_of_ble_eq_true rfl) ?_
  refine x_aload_n (zdm d_Md_qBracket_0 0 rfl) rfl (n := 0) rfl ?_
  refine x_getf (zdm d_Md_qBracket_0 1 rfl) f_Md_319 rfl rfl ?_
  refine x_iconst (zdm d_Md_qBracket_0 2 rfl) (zIl rfl) ?_
  obtain ⟨g1, H⟩ := H
  refine x_isub (zdm d_Md_qBracket_0 3 rfl) g1 ?_
  refine x_istore_n (zdm d_Md_qBracket_0 4 rfl) rfl (zlt rfl) rfl ?_
  exact zX.sub [1, 0] rfl H
set_option maxRecDepth 20000 in
set_option maxHeartbeats 4000000 in
theorem B_Md_qDropsToBracket_0 {G : zG} {h sl : Nat} (hsl : 2 ≤ sl) {u : Nat × Nat × Nat × Nat} {M : zM} {Q : Int → zM → Prop} (H : ((M 125 92) ≤ (M 125 94) → Q 0 M) ∧ (¬ (M 125 92) ≤ (M 125 94) → (zI ((M 125 92) - 1)) ∧ ((0 ≤ ((M 125 92) - 1) ∧ ((M 125 92) - 1) < 1700) ∧ (zCt G h sl 0 0 y_Md_qIsBracket [(0, (M 194 ((M 125 92) - 1)))] M (fun r3 M4 => (¬ r3 = 0 → Q 0 M4) ∧ (¬ (¬ r3 = 0) → zCt G h sl 0 0 y_Md_qDrops [(2, 125)] M4 (fun r6 M7 => zX G (y_Md_qDropsToBracket, h + 1, sl) u 0 [(0, (2, 125))] [] M7 Q))))))) : zX G (y_Md_qDropsToBracket, h + 1, sl) u 0 [(0, (2, 125))] [] M Q := by
  refine x_aload_n (zdm d_Md_qDropsToBracket_0 0 rfl) rfl (n := 0) rfl ?_
  refine x_getf (zdm d_Md_qDropsToBracket_0 1 rfl) f_Md_319 rfl rfl ?_
  refine x_aload_n (zdm d_Md_qDropsToBracket_0 2 rfl) rfl (n := 0) rfl ?_
  refine x_getf (zdm d_Md_qDropsToBracket_0 3 rfl) f_Md_325 rfl rfl ?_
  refine x_icmple (tgt := 35) (zdm d_Md_qDropsToBracket_0 4 rfl) (by decide) (fun c => ?_) (fun c => ?_)
  · have H := H.1 c
    exact x_return (zdm d_Md_qDropsToBracket_0 17 rfl) rfl H
  · have H := H.2 c
    refine x_aload_n (zdm d_Md_qDropsToBracket_0 5 rfl) rfl (n := 0) rfl ?_
    refine x_getG (zdm d_Md_qDropsToBracket_0 6 rfl) f_Md_225 rfl rfl (by decide) hsl rfl ?_
    refine x_aload_n (zdm d_Md_qDropsToBracket_0 7 rfl) rfl (n := 0) rfl ?_
    refine x_getf (zdm d_Md_qDropsToBracket_0 8 rfl) f_Md_319 rfl rfl ?_
    refine x_iconst (zdm d_Md_qDropsToBracket_0 9 rfl) (zIl rfl) ?_
    obtain ⟨g1, H⟩ := H
    refine x_isub (zdm d_Md_qDropsToBracket_0 10 rfl) g1 ?_
    obtain ⟨g2, H⟩ := H
    refine x_iald (zdm d_Md_qDropsToBracket_0 11 rfl) rfl g2 ?_
    refine x_callSi (n := 1) (zdm d_Md_qDropsToBracket_0 12 rfl) k_Md_551 (As := [(0, (M 194 ((M 125 92) - 1)))]) rfl rfl (Nat.le_of_ble_eq_true rfl) trivial H (fun r3 M4 hr H => ?_)
    have b5 : r3 = 0 ∨ r3 = 1 := hr
    refine x_ifne (tgt := 35) (zdm d_Md_qDropsToBracket_0 13 rfl) (by decide) (fun c => ?_) (fun c => ?_)
    · have H := H.1 c
      exact x_return (zdm d_Md_qDropsToBracket_0 17 rfl) rfl H
    · have H := H.2 c
      refine x_aload_n (zdm d_Md_qDropsToBracket_0 14 rfl) rfl (n := 0) rfl ?_
      refine x_callVv (n := 0) (ci := 11) (zdm d_Md_qDropsToBracket_0 15 rfl) k_Md_554 (As := []) rfl rfl rfl ⟨_, _, rfl⟩ (Nat.le_of_ble_eq_true rfl) rfl H (fun r6 M7 hr H => ?_)
      refine x_goto (tgt := 0) (zdm d_Md_qDropsToBracket_0 16 rfl) (by decide) ?_
      exact H
set_option maxRecDepth 20000 in
set_option maxHeartbeats 4000000 in
theorem E_Md_qDropsToBracket {G : zG} {h sl : Nat} (hsl : 2 ≤ sl) {M : zM} {Q : Int → zM → Prop} (H : ((M 125 92) ≤ (M 125 94) → Q 0 M) ∧ (¬ (M 125 92) ≤ (M 125 94) → (zI ((M 125 92) - 1)) ∧ ((0 ≤ ((M 125 92) - 1) ∧ ((M 125 92) - 1) < 1700) ∧ (zCt G h sl 0 0 y_Md_qIsBracket [(0, (M 194 ((M 125 92) - 1)))] M (fun r3 M4 => (¬ r3 = 0 → Q 0 M4) ∧ (¬ (¬ r3 = 0) → zCt G h sl 0 0 y_Md_qDrops [(2, 125)] M4 (fun r6 M7 => zX G (y_Md_qDropsToBracket, h + 1, sl) (0, 0, 0, 0) 0 [(0, (2, 125))] [] M7 Q))))))) : zCt G (h + 1) sl 0 0 y_Md_qDropsToBracket [(2, 125)] M Q := by
  refine zCt.of (by decide +kernel) (Nat.le_of_ble_eq_true rfl) ?_
  refine x_aload_n (zdm d_Md_qDropsToBracket_0 0 rfl) rfl (n := 0) rfl ?_
  refine x_getf (zdm d_Md_qDropsToBracket_0 1 rfl) f_Md_319 rfl rfl ?_
  refine x_aload_n (zdm d_Md_qDropsToBracket_0 2 rfl) rfl (n := 0) rfl ?_
  refine x_getf (zdm d_Md_qDropsToBracket_0 3 rfl) f_Md_325 rfl rfl ?_
  refine x_icmple (tgt := 35) (zdm d_Md_qDropsToBracket_0 4 rfl) (by decide) (fun c => ?_) (fun c => ?_)
  · have H := H.1 c
    exact x_return (zdm d_Md_qDropsToBracket_0 17 rfl) rfl H
  · have H := H.2 c
    refine x_aload_n (zdm d_Md_qDropsToBracket_0 5 rfl) rfl (n := 0) rfl ?_
    refine x_getG (zdm d_Md_qDropsToBracket_0 6 rfl) f_Md_225 rfl rfl (by decide) hsl rfl ?_
    refine x_aload_n (zdm d_Md_qDropsToBracket_0 7 rfl) rfl (n := 0) rfl ?_
    refine x_getf (zdm d_Md_qDropsToBracket_0 8 rfl) f_Md_319 rfl rfl ?_
    refine x_iconst (zdm d_Md_qDropsToBracket_0 9 rfl) (zIl rfl) ?_
    obtain ⟨g1, H⟩ := H
    refine x_isub (zdm d_Md_qDropsToBracket_0 10 rfl) g1 ?_
    obtain ⟨g2, H⟩ := H
    refine x_iald (zdm d_Md_qDropsToBracket_0 11 rfl) rfl g2 ?_
    refine x_callSi (n := 1) (zdm d_Md_qDropsToBracket_0 12 rfl) k_Md_551 (As := [(0, (M 194 ((M 125 92) - 1)))]) rfl rfl (Nat.le_of_ble_eq_true rfl) trivial H (fun r3 M4 hr H => ?_)
    have b5 : r3 = 0 ∨ r3 = 1 := hr
    refine x_ifne (tgt := 35) (zdm d_Md_qDropsToBracket_0 13 rfl) (by decide) (fun c => ?_) (fun c => ?_)
    · have H := H.1 c
      exact x_return (zdm d_Md_qDropsToBracket_0 17 rfl) rfl H
    · have H := H.2 c
      refine x_aload_n (zdm d_Md_qDropsToBracket_0 14 rfl) rfl (n := 0) rfl ?_
      refine x_callVv (n := 0) (ci := 11) (zdm d_Md_qDropsToBracket_0 15 rfl) k_Md_554 (As := []) rfl rfl rfl ⟨_, _, rfl⟩ (Nat.le_of_ble_eq_true rfl) rfl H (fun r6 M7 hr H => ?_)
      refine x_goto (tgt := 0) (zdm d_Md_qDropsToBracket_0 16 rfl) (by decide) ?_
      exact H
set_option maxRecDepth 20000 in
set_option maxHeartbeats 4000000 in
theorem E_Md_qWordHere {G : zG} {h sl : Nat} (hsl : 2 ≤ sl) {M : zM} {Q : Int → zM → Prop} (H : zCt G h sl 0 0 y_Md_isHere [(2, 125), (2, 185)] M (fun r1 M2 => (r1 = 0 → zCt G h sl 0 0 y_Md_isHere [(2, 125), (2, 186)] M2 (fun r4 M5 => (r4 = 0 → zCt G h sl 0 0 y_Md_isHere [(2, 125), (2, 187)] M5 (fun r7 M8 => (r7 = 0 → zCt G h sl 0 0 y_Md_isHere [(2, 125), (2, 188)] M8 (fun r10 M11 => (r10 = 0 → zCt G h sl 0 0 y_Md_isHere [(2, 125), (2, 189)] M11 (fun r13 M14 => (r13 = 0 → zCt G h sl 0 0 y_Md_isHere [(2, 125), (2, 190)] M14 (fun r16 M17 => (r16 = 0 → zCt G h sl 0 0 y_Md_isHere [(2, 125), (2, 191)] M17 (fun r19 M20 => (r19 = 0 → zCt G h sl 0 0 y_Md_isHere [(2, 125), (2, 192)] M20 (fun r22 M23 => (r22 = 0 → Q (-1) M23) ∧ (¬ r22 = 0 → Q 7 M23))) ∧ (¬ r19 = 0 → Q 6 M20))) ∧ (¬ r16 = 0 → Q 5 M17))) ∧ (¬ r13 = 0 → Q 4 M14))) ∧ (¬ r10 = 0 → Q 3 M11))) ∧ (¬ r7 = 0 → Q 2 M8))) ∧ (¬ r4 = 0 → Q 1 M5))) ∧ (¬ r1 = 0 → Q 0 M2))) : zCt G (h + 1) sl 0 0 y_Md_qWordHere [(2, 125)] M Q := by
  refine zCt.of (by decide +kernel) (Nat.le_of_ble_eq_true rfl) ?_
  refine x_aload_n (zdm d_Md_qWordHere_0 0 rfl) rfl (n := 0) rfl ?_
  refine x_aload_n (zdm d_Md_qWordHere_0 1 rfl) rfl (n := 0) rfl ?_
  refine x_getG (zdm d_Md_qWordHere_0 2 rfl) f_Md_198 rfl rfl (by decide) hsl rfl ?_
  refine x_callVi (n := 1) (ci := 11) (zdm d_Md_qWordHere_0 3 rfl) k_Md_260 (As := [(2, 185)]) rfl rfl rfl ⟨_, _, rfl⟩ (Nat.le_of_ble_eq_true rfl) trivial H (fun r1 M2 hr H => ?_)
  have b3 : r1 = 0 ∨ r1 = 1 := hr
  refine x_ifeq (tgt := 13) (zdm d_Md_qWordHere_0 4 rfl) (by decide) (fun c => ?_) (fun c => ?_)
  · have H := H.1 c
    refine x_aload_n (zdm d_Md_qWordHere_0 7 rfl) rfl (n := 0) rfl ?_
    refine x_aload_n (zdm d_Md_qWordHere_0 8 rfl) rfl (n := 0) rfl ?_
    refine x_getG (zdm d_Md_qWordHere_0 9 rfl) f_Md_201 rfl rfl (by decide) hsl rfl ?_
    refine x_callVi (n := 1) (ci := 11) (zdm d_Md_qWordHere_0 10 rfl) k_Md_260 (As := [(2, 186)]) rfl rfl rfl ⟨_, _, rfl⟩ (Nat.le_of_ble_eq_true rfl) trivial H (fun r4 M5 hr H => ?_)
    have b6 : r4 = 0 ∨ r4 = 1 := hr
    refine x_ifeq (tgt := 26) (zdm d_Md_qWordHere_0 11 rfl) (by decide) (fun c => ?_) (fun c => ?_)
    · have H := H.1 c
      refine x_aload_n (zdm d_Md_qWordHere_0 14 rfl) rfl (n := 0) rfl ?_
      refine x_aload_n (zdm d_Md_qWordHere_0 15 rfl) rfl (n := 0) rfl ?_
      refine x_getG (zdm d_Md_qWordHere_0 16 rfl) f_Md_204 rfl rfl (by decide) hsl rfl ?_
      refine x_callVi (n := 1) (ci := 11) (zdm d_Md_qWordHere_0 17 rfl) k_Md_260 (As := [(2, 187)]) rfl rfl rfl ⟨_, _, rfl⟩ (Nat.le_of_ble_eq_true rfl) trivial H (fun r7 M8 hr H => ?_)
      have b9 : r7 = 0 ∨ r7 = 1 := hr
      refine x_ifeq (tgt := 39) (zdm d_Md_qWordHere_0 18 rfl) (by decide) (fun c => ?_) (fun c => ?_)
      · have H := H.1 c
        refine x_aload_n (zdm d_Md_qWordHere_0 21 rfl) rfl (n := 0) rfl ?_
        refine x_aload_n (zdm d_Md_qWordHere_0 22 rfl) rfl (n := 0) rfl ?_
        refine x_getG (zdm d_Md_qWordHere_0 23 rfl) f_Md_207 rfl rfl (by decide) hsl rfl ?_
        refine x_callVi (n := 1) (ci := 11) (zdm d_Md_qWordHere_0 24 rfl) k_Md_260 (As := [(2, 188)]) rfl rfl rfl ⟨_, _, rfl⟩ (Nat.le_of_ble_eq_true rfl) trivial H (fun r10 M11 hr H => ?_)
        have b12 : r10 = 0 ∨ r10 = 1 := hr
        refine x_ifeq (tgt := 52) (zdm d_Md_qWordHere_0 25 rfl) (by decide) (fun c => ?_) (fun c => ?_)
        · have H := H.1 c
          refine x_aload_n (zdm d_Md_qWordHere_0 28 rfl) rfl (n := 0) rfl ?_
          refine x_aload_n (zdm d_Md_qWordHere_0 29 rfl) rfl (n := 0) rfl ?_
          refine x_getG (zdm d_Md_qWordHere_0 30 rfl) f_Md_210 rfl rfl (by decide) hsl rfl ?_
          refine x_callVi (n := 1) (ci := 11) (zdm d_Md_qWordHere_0 31 rfl) k_Md_260 (As := [(2, 189)]) rfl rfl rfl ⟨_, _, rfl⟩ (Nat.le_of_ble_eq_true rfl) trivial H (fun r13 M14 hr H => ?_)
          have b15 : r13 = 0 ∨ r13 = 1 := hr
          refine x_ifeq (tgt := 65) (zdm d_Md_qWordHere_0 32 rfl) (by decide) (fun c => ?_) (fun c => ?_)
          · have H := H.1 c
            refine x_aload_n (zdm d_Md_qWordHere_0 35 rfl) rfl (n := 0) rfl ?_
            refine x_aload_n (zdm d_Md_qWordHere_0 36 rfl) rfl (n := 0) rfl ?_
            refine x_getG (zdm d_Md_qWordHere_0 37 rfl) f_Md_213 rfl rfl (by decide) hsl rfl ?_
            refine x_callVi (n := 1) (ci := 11) (zdm d_Md_qWordHere_0 38 rfl) k_Md_260 (As := [(2, 190)]) rfl rfl rfl ⟨_, _, rfl⟩ (Nat.le_of_ble_eq_true rfl) trivial H (fun r16 M17 hr H => ?_)
            have b18 : r16 = 0 ∨ r16 = 1 := hr
            refine x_ifeq (tgt := 78) (zdm d_Md_qWordHere_0 39 rfl) (by decide) (fun c => ?_) (fun c => ?_)
            · have H := H.1 c
              refine x_aload_n (zdm d_Md_qWordHere_0 42 rfl) rfl (n := 0) rfl ?_
              refine x_aload_n (zdm d_Md_qWordHere_0 43 rfl) rfl (n := 0) rfl ?_
              refine x_getG (zdm d_Md_qWordHere_0 44 rfl) f_Md_216 rfl rfl (by decide) hsl rfl ?_
              refine x_callVi (n := 1) (ci := 11) (zdm d_Md_qWordHere_0 45 rfl) k_Md_260 (As := [(2, 191)]) rfl rfl rfl ⟨_, _, rfl⟩ (Nat.le_of_ble_eq_true rfl) trivial H (fun r19 M20 hr H => ?_)
              have b21 : r19 = 0 ∨ r19 = 1 := hr
              refine x_ifeq (tgt := 92) (zdm d_Md_qWordHere_0 46 rfl) (by decide) (fun c => ?_) (fun c => ?_)
              · have H := H.1 c
                refine x_aload_n (zdm d_Md_qWordHere_0 49 rfl) rfl (n := 0) rfl ?_
                refine x_aload_n (zdm d_Md_qWordHere_0 50 rfl) rfl (n := 0) rfl ?_
                refine x_getG (zdm d_Md_qWordHere_0 51 rfl) f_Md_219 rfl rfl (by decide) hsl rfl ?_
                refine x_callVi (n := 1) (ci := 11) (zdm d_Md_qWordHere_0 52 rfl) k_Md_260 (As := [(2, 192)]) rfl rfl rfl ⟨_, _, rfl⟩ (Nat.le_of_ble_eq_true rfl) trivial H (fun r22 M23 hr H => ?_)
                have b24 : r22 = 0 ∨ r22 = 1 := hr
                refine x_ifeq (tgt := 106) (zdm d_Md_qWordHere_0 53 rfl) (by decide) (fun c => ?_) (fun c => ?_)
                · have H := H.1 c
                  refine x_iconst (zdm d_Md_qWordHere_0 56 rfl) (zIl rfl) ?_
                  exact x_iret (zdm d_Md_qWordHere_0 57 rfl) rfl H
                · have H := H.2 c
                  refine x_bipush (zdm d_Md_qWordHere_0 54 rfl) (by decide) ?_
                  exact x_iret (zdm d_Md_qWordHere_0 55 rfl) rfl H
              · have H := H.2 c
                refine x_bipush (zdm d_Md_qWordHere_0 47 rfl) (by decide) ?_
                exact x_iret (zdm d_Md_qWordHere_0 48 rfl) rfl H
            · have H := H.2 c
              refine x_iconst (zdm d_Md_qWordHere_0 40 rfl) (zIl rfl) ?_
              exact x_iret (zdm d_Md_qWordHere_0 41 rfl) rfl H
          · have H := H.2 c
            refine x_iconst (zdm d_Md_qWordHere_0 33 rfl) (zIl rfl) ?_
            exact x_iret (zdm d_Md_qWordHere_0 34 rfl) rfl H
        · have H := H.2 c
          refine x_iconst (zdm d_Md_qWordHere_0 26 rfl) (zIl rfl) ?_
          exact x_iret (zdm d_Md_qWordHere_0 27 rfl) rfl H
      · have H := H.2 c
        refine x_iconst (zdm d_Md_qWordHere_0 19 rfl) (zIl rfl) ?_
        exact x_iret (zdm d_Md_qWordHere_0 20 rfl) rfl H
    · have H := H.2 c
      refine x_iconst (zdm d_Md_qWordHere_0 12 rfl) (zIl rfl) ?_
      exact x_iret (zdm d_Md_qWordHere_0 13 rfl) rfl H
  · have H := H.2 c
    refine x_iconst (zdm d_Md_qWordHere_0 5 rfl) (zIl rfl) ?_
    exact x_iret (zdm d_Md_qWordHere_0 6 rfl) rfl H
set_option maxRecDepth 20000 in
set_option maxHeartbeats 4000000 in
theorem E_Md_qWordOf {G : zG} {h sl : Nat} (hsl : 2 ≤ sl) {l1 l2 : Int} {M : zM} {Q : Int → zM → Prop} (H : zCt G h sl 0 0 y_Md_qWordHere [(2, 125)] M (fun r1 M2 => (r1 < l1 → Q (-1) M2) ∧ (¬ r1 < l1 → (l2 ≤ r1 → Q (-1) M2) ∧ (¬ l2 ≤ r1 → zCt G h sl 0 0 y_Md_isAllowed [(2, 125), (0, r1)] M2 (fun r3 M4 => (r3 = 0 → Q (-1) M4) ∧ (¬ r3 = 0 → Q r1 M4)))))) : zCt G (h + 1) sl 0 0 y_Md_qWordOf [(2, 125), (0, l1), (0, l2)] M Q := by
  refine zCt.of (by decide +kernel) (Nat.le_of_ble_eq_true rfl) ?_
  refine x_aload_n (zdm d_Md_qWordOf_0 0 rfl) rfl (n := 0) rfl ?_
  refine x_callVi (n := 0) (ci := 11) (zdm d_Md_qWordOf_0 1 rfl) k_Md_557 (As := []) rfl rfl rfl ⟨_, _, rfl⟩ (Nat.le_of_ble_eq_true rfl) trivial H (fun r1 M2 hr H => ?_)
  refine x_istore_n (zdm d_Md_qWordOf_0 2 rfl) rfl (zlt rfl) rfl ?_
  refine x_iload_n (zdm d_Md_qWordOf_0 3 rfl) rfl (n := 0) rfl ?_
  refine x_iload_n (zdm d_Md_qWordOf_0 4 rfl) rfl (n := 2) rfl ?_
  refine x_icmplt (tgt := 27) (zdm d_Md_qWordOf_0 5 rfl) (by decide) (fun c => ?_) (fun c => ?_)
  · have H := H.1 c
    refine x_iconst (zdm d_Md_qWordOf_0 15 rfl) (zIl rfl) ?_
    exact x_iret (zdm d_Md_qWordOf_0 16 rfl) rfl H
  · have H := H.2 c
    refine x_iload_n (zdm d_Md_qWordOf_0 6 rfl) rfl (n := 0) rfl ?_
    refine x_iload_n (zdm d_Md_qWordOf_0 7 rfl) rfl (n := 3) rfl ?_
    refine x_icmpge (tgt := 27) (zdm d_Md_qWordOf_0 8 rfl) (by decide) (fun c => ?_) (fun c => ?_)
    · have H := H.1 c
      refine x_iconst (zdm d_Md_qWordOf_0 15 rfl) (zIl rfl) ?_
      exact x_iret (zdm d_Md_qWordOf_0 16 rfl) rfl H
    · have H := H.2 c
      refine x_aload_n (zdm d_Md_qWordOf_0 9 rfl) rfl (n := 1) rfl ?_
      refine x_iload_n (zdm d_Md_qWordOf_0 10 rfl) rfl (n := 0) rfl ?_
      refine x_callVi (n := 1) (ci := 11) (zdm d_Md_qWordOf_0 11 rfl) k_Md_560 (As := [(0, r1)]) rfl rfl rfl ⟨_, _, rfl⟩ (Nat.le_of_ble_eq_true rfl) trivial H (fun r3 M4 hr H => ?_)
      have b5 : r3 = 0 ∨ r3 = 1 := hr
      refine x_ifeq (tgt := 27) (zdm d_Md_qWordOf_0 12 rfl) (by decide) (fun c => ?_) (fun c => ?_)
      · have H := H.1 c
        refine x_iconst (zdm d_Md_qWordOf_0 15 rfl) (zIl rfl) ?_
        exact x_iret (zdm d_Md_qWordOf_0 16 rfl) rfl H
      · have H := H.2 c
        refine x_iload_n (zdm d_Md_qWordOf_0 13 rfl) rfl (n := 0) rfl ?_
        refine x_goto (tgt := 28) (zdm d_Md_qWordOf_0 14 rfl) (by decide) ?_
        exact x_iret (zdm d_Md_qWordOf_0 16 rfl) rfl H
set_option maxRecDepth 20000 in
set_option maxHeartbeats 4000000 in
theorem E_Md_qAsksWord {G : zG} {h sl : Nat} (hsl : 2 ≤ sl) {l1 : Int} {M : zM} {Q : Int → zM → Prop} (H : (l1 = 0 → zCt G h sl 0 0 y_Md_asks [(2, 125), (2, 185)] M (fun r1 M2 => Q 0 M2)) ∧ (l1 = 1 → zCt G h sl 0 0 y_Md_asks [(2, 125), (2, 186)] M (fun r3 M4 => Q 0 M4)) ∧ (l1 = 2 → zCt G h sl 0 0 y_Md_asks [(2, 125), (2, 187)] M (fun r5 M6 => Q 0 M6)) ∧ (l1 = 3 → zCt G h sl 0 0 y_Md_asks [(2, 125), (2, 188)] M (fun r7 M8 => Q 0 M8)) ∧ (l1 = 4 → zCt G h sl 0 0 y_Md_asks [(2, 125), (2, 189)] M (fun r9 M10 => Q 0 M10)) ∧ (l1 = 5 → zCt G h sl 0 0 y_Md_asks [(2, 125), (2, 190)] M (fun r11 M12 => Q 0 M12)) ∧ (l1 = 6 → zCt G h sl 0 0 y_Md_asks [(2, 125), (2, 191)] M (fun r13 M14 => Q 0 M14)) ∧ ((l1 < 0 ∨ 6 < l1) → zCt G h sl 0 0 y_Md_asks [(2, 125), (2, 192)] M (fun r15 M16 => Q 0 M16))) : zCt G (h + 1) sl 0 0 y_Md_qAsksWord [(2, 125), (0, l1)] M Q := by
  refine zCt.of (by decide +kernel) (Nat.le_of_ble_eq_true rfl) ?_
  refine x_iload_n (zdm d_Md_qAsksWord_0 0 rfl) rfl (n := 1) rfl ?_
  by_cases c0 : l1 = 0
  · refine x_tsw (tgt := 44) (zdm d_Md_qAsksWord_0 1 rfl) c0 (by decide) rfl (by decide) ?_
    have H := H.1 c0
    refine x_aload_n (zdm d_Md_qAsksWord_0 2 rfl) rfl (n := 0) rfl ?_
    refine x_aload_n (zdm d_Md_qAsksWord_0 3 rfl) rfl (n := 0) rfl ?_
    refine x_getG (zdm d_Md_qAsksWord_0 4 rfl) f_Md_198 rfl rfl (by decide) hsl rfl ?_
    refine x_callVv (n := 1) (ci := 11) (zdm d_Md_qAsksWord_0 5 rfl) k_Md_302 (As := [(2, 185)]) rfl rfl rfl ⟨_, _, rfl⟩ (Nat.le_of_ble_eq_true rfl) rfl H (fun r1 M2 hr H => ?_)
    refine x_goto (tgt := 129) (zdm d_Md_qAsksWord_0 6 rfl) (by decide) ?_
    exact x_return (zdm d_Md_qAsksWord_0 41 rfl) rfl H
  · skip
    by_cases c1 : l1 = 1
    · refine x_tsw (tgt := 55) (zdm d_Md_qAsksWord_0 1 rfl) c1 (by decide) rfl (by decide) ?_
      have H := H.2.1 c1
      refine x_aload_n (zdm d_Md_qAsksWord_0 7 rfl) rfl (n := 0) rfl ?_
      refine x_aload_n (zdm d_Md_qAsksWord_0 8 rfl) rfl (n := 0) rfl ?_
      refine x_getG (zdm d_Md_qAsksWord_0 9 rfl) f_Md_201 rfl rfl (by decide) hsl rfl ?_
      refine x_callVv (n := 1) (ci := 11) (zdm d_Md_qAsksWord_0 10 rfl) k_Md_302 (As := [(2, 186)]) rfl rfl rfl ⟨_, _, rfl⟩ (Nat.le_of_ble_eq_true rfl) rfl H (fun r3 M4 hr H => ?_)
      refine x_goto (tgt := 129) (zdm d_Md_qAsksWord_0 11 rfl) (by decide) ?_
      exact x_return (zdm d_Md_qAsksWord_0 41 rfl) rfl H
    · skip
      by_cases c2 : l1 = 2
      · refine x_tsw (tgt := 66) (zdm d_Md_qAsksWord_0 1 rfl) c2 (by decide) rfl (by decide) ?_
        have H := H.2.2.1 c2
        refine x_aload_n (zdm d_Md_qAsksWord_0 12 rfl) rfl (n := 0) rfl ?_
        refine x_aload_n (zdm d_Md_qAsksWord_0 13 rfl) rfl (n := 0) rfl ?_
        refine x_getG (zdm d_Md_qAsksWord_0 14 rfl) f_Md_204 rfl rfl (by decide) hsl rfl ?_
        refine x_callVv (n := 1) (ci := 11) (zdm d_Md_qAsksWord_0 15 rfl) k_Md_302 (As := [(2, 187)]) rfl rfl rfl ⟨_, _, rfl⟩ (Nat.le_of_ble_eq_true rfl) rfl H (fun r5 M6 hr H => ?_)
        refine x_goto (tgt := 129) (zdm d_Md_qAsksWord_0 16 rfl) (by decide) ?_
        exact x_return (zdm d_Md_qAsksWord_0 41 rfl) rfl H
      · skip
        by_cases c3 : l1 = 3
        · refine x_tsw (tgt := 77) (zdm d_Md_qAsksWord_0 1 rfl) c3 (by decide) rfl (by decide) ?_
          have H := H.2.2.2.1 c3
          refine x_aload_n (zdm d_Md_qAsksWord_0 17 rfl) rfl (n := 0) rfl ?_
          refine x_aload_n (zdm d_Md_qAsksWord_0 18 rfl) rfl (n := 0) rfl ?_
          refine x_getG (zdm d_Md_qAsksWord_0 19 rfl) f_Md_207 rfl rfl (by decide) hsl rfl ?_
          refine x_callVv (n := 1) (ci := 11) (zdm d_Md_qAsksWord_0 20 rfl) k_Md_302 (As := [(2, 188)]) rfl rfl rfl ⟨_, _, rfl⟩ (Nat.le_of_ble_eq_true rfl) rfl H (fun r7 M8 hr H => ?_)
          refine x_goto (tgt := 129) (zdm d_Md_qAsksWord_0 21 rfl) (by decide) ?_
          exact x_return (zdm d_Md_qAsksWord_0 41 rfl) rfl H
        · skip
          by_cases c4 : l1 = 4
          · refine x_tsw (tgt := 88) (zdm d_Md_qAsksWord_0 1 rfl) c4 (by decide) rfl (by decide) ?_
            have H := H.2.2.2.2.1 c4
            refine x_aload_n (zdm d_Md_qAsksWord_0 22 rfl) rfl (n := 0) rfl ?_
            refine x_aload_n (zdm d_Md_qAsksWord_0 23 rfl) rfl (n := 0) rfl ?_
            refine x_getG (zdm d_Md_qAsksWord_0 24 rfl) f_Md_210 rfl rfl (by decide) hsl rfl ?_
            refine x_callVv (n := 1) (ci := 11) (zdm d_Md_qAsksWord_0 25 rfl) k_Md_302 (As := [(2, 189)]) rfl rfl rfl ⟨_, _, rfl⟩ (Nat.le_of_ble_eq_true rfl) rfl H (fun r9 M10 hr H => ?_)
            refine x_goto (tgt := 129) (zdm d_Md_qAsksWord_0 26 rfl) (by decide) ?_
            exact x_return (zdm d_Md_qAsksWord_0 41 rfl) rfl H
          · skip
            by_cases c5 : l1 = 5
            · refine x_tsw (tgt := 99) (zdm d_Md_qAsksWord_0 1 rfl) c5 (by decide) rfl (by decide) ?_
              have H := H.2.2.2.2.2.1 c5
              refine x_aload_n (zdm d_Md_qAsksWord_0 27 rfl) rfl (n := 0) rfl ?_
              refine x_aload_n (zdm d_Md_qAsksWord_0 28 rfl) rfl (n := 0) rfl ?_
              refine x_getG (zdm d_Md_qAsksWord_0 29 rfl) f_Md_213 rfl rfl (by decide) hsl rfl ?_
              refine x_callVv (n := 1) (ci := 11) (zdm d_Md_qAsksWord_0 30 rfl) k_Md_302 (As := [(2, 190)]) rfl rfl rfl ⟨_, _, rfl⟩ (Nat.le_of_ble_eq_true rfl) rfl H (fun r11 M12 hr H => ?_)
              refine x_goto (tgt := 129) (zdm d_Md_qAsksWord_0 31 rfl) (by decide) ?_
              exact x_return (zdm d_Md_qAsksWord_0 41 rfl) rfl H
            · skip
              by_cases c6 : l1 = 6
              · refine x_tsw (tgt := 110) (zdm d_Md_qAsksWord_0 1 rfl) c6 (by decide) rfl (by decide) ?_
                have H := H.2.2.2.2.2.2.1 c6
                refine x_aload_n (zdm d_Md_qAsksWord_0 32 rfl) rfl (n := 0) rfl ?_
                refine x_aload_n (zdm d_Md_qAsksWord_0 33 rfl) rfl (n := 0) rfl ?_
                refine x_getG (zdm d_Md_qAsksWord_0 34 rfl) f_Md_216 rfl rfl (by decide) hsl rfl ?_
                refine x_callVv (n := 1) (ci := 11) (zdm d_Md_qAsksWord_0 35 rfl) k_Md_302 (As := [(2, 191)]) rfl rfl rfl ⟨_, _, rfl⟩ (Nat.le_of_ble_eq_true rfl) rfl H (fun r13 M14 hr H => ?_)
                refine x_goto (tgt := 129) (zdm d_Md_qAsksWord_0 36 rfl) (by decide) ?_
                exact x_return (zdm d_Md_qAsksWord_0 41 rfl) rfl H
              · skip
                have cd : (l1 < 0 ∨ 6 < l1) := by omega
                refine x_tswd (tgt := 121) (zdm d_Md_qAsksWord_0 1 rfl) cd (by decide) ?_
                have H := H.2.2.2.2.2.2.2 cd
                refine x_aload_n (zdm d_Md_qAsksWord_0 37 rfl) rfl (n := 0) rfl ?_
                refine x_aload_n (zdm d_Md_qAsksWord_0 38 rfl) rfl (n := 0) rfl ?_
                refine x_getG (zdm d_Md_qAsksWord_0 39 rfl) f_Md_219 rfl rfl (by decide) hsl rfl ?_
                refine x_callVv (n := 1) (ci := 11) (zdm d_Md_qAsksWord_0 40 rfl) k_Md_302 (As := [(2, 192)]) rfl rfl rfl ⟨_, _, rfl⟩ (Nat.le_of_ble_eq_true rfl) rfl H (fun r15 M16 hr H => ?_)
                exact x_return (zdm d_Md_qAsksWord_0 41 rfl) rfl H
set_option maxRecDepth 20000 in
set_option maxHeartbeats 4000000 in
theorem B_Md_qEndsPart_0 {G : zG} {h sl : Nat} (hsl : 2 ≤ sl) {u : Nat × Nat × Nat × Nat} {M : zM} {Q : Int → zM → Prop} (H : (¬ (M 125 5) = 0 → Q 0 M) ∧ (¬ (¬ (M 125 5) = 0) → ((M 125 92) ≤ (M 125 94) → Q 0 M) ∧ (¬ (M 125 92) ≤ (M 125 94) → (zI ((M 125 92) - 1)) ∧ ((0 ≤ ((M 125 92) - 1) ∧ ((M 125 92) - 1) < 1700) ∧ (((M 194 ((M 125 92) - 1)) < 60 → Q 0 M) ∧ (¬ (M 194 ((M 125 92) - 1)) < 60 → (zI ((M 125 93) - 1)) ∧ (zCt G h sl 0 0 y_Md_qDrops [(2, 125)] (zwr M 125 93 ((M 125 93) - 1)) (fun r4 M5 => zX G (y_Md_qEndsPart, h + 1, sl) u 0 [(0, (2, 125))] [] M5 Q)))))))) : zX G (y_Md_qEndsPart, h + 1, sl) u 0 [(0, (2, 125))] [] M Q := by
  refine x_aload_n (zdm d_Md_qEndsPart_0 0 rfl) rfl (n := 0) rfl ?_
  refine x_getf (zdm d_Md_qEndsPart_0 1 rfl) f_Md_237 rfl rfl ?_
  refine x_ifne (tgt := 51) (zdm d_Md_qEndsPart_0 2 rfl) (by decide) (fun c => ?_) (fun c => ?_)
  · have H := H.1 c
    exact x_return (zdm d_Md_qEndsPart_0 26 rfl) rfl H
  · have H := H.2 c
    refine x_aload_n (zdm d_Md_qEndsPart_0 3 rfl) rfl (n := 0) rfl ?_
    refine x_getf (zdm d_Md_qEndsPart_0 4 rfl) f_Md_319 rfl rfl ?_
    refine x_aload_n (zdm d_Md_qEndsPart_0 5 rfl) rfl (n := 0) rfl ?_
    refine x_getf (zdm d_Md_qEndsPart_0 6 rfl) f_Md_325 rfl rfl ?_
    refine x_icmple (tgt := 51) (zdm d_Md_qEndsPart_0 7 rfl) (by decide) (fun c => ?_) (fun c => ?_)
    · have H := H.1 c
      exact x_return (zdm d_Md_qEndsPart_0 26 rfl) rfl H
    · have H := H.2 c
      refine x_aload_n (zdm d_Md_qEndsPart_0 8 rfl) rfl (n := 0) rfl ?_
      refine x_getG (zdm d_Md_qEndsPart_0 9 rfl) f_Md_225 rfl rfl (by decide) hsl rfl ?_
      refine x_aload_n (zdm d_Md_qEndsPart_0 10 rfl) rfl (n := 0) rfl ?_
      refine x_getf (zdm d_Md_qEndsPart_0 11 rfl) f_Md_319 rfl rfl ?_
      refine x_iconst (zdm d_Md_qEndsPart_0 12 rfl) (zIl rfl) ?_
      obtain ⟨g1, H⟩ := H
      refine x_isub (zdm d_Md_qEndsPart_0 13 rfl) g1 ?_
      obtain ⟨g2, H⟩ := H
      refine x_iald (zdm d_Md_qEndsPart_0 14 rfl) rfl g2 ?_
      refine x_bipush (zdm d_Md_qEndsPart_0 15 rfl) (by decide) ?_
      refine x_icmplt (tgt := 51) (zdm d_Md_qEndsPart_0 16 rfl) (by decide) (fun c => ?_) (fun c => ?_)
      · have H := H.1 c
        exact x_return (zdm d_Md_qEndsPart_0 26 rfl) rfl H
      · have H := H.2 c
        refine x_aload_n (zdm d_Md_qEndsPart_0 17 rfl) rfl (n := 0) rfl ?_
        refine x_dup (zdm d_Md_qEndsPart_0 18 rfl) z2n1 ?_
        refine x_getf (zdm d_Md_qEndsPart_0 19 rfl) f_Md_322 rfl rfl ?_
        refine x_iconst (zdm d_Md_qEndsPart_0 20 rfl) (zIl rfl) ?_
        obtain ⟨g3, H⟩ := H
        refine x_isub (zdm d_Md_qEndsPart_0 21 rfl) g3 ?_
        refine x_putf (zdm d_Md_qEndsPart_0 22 rfl) f_Md_322 rfl ⟨rfl, trivial⟩ (Or.inl rfl) ?_
        refine x_aload_n (zdm d_Md_qEndsPart_0 23 rfl) rfl (n := 0) rfl ?_
        refine x_callVv (n := 0) (ci := 11) (zdm d_Md_qEndsPart_0 24 rfl) k_Md_554 (As := []) rfl rfl rfl ⟨_, _, rfl⟩ (Nat.le_of_ble_eq_true rfl) rfl H (fun r4 M5 hr H => ?_)
        refine x_goto (tgt := 0) (zdm d_Md_qEndsPart_0 25 rfl) (by decide) ?_
        exact H
set_option maxRecDepth 20000 in
set_option maxHeartbeats 4000000 in
theorem E_Md_qEndsPart {G : zG} {h sl : Nat} (hsl : 2 ≤ sl) {M : zM} {Q : Int → zM → Prop} (H : (¬ (M 125 5) = 0 → Q 0 M) ∧ (¬ (¬ (M 125 5) = 0) → ((M 125 92) ≤ (M 125 94) → Q 0 M) ∧ (¬ (M 125 92) ≤ (M 125 94) → (zI ((M 125 92) - 1)) ∧ ((0 ≤ ((M 125 92) - 1) ∧ ((M 125 92) - 1) < 1700) ∧ (((M 194 ((M 125 92) - 1)) < 60 → Q 0 M) ∧ (¬ (M 194 ((M 125 92) - 1)) < 60 → (zI ((M 125 93) - 1)) ∧ (zCt G h sl 0 0 y_Md_qDrops [(2, 125)] (zwr M 125 93 ((M 125 93) - 1)) (fun r4 M5 => zX G (y_Md_qEndsPart, h + 1, sl) (0, 0, 0, 0) 0 [(0, (2, 125))] [] M5 Q)))))))) : zCt G (h + 1) sl 0 0 y_Md_qEndsPart [(2, 125)] M Q := by
  refine zCt.of (by decide +kernel) (Nat.le_of_ble_eq_true rfl) ?_
  refine x_aload_n (zdm d_Md_qEndsPart_0 0 rfl) rfl (n := 0) rfl ?_
  refine x_getf (zdm d_Md_qEndsPart_0 1 rfl) f_Md_237 rfl rfl ?_
  refine x_ifne (tgt := 51) (zdm d_Md_qEndsPart_0 2 rfl) (by decide) (fun c => ?_) (fun c => ?_)
  · have H := H.1 c
    exact x_return (zdm d_Md_qEndsPart_0 26 rfl) rfl H
  · have H := H.2 c
    refine x_aload_n (zdm d_Md_qEndsPart_0 3 rfl) rfl (n := 0) rfl ?_
    refine x_getf (zdm d_Md_qEndsPart_0 4 rfl) f_Md_319 rfl rfl ?_
    refine x_aload_n (zdm d_Md_qEndsPart_0 5 rfl) rfl (n := 0) rfl ?_
    refine x_getf (zdm d_Md_qEndsPart_0 6 rfl) f_Md_325 rfl rfl ?_
    refine x_icmple (tgt := 51) (zdm d_Md_qEndsPart_0 7 rfl) (by decide) (fun c => ?_) (fun c => ?_)
    · have H := H.1 c
      exact x_return (zdm d_Md_qEndsPart_0 26 rfl) rfl H
    · have H := H.2 c
      refine x_aload_n (zdm d_Md_qEndsPart_0 8 rfl) rfl (n := 0) rfl ?_
      refine x_getG (zdm d_Md_qEndsPart_0 9 rfl) f_Md_225 rfl rfl (by decide) hsl rfl ?_
      refine x_aload_n (zdm d_Md_qEndsPart_0 10 rfl) rfl (n := 0) rfl ?_
      refine x_getf (zdm d_Md_qEndsPart_0 11 rfl) f_Md_319 rfl rfl ?_
      refine x_iconst (zdm d_Md_qEndsPart_0 12 rfl) (zIl rfl) ?_
      obtain ⟨g1, H⟩ := H
      refine x_isub (zdm d_Md_qEndsPart_0 13 rfl) g1 ?_
      obtain ⟨g2, H⟩ := H
      refine x_iald (zdm d_Md_qEndsPart_0 14 rfl) rfl g2 ?_
      refine x_bipush (zdm d_Md_qEndsPart_0 15 rfl) (by decide) ?_
      refine x_icmplt (tgt := 51) (zdm d_Md_qEndsPart_0 16 rfl) (by decide) (fun c => ?_) (fun c => ?_)
      · have H := H.1 c
        exact x_return (zdm d_Md_qEndsPart_0 26 rfl) rfl H
      · have H := H.2 c
        refine x_aload_n (zdm d_Md_qEndsPart_0 17 rfl) rfl (n := 0) rfl ?_
        refine x_dup (zdm d_Md_qEndsPart_0 18 rfl) z2n1 ?_
        refine x_getf (zdm d_Md_qEndsPart_0 19 rfl) f_Md_322 rfl rfl ?_
        refine x_iconst (zdm d_Md_qEndsPart_0 20 rfl) (zIl rfl) ?_
        obtain ⟨g3, H⟩ := H
        refine x_isub (zdm d_Md_qEndsPart_0 21 rfl) g3 ?_
        refine x_putf (zdm d_Md_qEndsPart_0 22 rfl) f_Md_322 rfl ⟨rfl, trivial⟩ (Or.inl rfl) ?_
        refine x_aload_n (zdm d_Md_qEndsPart_0 23 rfl) rfl (n := 0) rfl ?_
        refine x_callVv (n := 0) (ci := 11) (zdm d_Md_qEndsPart_0 24 rfl) k_Md_554 (As := []) rfl rfl rfl ⟨_, _, rfl⟩ (Nat.le_of_ble_eq_true rfl) rfl H (fun r4 M5 hr H => ?_)
        refine x_goto (tgt := 0) (zdm d_Md_qEndsPart_0 25 rfl) (by decide) ?_
        exact H
set_option maxRecDepth 20000 in
set_option maxHeartbeats 4000000 in
theorem B_Md_qPartTold_271 {G : zG} {h sl : Nat} (hsl : 2 ≤ sl) {u : Nat × Nat × Nat × Nat} {s0 : Int} {M : zM} {Q : Int → zM → Prop} (H : zCt G h sl 0 0 y_Md_qCode [(2, 125), (0, s0)] M (fun r1 M2 => zCt G h sl 0 0 y_Md_qEndsPart [(2, 125)] M2 (fun r3 M4 => Q 0 M4))) : zX G (y_Md_qPartTold, h + 1, sl) u 271 [(0, (2, 125))] [(0, s0), (2, 125)] M Q := by
  refine x_callVv (n := 1) (ci := 11) (zdm d_Md_qPartTold_2 22 rfl) k_Md_548 (As := [(0, s0)]) rfl rfl rfl ⟨_, _, rfl⟩ (Nat.le_of_ble_eq_true rfl) rfl H (fun r1 M2 hr H => ?_)
  refine x_aload_n (zdm d_Md_qPartTold_2 23 rfl) rfl (n := 0) rfl ?_
  refine x_callVv (n := 0) (ci := 11) (zdm d_Md_qPartTold_2 24 rfl) k_Md_575 (As := []) rfl rfl rfl ⟨_, _, rfl⟩ (Nat.le_of_ble_eq_true rfl) rfl H (fun r3 M4 hr H => ?_)
  exact x_return (zdm d_Md_qPartTold_2 25 rfl) rfl H
set_option maxRecDepth 20000 in
set_option maxHeartbeats 4000000 in
theorem B_Md_qPartTold_233 {G : zG} {h sl : Nat} (hsl : 2 ≤ sl) {u : Nat × Nat × Nat × Nat} {l2 s0 : Int} {M : zM} {Q : Int → zM → Prop} (H : (l2 = (-1) → (s0 = (-1) → zCt G h sl 0 0 y_Md_number [(2, 125), (0, 0), (0, 9999)] M (fun r1 M2 => (zI (1000 + r1)) ∧ (zX G (y_Md_qPartTold, h + 1, sl) u 271 [(0, (2, 125))] [(0, (1000 + r1)), (2, 125)] M2 Q))) ∧ (¬ s0 = (-1) → (zI (48 + s0)) ∧ (zX G (y_Md_qPartTold, h + 1, sl) u 271 [(0, (2, 125))] [(0, (48 + s0)), (2, 125)] M Q))) ∧ (¬ l2 = (-1) → (zI (40 + l2)) ∧ (zX G (y_Md_qPartTold, h + 1, sl) u 271 [(0, (2, 125))] [(0, (40 + l2)), (2, 125)] M Q))) : zX G (y_Md_qPartTold, h + 1, sl) u 233 [(0, (2, 125)), (2, (0, l2))] [(0, s0)] M Q := by
  refine x_istore_n (zdm d_Md_qPartTold_2 0 rfl) rfl (zlt rfl) rfl ?_
  refine x_aload_n (zdm d_Md_qPartTold_2 1 rfl) rfl (n := 1) rfl ?_
  refine x_iload_n (zdm d_Md_qPartTold_2 2 rfl) rfl (n := 2) rfl ?_
  refine x_iconst (zdm d_Md_qPartTold_2 3 rfl) (zIl rfl) ?_
  refine x_icmpeq (tgt := 247) (zdm d_Md_qPartTold_2 4 rfl) (by decide) (fun c => ?_) (fun c => ?_)
  · have H := H.1 c
    refine x_iload_n (zdm d_Md_qPartTold_2 9 rfl) rfl (n := 0) rfl ?_
    refine x_iconst (zdm d_Md_qPartTold_2 10 rfl) (zIl rfl) ?_
    refine x_icmpeq (tgt := 259) (zdm d_Md_qPartTold_2 11 rfl) (by decide) (fun c => ?_) (fun c => ?_)
    · have H := H.1 c
      refine x_sipush (zdm d_Md_qPartTold_2 16 rfl) (by decide) ?_
      refine x_aload_n (zdm d_Md_qPartTold_2 17 rfl) rfl (n := 1) rfl ?_
      refine x_iconst (zdm d_Md_qPartTold_2 18 rfl) (zIl rfl) ?_
      refine x_sipush (zdm d_Md_qPartTold_2 19 rfl) (by decide) ?_
      refine x_callVi (n := 2) (ci := 11) (zdm d_Md_qPartTold_2 20 rfl) k_Md_306 (As := [(0, 0), (0, 9999)]) rfl rfl rfl ⟨_, _, rfl⟩ (Nat.le_of_ble_eq_true rfl) trivial H (fun r1 M2 hr H => ?_)
      obtain ⟨g3, H⟩ := H
      refine x_iadd (zdm d_Md_qPartTold_2 21 rfl) g3 ?_
      exact zX.sub [1] rfl H
    · have H := H.2 c
      refine x_bipush (zdm d_Md_qPartTold_2 12 rfl) (by decide) ?_
      refine x_iload_n (zdm d_Md_qPartTold_2 13 rfl) rfl (n := 0) rfl ?_
      obtain ⟨g4, H⟩ := H
      refine x_iadd (zdm d_Md_qPartTold_2 14 rfl) g4 ?_
      refine x_goto (tgt := 271) (zdm d_Md_qPartTold_2 15 rfl) (by decide) ?_
      exact zX.sub [1] rfl H
  · have H := H.2 c
    refine x_bipush (zdm d_Md_qPartTold_2 5 rfl) (by decide) ?_
    refine x_iload_n (zdm d_Md_qPartTold_2 6 rfl) rfl (n := 2) rfl ?_
    obtain ⟨g5, H⟩ := H
    refine x_iadd (zdm d_Md_qPartTold_2 7 rfl) g5 ?_
    refine x_goto (tgt := 271) (zdm d_Md_qPartTold_2 8 rfl) (by decide) ?_
    exact zX.sub [1] rfl H
set_option maxRecDepth 20000 in
set_option maxHeartbeats 4000000 in
theorem B_Md_qPartTold_212 {G : zG} {h sl : Nat} (hsl : 2 ≤ sl) {u : Nat × Nat × Nat × Nat} {l2 : Int} {M : zM} {Q : Int → zM → Prop} (H : (¬ l2 = (-1) → zX G (y_Md_qPartTold, h + 1, sl) u 233 [(0, (2, 125)), (2, (0, l2))] [(0, (-1))] M Q) ∧ (¬ (¬ l2 = (-1)) → (2 ≤ (M 125 50) → zX G (y_Md_qPartTold, h + 1, sl) u 233 [(0, (2, 125)), (2, (0, l2))] [(0, (-1))] M Q) ∧ (¬ 2 ≤ (M 125 50) → zCt G h sl 0 0 y_Md_columnHere [(2, 125)] M (fun r1 M2 => zX G (y_Md_qPartTold, h + 1, sl) u 233 [(0, (2, 125)), (2, (0, l2))] [(0, r1)] M2 Q)))) : zX G (y_Md_qPartTold, h + 1, sl) u 212 [(0, (2, 125)), (2, (0, l2))] [] M Q := by
  refine x_iload_n (zdm d_Md_qPartTold_1 49 rfl) rfl (n := 1) rfl ?_
  refine x_iconst (zdm d_Md_qPartTold_1 50 rfl) (zIl rfl) ?_
  refine x_icmpne (tgt := 232) (zdm d_Md_qPartTold_1 51 rfl) (by decide) (fun c => ?_) (fun c => ?_)
  · have H := H.1 c
    refine x_iconst (zdm d_Md_qPartTold_1 59 rfl) (zIl rfl) ?_
    exact H
  · have H := H.2 c
    refine x_aload_n (zdm d_Md_qPartTold_1 52 rfl) rfl (n := 0) rfl ?_
    refine x_getf (zdm d_Md_qPartTold_1 53 rfl) f_Md_295 rfl rfl ?_
    refine x_iconst (zdm d_Md_qPartTold_1 54 rfl) (zIl rfl) ?_
    refine x_icmpge (tgt := 232) (zdm d_Md_qPartTold_1 55 rfl) (by decide) (fun c => ?_) (fun c => ?_)
    · have H := H.1 c
      refine x_iconst (zdm d_Md_qPartTold_1 59 rfl) (zIl rfl) ?_
      exact H
    · have H := H.2 c
      refine x_aload_n (zdm d_Md_qPartTold_1 56 rfl) rfl (n := 0) rfl ?_
      refine x_callVi (n := 0) (ci := 11) (zdm d_Md_qPartTold_1 57 rfl) k_Md_572 (As := []) rfl rfl rfl ⟨_, _, rfl⟩ (Nat.le_of_ble_eq_true rfl) trivial H (fun r1 M2 hr H => ?_)
      refine x_goto (tgt := 233) (zdm d_Md_qPartTold_1 58 rfl) (by decide) ?_
      exact H
set_option maxRecDepth 20000 in
set_option maxHeartbeats 4000000 in
theorem B_Md_qPartTold_186 {G : zG} {h sl : Nat} (hsl : 2 ≤ sl) {u : Nat × Nat × Nat × Nat} {M : zM} {Q : Int → zM → Prop} (H : ((M 125 5) = 0 → zCt G h sl 0 0 y_Md_qWordOf [(2, 125), (0, 0), (0, 6)] M (fun r1 M2 => (r1 = (-1) → zX G (y_Md_qPartTold, h + 1, sl) u 212 [(0, (2, 125)), (2, (0, r1))] [] M2 Q) ∧ (¬ r1 = (-1) → zCt G h sl 0 0 y_Md_qAsksWord [(2, 125), (0, r1)] M2 (fun r3 M4 => zX G (y_Md_qPartTold, h + 1, sl) u 212 [(0, (2, 125)), (2, (0, r1))] [] M4 Q)))) ∧ (¬ (M 125 5) = 0 → Q 0 M)) : zX G (y_Md_qPartTold, h + 1, sl) u 186 [(0, (2, 125))] [] M Q := by
  refine x_aload_n (zdm d_Md_qPartTold_1 34 rfl) rfl (n := 0) rfl ?_
  refine x_getf (zdm d_Md_qPartTold_1 35 rfl) f_Md_237 rfl rfl ?_
  refine x_ifeq (tgt := 194) (zdm d_Md_qPartTold_1 36 rfl) (by decide) (fun c => ?_) (fun c => ?_)
  · have H := H.1 c
    refine x_aload_n (zdm d_Md_qPartTold_1 38 rfl) rfl (n := 0) rfl ?_
    refine x_iconst (zdm d_Md_qPartTold_1 39 rfl) (zIl rfl) ?_
    refine x_bipush (zdm d_Md_qPartTold_1 40 rfl) (by decide) ?_
    refine x_callVi (n := 2) (ci := 11) (zdm d_Md_qPartTold_1 41 rfl) k_Md_563 (As := [(0, 0), (0, 6)]) rfl rfl rfl ⟨_, _, rfl⟩ (Nat.le_of_ble_eq_true rfl) trivial H (fun r1 M2 hr H => ?_)
    refine x_istore_n (zdm d_Md_qPartTold_1 42 rfl) rfl (zlt rfl) rfl ?_
    refine x_iload_n (zdm d_Md_qPartTold_1 43 rfl) rfl (n := 0) rfl ?_
    refine x_iconst (zdm d_Md_qPartTold_1 44 rfl) (zIl rfl) ?_
    refine x_icmpeq (tgt := 212) (zdm d_Md_qPartTold_1 45 rfl) (by decide) (fun c => ?_) (fun c => ?_)
    · have H := H.1 c
      exact zX.sub [1, 0] rfl H
    · have H := H.2 c
      refine x_aload_n (zdm d_Md_qPartTold_1 46 rfl) rfl (n := 1) rfl ?_
      refine x_iload_n (zdm d_Md_qPartTold_1 47 rfl) rfl (n := 0) rfl ?_
      refine x_callVv (n := 1) (ci := 11) (zdm d_Md_qPartTold_1 48 rfl) k_Md_569 (As := [(0, r1)]) rfl rfl rfl ⟨_, _, rfl⟩ (Nat.le_of_ble_eq_true rfl) rfl H (fun r3 M4 hr H => ?_)
      exact zX.sub [1, 0] rfl H
  · have H := H.2 c
    exact x_return (zdm d_Md_qPartTold_1 37 rfl) rfl H
set_option maxRecDepth 20000 in
set_option maxHeartbeats 4000000 in
theorem B_Md_qPartTold_144 {G : zG} {h sl : Nat} (hsl : 2 ≤ sl) {u : Nat × Nat × Nat × Nat} {l1 : Int} {M : zM} {Q : Int → zM → Prop} (H : zCt G h sl 0 0 y_Md_asksSign [(2, 125), (0, 40)] M (fun r1 M2 => zX G (y_Md_qPartTold, h + 1, sl) u 2 [(0, (2, 125)), (1, (0, l1))] [] M2 Q)) : zX G (y_Md_qPartTold, h + 1, sl) u 144 [(0, (2, 125)), (1, (0, l1))] [] M Q := by
  refine x_aload_n (zdm d_Md_qPartTold_1 11 rfl) rfl (n := 0) rfl ?_
  refine x_bipush (zdm d_Md_qPartTold_1 12 rfl) (by decide) ?_
  refine x_callVv (n := 1) (ci := 11) (zdm d_Md_qPartTold_1 13 rfl) k_Md_358 (As := [(0, 40)]) rfl rfl rfl ⟨_, _, rfl⟩ (Nat.le_of_ble_eq_true rfl) rfl H (fun r1 M2 hr H => ?_)
  refine x_goto (tgt := 183) (zdm d_Md_qPartTold_1 14 rfl) (by decide) ?_
  refine x_goto (tgt := 2) (zdm d_Md_qPartTold_1 33 rfl) (by decide) ?_
  exact H
set_option maxRecDepth 20000 in
set_option maxHeartbeats 4000000 in
theorem B_Md_qPartTold_139 {G : zG} {h sl : Nat} (hsl : 2 ≤ sl) {u : Nat × Nat × Nat × Nat} {l1 l5 s0 : Int} {M : zM} {Q : Int → zM → Prop} (H : zCt G h sl 0 0 y_Md_qOpens [(2, 125), (0, s0), (0, l5)] M (fun r1 M2 => zX G (y_Md_qPartTold, h + 1, sl) u 144 [(0, (2, 125)), (1, (0, l1))] [] M2 Q)) : zX G (y_Md_qPartTold, h + 1, sl) u 139 [(0, (2, 125)), (1, (0, l1)), (5, (0, l5))] [(0, s0), (2, 125)] M Q := by
  refine x_iload (zdm d_Md_qPartTold_1 9 rfl) (n := 2) rfl ?_
  refine x_callVv (n := 2) (ci := 11) (zdm d_Md_qPartTold_1 10 rfl) k_Md_566 (As := [(0, s0), (0, l5)]) rfl rfl rfl ⟨_, _, rfl⟩ (Nat.le_of_ble_eq_true rfl) rfl H (fun r1 M2 hr H => ?_)
  exact zX.sub [0, 1] rfl H
set_option maxRecDepth 20000 in
set_option maxHeartbeats 4000000 in
theorem B_Md_qPartTold_118 {G : zG} {h sl : Nat} (hsl : 2 ≤ sl) {u : Nat × Nat × Nat × Nat} {l1 l4 s0 : Int} {M : zM} {Q : Int → zM → Prop} (H : (s0 = (-1) → zX G (y_Md_qPartTold, h + 1, sl) u 144 [(0, (2, 125)), (1, (0, l1))] [] M Q) ∧ (¬ s0 = (-1) → (l4 = 0 → zX G (y_Md_qPartTold, h + 1, sl) u 139 [(0, (2, 125)), (1, (0, l1)), (5, (0, s0))] [(0, 22), (2, 125)] M Q) ∧ (¬ l4 = 0 → zX G (y_Md_qPartTold, h + 1, sl) u 139 [(0, (2, 125)), (1, (0, l1)), (5, (0, s0))] [(0, 21), (2, 125)] M Q))) : zX G (y_Md_qPartTold, h + 1, sl) u 118 [(0, (2, 125)), (1, (0, l1)), (4, (0, l4))] [(0, s0)] M Q := by
  refine x_istore (zdm d_Md_qPartTold_0 59 rfl) (zlt rfl) rfl ?_
  refine x_iload (zdm d_Md_qPartTold_1 0 rfl) (n := 0) rfl ?_
  refine x_iconst (zdm d_Md_qPartTold_1 1 rfl) (zIl rfl) ?_
  refine x_icmpeq (tgt := 144) (zdm d_Md_qPartTold_1 2 rfl) (by decide) (fun c => ?_) (fun c => ?_)
  · have H := H.1 c
    exact zX.sub [1, 2] rfl H
  · have H := H.2 c
    refine x_aload_n (zdm d_Md_qPartTold_1 3 rfl) rfl (n := 1) rfl ?_
    refine x_iload (zdm d_Md_qPartTold_1 4 rfl) (n := 3) rfl ?_
    refine x_ifeq (tgt := 137) (zdm d_Md_qPartTold_1 5 rfl) (by decide) (fun c => ?_) (fun c => ?_)
    · have H := H.1 c
      refine x_bipush (zdm d_Md_qPartTold_1 8 rfl) (by decide) ?_
      exact zX.sub [1, 2, 0] rfl H
    · have H := H.2 c
      refine x_bipush (zdm d_Md_qPartTold_1 6 rfl) (by decide) ?_
      refine x_goto (tgt := 139) (zdm d_Md_qPartTold_1 7 rfl) (by decide) ?_
      exact zX.sub [1, 2, 0] rfl H
set_option maxRecDepth 20000 in
set_option maxHeartbeats 4000000 in
theorem B_Md_qPartTold_101 {G : zG} {h sl : Nat} (hsl : 2 ≤ sl) {u : Nat × Nat × Nat × Nat} {l1 l4 : Int} {M : zM} {Q : Int → zM → Prop} (H : zCt G h sl 0 0 y_Md_look [(2, 125)] M (fun r1 M2 => (¬ r1 = 40 → zX G (y_Md_qPartTold, h + 1, sl) u 118 [(0, (2, 125)), (1, (0, l1)), (4, (0, l4))] [(0, (-1))] M2 Q) ∧ (¬ (¬ r1 = 40) → zX G (y_Md_qPartTold, h + 1, sl) u 118 [(0, (2, 125)), (1, (0, l1)), (4, (0, l4))] [(0, (M2 125 2))] M2 Q))) : zX G (y_Md_qPartTold, h + 1, sl) u 101 [(0, (2, 125)), (1, (0, l1)), (4, (0, l4))] [] M Q := by
  refine x_aload_n (zdm d_Md_qPartTold_0 51 rfl) rfl (n := 0) rfl ?_
  refine x_callVi (n := 0) (ci := 11) (zdm d_Md_qPartTold_0 52 rfl) k_Md_249 (As := []) rfl rfl rfl ⟨_, _, rfl⟩ (Nat.le_of_ble_eq_true rfl) trivial H (fun r1 M2 hr H => ?_)
  refine x_bipush (zdm d_Md_qPartTold_0 53 rfl) (by decide) ?_
  refine x_icmpne (tgt := 117) (zdm d_Md_qPartTold_0 54 rfl) (by decide) (fun c => ?_) (fun c => ?_)
  · have H := H.1 c
    refine x_iconst (zdm d_Md_qPartTold_0 58 rfl) (zIl rfl) ?_
    exact H
  · have H := H.2 c
    refine x_aload_n (zdm d_Md_qPartTold_0 55 rfl) rfl (n := 0) rfl ?_
    refine x_getf (zdm d_Md_qPartTold_0 56 rfl) f_Md_243 rfl rfl ?_
    refine x_goto (tgt := 118) (zdm d_Md_qPartTold_0 57 rfl) (by decide) ?_
    exact H
set_option maxRecDepth 20000 in
set_option maxHeartbeats 4000000 in
theorem B_Md_qPartTold_78 {G : zG} {h sl : Nat} (hsl : 2 ≤ sl) {u : Nat × Nat × Nat × Nat} {l1 : Int} {M : zM} {Q : Int → zM → Prop} (H : zCt G h sl 0 0 y_Md_takes [(2, 125), (2, 183)] M (fun r1 M2 => (¬ r1 = 0 → zX G (y_Md_qPartTold, h + 1, sl) u 101 [(0, (2, 125)), (1, (0, l1)), (4, (0, r1))] [] M2 Q) ∧ (¬ (¬ r1 = 0) → zCt G h sl 0 0 y_Md_asks [(2, 125), (2, 184)] M2 (fun r4 M5 => zX G (y_Md_qPartTold, h + 1, sl) u 101 [(0, (2, 125)), (1, (0, l1)), (4, (0, r1))] [] M5 Q)))) : zX G (y_Md_qPartTold, h + 1, sl) u 78 [(0, (2, 125)), (1, (0, l1))] [] M Q := by
  refine x_aload_n (zdm d_Md_qPartTold_0 40 rfl) rfl (n := 0) rfl ?_
  refine x_aload_n (zdm d_Md_qPartTold_0 41 rfl) rfl (n := 0) rfl ?_
  refine x_getG (zdm d_Md_qPartTold_0 42 rfl) f_Md_192 rfl rfl (by decide) hsl rfl ?_
  refine x_callVi (n := 1) (ci := 11) (zdm d_Md_qPartTold_0 43 rfl) k_Md_264 (As := [(2, 183)]) rfl rfl rfl ⟨_, _, rfl⟩ (Nat.le_of_ble_eq_true rfl) trivial H (fun r1 M2 hr H => ?_)
  have b3 : r1 = 0 ∨ r1 = 1 := hr
  refine x_istore (zdm d_Md_qPartTold_0 44 rfl) (zlt rfl) rfl ?_
  refine x_iload (zdm d_Md_qPartTold_0 45 rfl) (n := 0) rfl ?_
  refine x_ifne (tgt := 101) (zdm d_Md_qPartTold_0 46 rfl) (by decide) (fun c => ?_) (fun c => ?_)
  · have H := H.1 c
    exact zX.sub [1, 2, 0] rfl H
  · have H := H.2 c
    refine x_aload_n (zdm d_Md_qPartTold_0 47 rfl) rfl (n := 1) rfl ?_
    refine x_aload_n (zdm d_Md_qPartTold_0 48 rfl) rfl (n := 1) rfl ?_
    refine x_getG (zdm d_Md_qPartTold_0 49 rfl) f_Md_195 rfl rfl (by decide) hsl rfl ?_
    refine x_callVv (n := 1) (ci := 11) (zdm d_Md_qPartTold_0 50 rfl) k_Md_302 (As := [(2, 184)]) rfl rfl rfl ⟨_, _, rfl⟩ (Nat.le_of_ble_eq_true rfl) rfl H (fun r4 M5 hr H => ?_)
    exact zX.sub [1, 2, 0] rfl H
set_option maxRecDepth 20000 in
set_option maxHeartbeats 4000000 in
theorem B_Md_qPartTold_2 {G : zG} {h sl : Nat} (hsl : 2 ≤ sl) {u : Nat × Nat × Nat × Nat} {l1 : Int} {M : zM} {Q : Int → zM → Prop} (H : (l1 = 0 → zX G (y_Md_qPartTold, h + 1, sl) u 186 [(0, (2, 125))] [] M Q) ∧ (¬ l1 = 0 → (¬ (M 125 5) = 0 → zX G (y_Md_qPartTold, h + 1, sl) u 186 [(0, (2, 125))] [] M Q) ∧ (¬ (¬ (M 125 5) = 0) → zCt G h sl 0 0 y_Md_look [(2, 125)] M (fun r1 M2 => zCt G h sl 0 0 y_Md_qWordOf [(2, 125), (0, 6), (0, 8)] M2 (fun r3 M4 => (¬ r1 = 40 → zCt G h sl 0 0 y_Md_isHere [(2, 125), (2, 183)] M4 (fun r5 M6 => (¬ r5 = 0 → zX G (y_Md_qPartTold, h + 1, sl) u 78 [(0, (2, 125)), (1, (0, l1))] [] M6 Q) ∧ (¬ (¬ r5 = 0) → zCt G h sl 0 0 y_Md_isHere [(2, 125), (2, 184)] M6 (fun r8 M9 => (r8 = 0 → (r3 = (-1) → zX G (y_Md_qPartTold, h + 1, sl) u 2 [(0, (2, 125)), (1, (0, 0))] [] M9 Q) ∧ (¬ r3 = (-1) → (zI (60 + r3)) ∧ ((zI ((60 + r3) - 6)) ∧ (zCt G h sl 0 0 y_Md_qOpens [(2, 125), (0, ((60 + r3) - 6)), (0, (M9 125 2))] M9 (fun r13 M14 => zCt G h sl 0 0 y_Md_qAsksWord [(2, 125), (0, r3)] M14 (fun r15 M16 => zX G (y_Md_qPartTold, h + 1, sl) u 2 [(0, (2, 125)), (1, (0, l1))] [] M16 Q)))))) ∧ (¬ r8 = 0 → zX G (y_Md_qPartTold, h + 1, sl) u 78 [(0, (2, 125)), (1, (0, l1))] [] M9 Q))))) ∧ (¬ (¬ r1 = 40) → zCt G h sl 0 0 y_Md_qOpens [(2, 125), (0, 20), (0, (M4 125 2))] M4 (fun r17 M18 => (zI ((M18 125 2) + 1)) ∧ (zX G (y_Md_qPartTold, h + 1, sl) u 2 [(0, (2, 125)), (1, (0, l1))] [] (zwr M18 125 2 ((M18 125 2) + 1)) Q)))))))) : zX G (y_Md_qPartTold, h + 1, sl) u 2 [(0, (2, 125)), (1, (0, l1))] [] M Q := by
  refine x_iload_n (zdm d_Md_qPartTold_0 2 rfl) rfl (n := 1) rfl ?_
  refine x_ifeq (tgt := 186) (zdm d_Md_qPartTold_0 3 rfl) (by decide) (fun c => ?_) (fun c => ?_)
  · have H := H.1 c
    exact zX.sub [0] rfl H
  · have H := H.2 c
    refine x_aload_n (zdm d_Md_qPartTold_0 4 rfl) rfl (n := 0) rfl ?_
    refine x_getf (zdm d_Md_qPartTold_0 5 rfl) f_Md_237 rfl rfl ?_
    refine x_ifne (tgt := 186) (zdm d_Md_qPartTold_0 6 rfl) (by decide) (fun c => ?_) (fun c => ?_)
    · have H := H.1 c
      exact zX.sub [0] rfl H
    · have H := H.2 c
      refine x_aload_n (zdm d_Md_qPartTold_0 7 rfl) rfl (n := 0) rfl ?_
      refine x_callVi (n := 0) (ci := 11) (zdm d_Md_qPartTold_0 8 rfl) k_Md_249 (As := []) rfl rfl rfl ⟨_, _, rfl⟩ (Nat.le_of_ble_eq_true rfl) trivial H (fun r1 M2 hr H => ?_)
      refine x_istore_n (zdm d_Md_qPartTold_0 9 rfl) rfl (zlt rfl) rfl ?_
      refine x_aload_n (zdm d_Md_qPartTold_0 10 rfl) rfl (n := 1) rfl ?_
      refine x_bipush (zdm d_Md_qPartTold_0 11 rfl) (by decide) ?_
      refine x_bipush (zdm d_Md_qPartTold_0 12 rfl) (by decide) ?_
      refine x_callVi (n := 2) (ci := 11) (zdm d_Md_qPartTold_0 13 rfl) k_Md_563 (As := [(0, 6), (0, 8)]) rfl rfl rfl ⟨_, _, rfl⟩ (Nat.le_of_ble_eq_true rfl) trivial H (fun r3 M4 hr H => ?_)
      refine x_istore_n (zdm d_Md_qPartTold_0 14 rfl) rfl (zlt rfl) rfl ?_
      refine x_iload_n (zdm d_Md_qPartTold_0 15 rfl) rfl (n := 1) rfl ?_
      refine x_bipush (zdm d_Md_qPartTold_0 16 rfl) (by decide) ?_
      refine x_icmpne (tgt := 56) (zdm d_Md_qPartTold_0 17 rfl) (by decide) (fun c => ?_) (fun c => ?_)
      · have H := H.1 c
        refine x_aload_n (zdm d_Md_qPartTold_0 30 rfl) rfl (n := 2) rfl ?_
        refine x_aload_n (zdm d_Md_qPartTold_0 31 rfl) rfl (n := 2) rfl ?_
        refine x_getG (zdm d_Md_qPartTold_0 32 rfl) f_Md_192 rfl rfl (by decide) hsl rfl ?_
        refine x_callVi (n := 1) (ci := 11) (zdm d_Md_qPartTold_0 33 rfl) k_Md_260 (As := [(2, 183)]) rfl rfl rfl ⟨_, _, rfl⟩ (Nat.le_of_ble_eq_true rfl) trivial H (fun r5 M6 hr H => ?_)
        have b7 : r5 = 0 ∨ r5 = 1 := hr
        refine x_ifne (tgt := 78) (zdm d_Md_qPartTold_0 34 rfl) (by decide) (fun c => ?_) (fun c => ?_)
        · have H := H.1 c
          exact zX.sub [2, 3] rfl H
        · have H := H.2 c
          refine x_aload_n (zdm d_Md_qPartTold_0 35 rfl) rfl (n := 2) rfl ?_
          refine x_aload_n (zdm d_Md_qPartTold_0 36 rfl) rfl (n := 2) rfl ?_
          refine x_getG (zdm d_Md_qPartTold_0 37 rfl) f_Md_195 rfl rfl (by decide) hsl rfl ?_
          refine x_callVi (n := 1) (ci := 11) (zdm d_Md_qPartTold_0 38 rfl) k_Md_260 (As := [(2, 184)]) rfl rfl rfl ⟨_, _, rfl⟩ (Nat.le_of_ble_eq_true rfl) trivial H (fun r8 M9 hr H => ?_)
          have b10 : r8 = 0 ∨ r8 = 1 := hr
          refine x_ifeq (tgt := 153) (zdm d_Md_qPartTold_0 39 rfl) (by decide) (fun c => ?_) (fun c => ?_)
          · have H := H.1 c
            refine x_iload_n (zdm d_Md_qPartTold_1 15 rfl) rfl (n := 0) rfl ?_
            refine x_iconst (zdm d_Md_qPartTold_1 16 rfl) (zIl rfl) ?_
            refine x_icmpeq (tgt := 181) (zdm d_Md_qPartTold_1 17 rfl) (by decide) (fun c => ?_) (fun c => ?_)
            · have H := H.1 c
              refine x_iconst (zdm d_Md_qPartTold_1 31 rfl) (zIl rfl) ?_
              refine x_istore_n (zdm d_Md_qPartTold_1 32 rfl) rfl (zlt rfl) rfl ?_
              refine x_goto (tgt := 2) (zdm d_Md_qPartTold_1 33 rfl) (by decide) ?_
              exact zX.sub [3, 0] rfl H
            · have H := H.2 c
              refine x_aload_n (zdm d_Md_qPartTold_1 18 rfl) rfl (n := 2) rfl ?_
              refine x_bipush (zdm d_Md_qPartTold_1 19 rfl) (by decide) ?_
              refine x_iload_n (zdm d_Md_qPartTold_1 20 rfl) rfl (n := 0) rfl ?_
              obtain ⟨g11, H⟩ := H
              refine x_iadd (zdm d_Md_qPartTold_1 21 rfl) g11 ?_
              refine x_bipush (zdm d_Md_qPartTold_1 22 rfl) (by decide) ?_
              obtain ⟨g12, H⟩ := H
              refine x_isub (zdm d_Md_qPartTold_1 23 rfl) g12 ?_
              refine x_aload_n (zdm d_Md_qPartTold_1 24 rfl) rfl (n := 2) rfl ?_
              refine x_getf (zdm d_Md_qPartTold_1 25 rfl) f_Md_243 rfl rfl ?_
              refine x_callVv (n := 2) (ci := 11) (zdm d_Md_qPartTold_1 26 rfl) k_Md_566 (As := [(0, ((60 + r3) - 6)), (0, (M9 125 2))]) rfl rfl rfl ⟨_, _, rfl⟩ (Nat.le_of_ble_eq_true rfl) rfl H (fun r13 M14 hr H => ?_)
              refine x_aload_n (zdm d_Md_qPartTold_1 27 rfl) rfl (n := 2) rfl ?_
              refine x_iload_n (zdm d_Md_qPartTold_1 28 rfl) rfl (n := 0) rfl ?_
              refine x_callVv (n := 1) (ci := 11) (zdm d_Md_qPartTold_1 29 rfl) k_Md_569 (As := [(0, r3)]) rfl rfl rfl ⟨_, _, rfl⟩ (Nat.le_of_ble_eq_true rfl) rfl H (fun r15 M16 hr H => ?_)
              refine x_goto (tgt := 183) (zdm d_Md_qPartTold_1 30 rfl) (by decide) ?_
              refine x_goto (tgt := 2) (zdm d_Md_qPartTold_1 33 rfl) (by decide) ?_
              exact zX.sub [2, 3] rfl H
          · have H := H.2 c
            exact zX.sub [2, 3] rfl H
      · have H := H.2 c
        refine x_aload_n (zdm d_Md_qPartTold_0 18 rfl) rfl (n := 2) rfl ?_
        refine x_bipush (zdm d_Md_qPartTold_0 19 rfl) (by decide) ?_
        refine x_aload_n (zdm d_Md_qPartTold_0 20 rfl) rfl (n := 2) rfl ?_
        refine x_getf (zdm d_Md_qPartTold_0 21 rfl) f_Md_243 rfl rfl ?_
        refine x_callVv (n := 2) (ci := 11) (zdm d_Md_qPartTold_0 22 rfl) k_Md_566 (As := [(0, 20), (0, (M4 125 2))]) rfl rfl rfl ⟨_, _, rfl⟩ (Nat.le_of_ble_eq_true rfl) rfl H (fun r17 M18 hr H => ?_)
        refine x_aload_n (zdm d_Md_qPartTold_0 23 rfl) rfl (n := 2) rfl ?_
        refine x_dup (zdm d_Md_qPartTold_0 24 rfl) z2n1 ?_
        refine x_getf (zdm d_Md_qPartTold_0 25 rfl) f_Md_243 rfl rfl ?_
        refine x_iconst (zdm d_Md_qPartTold_0 26 rfl) (zIl rfl) ?_
        obtain ⟨g19, H⟩ := H
        refine x_iadd (zdm d_Md_qPartTold_0 27 rfl) g19 ?_
        refine x_putf (zdm d_Md_qPartTold_0 28 rfl) f_Md_243 rfl ⟨rfl, trivial⟩ (Or.inl rfl) ?_
        refine x_goto (tgt := 183) (zdm d_Md_qPartTold_0 29 rfl) (by decide) ?_
        refine x_goto (tgt := 2) (zdm d_Md_qPartTold_1 33 rfl) (by decide) ?_
        exact zX.sub [2, 3] rfl H
set_option maxRecDepth 20000 in
set_option maxHeartbeats 4000000 in
theorem E_Md_qPartTold {G : zG} {h sl : Nat} (hsl : 2 ≤ sl) {M : zM} {Q : Int → zM → Prop} (H : zX G (y_Md_qPartTold, h + 1, sl) (0, 0, 0, 0) 2 [(0, (2, 125)), (1, (0, 1))] [] M Q) : zCt G (h + 1) sl 0 0 y_Md_qPartTold [(2, 125)] M Q := by
  refine zCt.of (by decide +kernel) (Nat.le_of_ble_eq_true rfl) ?_
  refine x_iconst (zdm d_Md_qPartTold_0 0 rfl) (zIl rfl) ?_
  refine x_istore_n (zdm d_Md_qPartTold_0 1 rfl) rfl (zlt rfl) rfl ?_
  exact zX.sub [1, 0] rfl H
set_option maxRecDepth 20000 in
set_option maxHeartbeats 4000000 in
theorem B_Md_qGoesOn_326 {G : zG} {h sl : Nat} (hsl : 2 ≤ sl) {u : Nat × Nat × Nat × Nat} {M : zM} {Q : Int → zM → Prop} (H : zCt G h sl 0 0 y_Md_asksSign [(2, 125), (0, 44)] M (fun r1 M2 => ((M2 125 5) = 0 → zCt G h sl 0 0 y_Md_qDropsToBracket [(2, 125)] M2 (fun r3 M4 => (zI ((M4 125 92) - 1)) ∧ ((0 ≤ ((M4 125 92) - 1) ∧ ((M4 125 92) - 1) < 1700) ∧ ((zI ((M4 194 ((M4 125 92) - 1)) + 2)) ∧ (Q 1 (zwr M4 194 ((M4 125 92) - 1) ((M4 194 ((M4 125 92) - 1)) + 2))))))) ∧ (¬ (M2 125 5) = 0 → Q 0 M2))) : zX G (y_Md_qGoesOn, h + 1, sl) u 326 [(0, (2, 125))] [] M Q := by
  refine x_aload_n (zdm d_Md_qGoesOn_2 49 rfl) rfl (n := 0) rfl ?_
  refine x_bipush (zdm d_Md_qGoesOn_2 50 rfl) (by decide) ?_
  refine x_callVv (n := 1) (ci := 11) (zdm d_Md_qGoesOn_2 51 rfl) k_Md_358 (As := [(0, 44)]) rfl rfl rfl ⟨_, _, rfl⟩ (Nat.le_of_ble_eq_true rfl) rfl H (fun r1 M2 hr H => ?_)
  refine x_aload_n (zdm d_Md_qGoesOn_2 52 rfl) rfl (n := 0) rfl ?_
  refine x_getf (zdm d_Md_qGoesOn_2 53 rfl) f_Md_237 rfl rfl ?_
  refine x_ifeq (tgt := 341) (zdm d_Md_qGoesOn_2 54 rfl) (by decide) (fun c => ?_) (fun c => ?_)
  · have H := H.1 c
    refine x_aload_n (zdm d_Md_qGoesOn_2 57 rfl) rfl (n := 0) rfl ?_
    refine x_callVv (n := 0) (ci := 11) (zdm d_Md_qGoesOn_2 58 rfl) k_Md_581 (As := []) rfl rfl rfl ⟨_, _, rfl⟩ (Nat.le_of_ble_eq_true rfl) rfl H (fun r3 M4 hr H => ?_)
    refine x_aload_n (zdm d_Md_qGoesOn_2 59 rfl) rfl (n := 0) rfl ?_
    refine x_getG (zdm d_Md_qGoesOn_3 0 rfl) f_Md_225 rfl rfl (by decide) hsl rfl ?_
    refine x_aload_n (zdm d_Md_qGoesOn_3 1 rfl) rfl (n := 0) rfl ?_
    refine x_getf (zdm d_Md_qGoesOn_3 2 rfl) f_Md_319 rfl rfl ?_
    refine x_iconst (zdm d_Md_qGoesOn_3 3 rfl) (zIl rfl) ?_
    obtain ⟨g5, H⟩ := H
    refine x_isub (zdm d_Md_qGoesOn_3 4 rfl) g5 ?_
    refine x_dup2 (zdm d_Md_qGoesOn_3 5 rfl) z0n1 z2n1 ?_
    obtain ⟨g6, H⟩ := H
    refine x_iald (zdm d_Md_qGoesOn_3 6 rfl) rfl g6 ?_
    refine x_iconst (zdm d_Md_qGoesOn_3 7 rfl) (zIl rfl) ?_
    obtain ⟨g7, H⟩ := H
    refine x_iadd (zdm d_Md_qGoesOn_3 8 rfl) g7 ?_
    refine x_iast (zdm d_Md_qGoesOn_3 9 rfl) rfl g6 ?_
    refine x_iconst (zdm d_Md_qGoesOn_3 10 rfl) (zIl rfl) ?_
    exact x_ireturn (zdm d_Md_qGoesOn_3 11 rfl) (ty := .boolean) rfl (by decide) (Or.inr rfl) H
  · have H := H.2 c
    refine x_iconst (zdm d_Md_qGoesOn_2 55 rfl) (zIl rfl) ?_
    exact x_ireturn (zdm d_Md_qGoesOn_2 56 rfl) (ty := .boolean) rfl (by decide) (Or.inl rfl) H
set_option maxRecDepth 20000 in
set_option maxHeartbeats 4000000 in
theorem B_Md_qGoesOn_279 {G : zG} {h sl : Nat} (hsl : 2 ≤ sl) {u : Nat × Nat × Nat × Nat} {l1 : Int} {M : zM} {Q : Int → zM → Prop} (H : zCt G h sl 0 0 y_Md_qDrops [(2, 125)] M (fun r1 M2 => zX G (y_Md_qGoesOn, h + 1, sl) u 247 [(0, (2, 125)), (1, (0, l1))] [] M2 Q)) : zX G (y_Md_qGoesOn, h + 1, sl) u 279 [(0, (2, 125)), (1, (0, l1))] [] M Q := by
  refine x_aload_n (zdm d_Md_qGoesOn_2 24 rfl) rfl (n := 0) rfl ?_
  refine x_callVv (n := 0) (ci := 11) (zdm d_Md_qGoesOn_2 25 rfl) k_Md_554 (As := []) rfl rfl rfl ⟨_, _, rfl⟩ (Nat.le_of_ble_eq_true rfl) rfl H (fun r1 M2 hr H => ?_)
  refine x_goto (tgt := 247) (zdm d_Md_qGoesOn_2 26 rfl) (by decide) ?_
  exact H
set_option maxRecDepth 20000 in
set_option maxHeartbeats 4000000 in
theorem B_Md_qGoesOn_247 {G : zG} {h sl : Nat} (hsl : 2 ≤ sl) {u : Nat × Nat × Nat × Nat} {l1 : Int} {M : zM} {Q : Int → zM → Prop} (H : zCt G h sl 0 0 y_Md_qIsOn [(2, 125), (0, 3)] M (fun r1 M2 => (¬ r1 = 0 → zX G (y_Md_qGoesOn, h + 1, sl) u 279 [(0, (2, 125)), (1, (0, l1))] [] M2 Q) ∧ (¬ (¬ r1 = 0) → zCt G h sl 0 0 y_Md_qIsOn [(2, 125), (0, 4)] M2 (fun r4 M5 => (¬ r4 = 0 → zX G (y_Md_qGoesOn, h + 1, sl) u 279 [(0, (2, 125)), (1, (0, l1))] [] M5 Q) ∧ (¬ (¬ r4 = 0) → zCt G h sl 0 0 y_Md_qIsOn [(2, 125), (0, 1)] M5 (fun r7 M8 => (¬ r7 = 0 → zX G (y_Md_qGoesOn, h + 1, sl) u 279 [(0, (2, 125)), (1, (0, l1))] [] M8 Q) ∧ (¬ (¬ r7 = 0) → zCt G h sl 0 0 y_Md_qIsOn [(2, 125), (0, 2)] M8 (fun r10 M11 => (r10 = 0 → (0 ≤ (M11 125 92) ∧ (M11 125 92) < 1700) ∧ ((zI (((zwr M11 194 (M11 125 92) l1) 125 92) + 1)) ∧ (Q 1 (zwr (zwr M11 194 (M11 125 92) l1) 125 92 (((zwr M11 194 (M11 125 92) l1) 125 92) + 1))))) ∧ (¬ r10 = 0 → zX G (y_Md_qGoesOn, h + 1, sl) u 279 [(0, (2, 125)), (1, (0, l1))] [] M11 Q))))))))) : zX G (y_Md_qGoesOn, h + 1, sl) u 247 [(0, (2, 125)), (1, (0, l1))] [] M Q := by
  refine x_aload_n (zdm d_Md_qGoesOn_2 8 rfl) rfl (n := 0) rfl ?_
  refine x_iconst (zdm d_Md_qGoesOn_2 9 rfl) (zIl rfl) ?_
  refine x_callVi (n := 1) (ci := 11) (zdm d_Md_qGoesOn_2 10 rfl) k_Md_584 (As := [(0, 3)]) rfl rfl rfl ⟨_, _, rfl⟩ (Nat.le_of_ble_eq_true rfl) trivial H (fun r1 M2 hr H => ?_)
  have b3 : r1 = 0 ∨ r1 = 1 := hr
  refine x_ifne (tgt := 279) (zdm d_Md_qGoesOn_2 11 rfl) (by decide) (fun c => ?_) (fun c => ?_)
  · have H := H.1 c
    exact H
  · have H := H.2 c
    refine x_aload_n (zdm d_Md_qGoesOn_2 12 rfl) rfl (n := 0) rfl ?_
    refine x_iconst (zdm d_Md_qGoesOn_2 13 rfl) (zIl rfl) ?_
    refine x_callVi (n := 1) (ci := 11) (zdm d_Md_qGoesOn_2 14 rfl) k_Md_584 (As := [(0, 4)]) rfl rfl rfl ⟨_, _, rfl⟩ (Nat.le_of_ble_eq_true rfl) trivial H (fun r4 M5 hr H => ?_)
    have b6 : r4 = 0 ∨ r4 = 1 := hr
    refine x_ifne (tgt := 279) (zdm d_Md_qGoesOn_2 15 rfl) (by decide) (fun c => ?_) (fun c => ?_)
    · have H := H.1 c
      exact H
    · have H := H.2 c
      refine x_aload_n (zdm d_Md_qGoesOn_2 16 rfl) rfl (n := 0) rfl ?_
      refine x_iconst (zdm d_Md_qGoesOn_2 17 rfl) (zIl rfl) ?_
      refine x_callVi (n := 1) (ci := 11) (zdm d_Md_qGoesOn_2 18 rfl) k_Md_584 (As := [(0, 1)]) rfl rfl rfl ⟨_, _, rfl⟩ (Nat.le_of_ble_eq_true rfl) trivial H (fun r7 M8 hr H => ?_)
      have b9 : r7 = 0 ∨ r7 = 1 := hr
      refine x_ifne (tgt := 279) (zdm d_Md_qGoesOn_2 19 rfl) (by decide) (fun c => ?_) (fun c => ?_)
      · have H := H.1 c
        exact H
      · have H := H.2 c
        refine x_aload_n (zdm d_Md_qGoesOn_2 20 rfl) rfl (n := 0) rfl ?_
        refine x_iconst (zdm d_Md_qGoesOn_2 21 rfl) (zIl rfl) ?_
        refine x_callVi (n := 1) (ci := 11) (zdm d_Md_qGoesOn_2 22 rfl) k_Md_584 (As := [(0, 2)]) rfl rfl rfl ⟨_, _, rfl⟩ (Nat.le_of_ble_eq_true rfl) trivial H (fun r10 M11 hr H => ?_)
        have b12 : r10 = 0 ∨ r10 = 1 := hr
        refine x_ifeq (tgt := 286) (zdm d_Md_qGoesOn_2 23 rfl) (by decide) (fun c => ?_) (fun c => ?_)
        · have H := H.1 c
          refine x_aload_n (zdm d_Md_qGoesOn_2 27 rfl) rfl (n := 0) rfl ?_
          refine x_getG (zdm d_Md_qGoesOn_2 28 rfl) f_Md_225 rfl rfl (by decide) hsl rfl ?_
          refine x_aload_n (zdm d_Md_qGoesOn_2 29 rfl) rfl (n := 0) rfl ?_
          refine x_getf (zdm d_Md_qGoesOn_2 30 rfl) f_Md_319 rfl rfl ?_
          refine x_iload_n (zdm d_Md_qGoesOn_2 31 rfl) rfl (n := 1) rfl ?_
          obtain ⟨g13, H⟩ := H
          refine x_iast (zdm d_Md_qGoesOn_2 32 rfl) rfl g13 ?_
          refine x_aload_n (zdm d_Md_qGoesOn_2 33 rfl) rfl (n := 0) rfl ?_
          refine x_dup (zdm d_Md_qGoesOn_2 34 rfl) z2n1 ?_
          refine x_getf (zdm d_Md_qGoesOn_2 35 rfl) f_Md_319 rfl rfl ?_
          refine x_iconst (zdm d_Md_qGoesOn_2 36 rfl) (zIl rfl) ?_
          obtain ⟨g14, H⟩ := H
          refine x_iadd (zdm d_Md_qGoesOn_2 37 rfl) g14 ?_
          refine x_putf (zdm d_Md_qGoesOn_2 38 rfl) f_Md_319 rfl ⟨rfl, trivial⟩ (Or.inl rfl) ?_
          refine x_iconst (zdm d_Md_qGoesOn_2 39 rfl) (zIl rfl) ?_
          exact x_ireturn (zdm d_Md_qGoesOn_2 40 rfl) (ty := .boolean) rfl (by decide) (Or.inr rfl) H
        · have H := H.2 c
          exact H
set_option maxRecDepth 20000 in
set_option maxHeartbeats 4000000 in
theorem B_Md_qGoesOn_225 {G : zG} {h sl : Nat} (hsl : 2 ≤ sl) {u : Nat × Nat × Nat × Nat} {M : zM} {Q : Int → zM → Prop} (H : (zI ((M 125 2) - 1)) ∧ ((0 ≤ ((M 125 2) - 1) ∧ ((M 125 2) - 1) < 1600) ∧ ((¬ (M 126 ((M 125 2) - 1)) = 43 → zX G (y_Md_qGoesOn, h + 1, sl) u 247 [(0, (2, 125)), (1, (0, 2))] [] M Q) ∧ (¬ (¬ (M 126 ((M 125 2) - 1)) = 43) → zX G (y_Md_qGoesOn, h + 1, sl) u 247 [(0, (2, 125)), (1, (0, 1))] [] M Q)))) : zX G (y_Md_qGoesOn, h + 1, sl) u 225 [(0, (2, 125))] [] M Q := by
  refine x_aload_n (zdm d_Md_qGoesOn_1 55 rfl) rfl (n := 0) rfl ?_
  refine x_getG (zdm d_Md_qGoesOn_1 56 rfl) f_Md_7 rfl rfl (by decide) hsl rfl ?_
  refine x_aload_n (zdm d_Md_qGoesOn_1 57 rfl) rfl (n := 0) rfl ?_
  refine x_getf (zdm d_Md_qGoesOn_1 58 rfl) f_Md_243 rfl rfl ?_
  refine x_iconst (zdm d_Md_qGoesOn_1 59 rfl) (zIl rfl) ?_
  obtain ⟨g1, H⟩ := H
  refine x_isub (zdm d_Md_qGoesOn_2 0 rfl) g1 ?_
  obtain ⟨g2, H⟩ := H
  refine x_iald (zdm d_Md_qGoesOn_2 1 rfl) rfl g2 ?_
  refine x_bipush (zdm d_Md_qGoesOn_2 2 rfl) (by decide) ?_
  refine x_icmpne (tgt := 245) (zdm d_Md_qGoesOn_2 3 rfl) (by decide) (fun c => ?_) (fun c => ?_)
  · have H := H.1 c
    refine x_iconst (zdm d_Md_qGoesOn_2 6 rfl) (zIl rfl) ?_
    refine x_istore_n (zdm d_Md_qGoesOn_2 7 rfl) rfl (zlt rfl) rfl ?_
    exact zX.sub [1, 0] rfl H
  · have H := H.2 c
    refine x_iconst (zdm d_Md_qGoesOn_2 4 rfl) (zIl rfl) ?_
    refine x_goto (tgt := 246) (zdm d_Md_qGoesOn_2 5 rfl) (by decide) ?_
    refine x_istore_n (zdm d_Md_qGoesOn_2 7 rfl) rfl (zlt rfl) rfl ?_
    exact zX.sub [1, 0] rfl H
set_option maxRecDepth 20000 in
set_option maxHeartbeats 4000000 in
theorem B_Md_qGoesOn_178 {G : zG} {h sl : Nat} (hsl : 2 ≤ sl) {u : Nat × Nat × Nat × Nat} {l1 : Int} {M : zM} {Q : Int → zM → Prop} (H : zCt G h sl 0 0 y_Md_qDrops [(2, 125)] M (fun r1 M2 => zX G (y_Md_qGoesOn, h + 1, sl) u 162 [(0, (2, 125)), (1, (0, l1))] [] M2 Q)) : zX G (y_Md_qGoesOn, h + 1, sl) u 178 [(0, (2, 125)), (1, (0, l1))] [] M Q := by
  refine x_aload_n (zdm d_Md_qGoesOn_1 30 rfl) rfl (n := 0) rfl ?_
  refine x_callVv (n := 0) (ci := 11) (zdm d_Md_qGoesOn_1 31 rfl) k_Md_554 (As := []) rfl rfl rfl ⟨_, _, rfl⟩ (Nat.le_of_ble_eq_true rfl) rfl H (fun r1 M2 hr H => ?_)
  refine x_goto (tgt := 162) (zdm d_Md_qGoesOn_1 32 rfl) (by decide) ?_
  exact H
set_option maxRecDepth 20000 in
set_option maxHeartbeats 4000000 in
theorem B_Md_qGoesOn_162 {G : zG} {h sl : Nat} (hsl : 2 ≤ sl) {u : Nat × Nat × Nat × Nat} {l1 : Int} {M : zM} {Q : Int → zM → Prop} (H : zCt G h sl 0 0 y_Md_qIsOn [(2, 125), (0, 3)] M (fun r1 M2 => (¬ r1 = 0 → zX G (y_Md_qGoesOn, h + 1, sl) u 178 [(0, (2, 125)), (1, (0, l1))] [] M2 Q) ∧ (¬ (¬ r1 = 0) → zCt G h sl 0 0 y_Md_qIsOn [(2, 125), (0, 4)] M2 (fun r4 M5 => (r4 = 0 → (0 ≤ (M5 125 92) ∧ (M5 125 92) < 1700) ∧ ((zI (((zwr M5 194 (M5 125 92) l1) 125 92) + 1)) ∧ (Q 1 (zwr (zwr M5 194 (M5 125 92) l1) 125 92 (((zwr M5 194 (M5 125 92) l1) 125 92) + 1))))) ∧ (¬ r4 = 0 → zX G (y_Md_qGoesOn, h + 1, sl) u 178 [(0, (2, 125)), (1, (0, l1))] [] M5 Q))))) : zX G (y_Md_qGoesOn, h + 1, sl) u 162 [(0, (2, 125)), (1, (0, l1))] [] M Q := by
  refine x_aload_n (zdm d_Md_qGoesOn_1 22 rfl) rfl (n := 0) rfl ?_
  refine x_iconst (zdm d_Md_qGoesOn_1 23 rfl) (zIl rfl) ?_
  refine x_callVi (n := 1) (ci := 11) (zdm d_Md_qGoesOn_1 24 rfl) k_Md_584 (As := [(0, 3)]) rfl rfl rfl ⟨_, _, rfl⟩ (Nat.le_of_ble_eq_true rfl) trivial H (fun r1 M2 hr H => ?_)
  have b3 : r1 = 0 ∨ r1 = 1 := hr
  refine x_ifne (tgt := 178) (zdm d_Md_qGoesOn_1 25 rfl) (by decide) (fun c => ?_) (fun c => ?_)
  · have H := H.1 c
    exact H
  · have H := H.2 c
    refine x_aload_n (zdm d_Md_qGoesOn_1 26 rfl) rfl (n := 0) rfl ?_
    refine x_iconst (zdm d_Md_qGoesOn_1 27 rfl) (zIl rfl) ?_
    refine x_callVi (n := 1) (ci := 11) (zdm d_Md_qGoesOn_1 28 rfl) k_Md_584 (As := [(0, 4)]) rfl rfl rfl ⟨_, _, rfl⟩ (Nat.le_of_ble_eq_true rfl) trivial H (fun r4 M5 hr H => ?_)
    have b6 : r4 = 0 ∨ r4 = 1 := hr
    refine x_ifeq (tgt := 185) (zdm d_Md_qGoesOn_1 29 rfl) (by decide) (fun c => ?_) (fun c => ?_)
    · have H := H.1 c
      refine x_aload_n (zdm d_Md_qGoesOn_1 33 rfl) rfl (n := 0) rfl ?_
      refine x_getG (zdm d_Md_qGoesOn_1 34 rfl) f_Md_225 rfl rfl (by decide) hsl rfl ?_
      refine x_aload_n (zdm d_Md_qGoesOn_1 35 rfl) rfl (n := 0) rfl ?_
      refine x_getf (zdm d_Md_qGoesOn_1 36 rfl) f_Md_319 rfl rfl ?_
      refine x_iload_n (zdm d_Md_qGoesOn_1 37 rfl) rfl (n := 1) rfl ?_
      obtain ⟨g7, H⟩ := H
      refine x_iast (zdm d_Md_qGoesOn_1 38 rfl) rfl g7 ?_
      refine x_aload_n (zdm d_Md_qGoesOn_1 39 rfl) rfl (n := 0) rfl ?_
      refine x_dup (zdm d_Md_qGoesOn_1 40 rfl) z2n1 ?_
      refine x_getf (zdm d_Md_qGoesOn_1 41 rfl) f_Md_319 rfl rfl ?_
      refine x_iconst (zdm d_Md_qGoesOn_1 42 rfl) (zIl rfl) ?_
      obtain ⟨g8, H⟩ := H
      refine x_iadd (zdm d_Md_qGoesOn_1 43 rfl) g8 ?_
      refine x_putf (zdm d_Md_qGoesOn_1 44 rfl) f_Md_319 rfl ⟨rfl, trivial⟩ (Or.inl rfl) ?_
      refine x_iconst (zdm d_Md_qGoesOn_1 45 rfl) (zIl rfl) ?_
      exact x_ireturn (zdm d_Md_qGoesOn_1 46 rfl) (ty := .boolean) rfl (by decide) (Or.inr rfl) H
    · have H := H.2 c
      exact H
set_option maxRecDepth 20000 in
set_option maxHeartbeats 4000000 in
theorem B_Md_qGoesOn_140 {G : zG} {h sl : Nat} (hsl : 2 ≤ sl) {u : Nat × Nat × Nat × Nat} {M : zM} {Q : Int → zM → Prop} (H : (zI ((M 125 2) - 1)) ∧ ((0 ≤ ((M 125 2) - 1) ∧ ((M 125 2) - 1) < 1600) ∧ ((¬ (M 126 ((M 125 2) - 1)) = 42 → zX G (y_Md_qGoesOn, h + 1, sl) u 162 [(0, (2, 125)), (1, (0, 4))] [] M Q) ∧ (¬ (¬ (M 126 ((M 125 2) - 1)) = 42) → zX G (y_Md_qGoesOn, h + 1, sl) u 162 [(0, (2, 125)), (1, (0, 3))] [] M Q)))) : zX G (y_Md_qGoesOn, h + 1, sl) u 140 [(0, (2, 125))] [] M Q := by
  refine x_aload_n (zdm d_Md_qGoesOn_1 9 rfl) rfl (n := 0) rfl ?_
  refine x_getG (zdm d_Md_qGoesOn_1 10 rfl) f_Md_7 rfl rfl (by decide) hsl rfl ?_
  refine x_aload_n (zdm d_Md_qGoesOn_1 11 rfl) rfl (n := 0) rfl ?_
  refine x_getf (zdm d_Md_qGoesOn_1 12 rfl) f_Md_243 rfl rfl ?_
  refine x_iconst (zdm d_Md_qGoesOn_1 13 rfl) (zIl rfl) ?_
  obtain ⟨g1, H⟩ := H
  refine x_isub (zdm d_Md_qGoesOn_1 14 rfl) g1 ?_
  obtain ⟨g2, H⟩ := H
  refine x_iald (zdm d_Md_qGoesOn_1 15 rfl) rfl g2 ?_
  refine x_bipush (zdm d_Md_qGoesOn_1 16 rfl) (by decide) ?_
  refine x_icmpne (tgt := 160) (zdm d_Md_qGoesOn_1 17 rfl) (by decide) (fun c => ?_) (fun c => ?_)
  · have H := H.1 c
    refine x_iconst (zdm d_Md_qGoesOn_1 20 rfl) (zIl rfl) ?_
    refine x_istore_n (zdm d_Md_qGoesOn_1 21 rfl) rfl (zlt rfl) rfl ?_
    exact zX.sub [1, 0] rfl H
  · have H := H.2 c
    refine x_iconst (zdm d_Md_qGoesOn_1 18 rfl) (zIl rfl) ?_
    refine x_goto (tgt := 161) (zdm d_Md_qGoesOn_1 19 rfl) (by decide) ?_
    refine x_istore_n (zdm d_Md_qGoesOn_1 21 rfl) rfl (zlt rfl) rfl ?_
    exact zX.sub [1, 0] rfl H
set_option maxRecDepth 20000 in
set_option maxHeartbeats 4000000 in
theorem B_Md_qGoesOn_122 {G : zG} {h sl : Nat} (hsl : 2 ≤ sl) {u : Nat × Nat × Nat × Nat} {M : zM} {Q : Int → zM → Prop} (H : zCt G h sl 0 0 y_Md_takesSign [(2, 125), (0, 42)] M (fun r1 M2 => (¬ r1 = 0 → zX G (y_Md_qGoesOn, h + 1, sl) u 140 [(0, (2, 125))] [] M2 Q) ∧ (¬ (¬ r1 = 0) → zCt G h sl 0 0 y_Md_takesSign [(2, 125), (0, 47)] M2 (fun r4 M5 => (r4 = 0 → zCt G h sl 0 0 y_Md_takesSign [(2, 125), (0, 43)] M5 (fun r7 M8 => (¬ r7 = 0 → zX G (y_Md_qGoesOn, h + 1, sl) u 225 [(0, (2, 125))] [] M8 Q) ∧ (¬ (¬ r7 = 0) → zCt G h sl 0 0 y_Md_takesSign [(2, 125), (0, 45)] M8 (fun r10 M11 => (r10 = 0 → zCt G h sl 0 0 y_Md_qBracket [(2, 125)] M11 (fun r13 M14 => (r13 = 21 → zX G (y_Md_qGoesOn, h + 1, sl) u 326 [(0, (2, 125))] [] M14 Q) ∧ (¬ r13 = 21 → zCt G h sl 0 0 y_Md_qBracket [(2, 125)] M14 (fun r15 M16 => (¬ r15 = 22 → zCt G h sl 0 0 y_Md_qBracket [(2, 125)] M16 (fun r17 M18 => (r17 = (-1) → Q 0 M18) ∧ (¬ r17 = (-1) → (¬ (M18 125 5) = 0 → Q 0 M18) ∧ (¬ (¬ (M18 125 5) = 0) → zCt G h sl 0 0 y_Md_fail [(2, 125), (0, 1), (0, (M18 125 2))] M18 (fun r19 M20 => Q 0 M20))))) ∧ (¬ (¬ r15 = 22) → zX G (y_Md_qGoesOn, h + 1, sl) u 326 [(0, (2, 125))] [] M16 Q))))) ∧ (¬ r10 = 0 → zX G (y_Md_qGoesOn, h + 1, sl) u 225 [(0, (2, 125))] [] M11 Q))))) ∧ (¬ r4 = 0 → zX G (y_Md_qGoesOn, h + 1, sl) u 140 [(0, (2, 125))] [] M5 Q))))) : zX G (y_Md_qGoesOn, h + 1, sl) u 122 [(0, (2, 125))] [] M Q := by
  refine x_aload_n (zdm d_Md_qGoesOn_1 1 rfl) rfl (n := 0) rfl ?_
  refine x_bipush (zdm d_Md_qGoesOn_1 2 rfl) (by decide) ?_
  refine x_callVi (n := 1) (ci := 11) (zdm d_Md_qGoesOn_1 3 rfl) k_Md_271 (As := [(0, 42)]) rfl rfl rfl ⟨_, _, rfl⟩ (Nat.le_of_ble_eq_true rfl) trivial H (fun r1 M2 hr H => ?_)
  have b3 : r1 = 0 ∨ r1 = 1 := hr
  refine x_ifne (tgt := 140) (zdm d_Md_qGoesOn_1 4 rfl) (by decide) (fun c => ?_) (fun c => ?_)
  · have H := H.1 c
    exact H
  · have H := H.2 c
    refine x_aload_n (zdm d_Md_qGoesOn_1 5 rfl) rfl (n := 0) rfl ?_
    refine x_bipush (zdm d_Md_qGoesOn_1 6 rfl) (by decide) ?_
    refine x_callVi (n := 1) (ci := 11) (zdm d_Md_qGoesOn_1 7 rfl) k_Md_271 (As := [(0, 47)]) rfl rfl rfl ⟨_, _, rfl⟩ (Nat.le_of_ble_eq_true rfl) trivial H (fun r4 M5 hr H => ?_)
    have b6 : r4 = 0 ∨ r4 = 1 := hr
    refine x_ifeq (tgt := 207) (zdm d_Md_qGoesOn_1 8 rfl) (by decide) (fun c => ?_) (fun c => ?_)
    · have H := H.1 c
      refine x_aload_n (zdm d_Md_qGoesOn_1 47 rfl) rfl (n := 0) rfl ?_
      refine x_bipush (zdm d_Md_qGoesOn_1 48 rfl) (by decide) ?_
      refine x_callVi (n := 1) (ci := 11) (zdm d_Md_qGoesOn_1 49 rfl) k_Md_271 (As := [(0, 43)]) rfl rfl rfl ⟨_, _, rfl⟩ (Nat.le_of_ble_eq_true rfl) trivial H (fun r7 M8 hr H => ?_)
      have b9 : r7 = 0 ∨ r7 = 1 := hr
      refine x_ifne (tgt := 225) (zdm d_Md_qGoesOn_1 50 rfl) (by decide) (fun c => ?_) (fun c => ?_)
      · have H := H.1 c
        exact H
      · have H := H.2 c
        refine x_aload_n (zdm d_Md_qGoesOn_1 51 rfl) rfl (n := 0) rfl ?_
        refine x_bipush (zdm d_Md_qGoesOn_1 52 rfl) (by decide) ?_
        refine x_callVi (n := 1) (ci := 11) (zdm d_Md_qGoesOn_1 53 rfl) k_Md_271 (As := [(0, 45)]) rfl rfl rfl ⟨_, _, rfl⟩ (Nat.le_of_ble_eq_true rfl) trivial H (fun r10 M11 hr H => ?_)
        have b12 : r10 = 0 ∨ r10 = 1 := hr
        refine x_ifeq (tgt := 308) (zdm d_Md_qGoesOn_1 54 rfl) (by decide) (fun c => ?_) (fun c => ?_)
        · have H := H.1 c
          refine x_aload_n (zdm d_Md_qGoesOn_2 41 rfl) rfl (n := 0) rfl ?_
          refine x_callVi (n := 0) (ci := 11) (zdm d_Md_qGoesOn_2 42 rfl) k_Md_578 (As := []) rfl rfl rfl ⟨_, _, rfl⟩ (Nat.le_of_ble_eq_true rfl) trivial H (fun r13 M14 hr H => ?_)
          refine x_bipush (zdm d_Md_qGoesOn_2 43 rfl) (by decide) ?_
          refine x_icmpeq (tgt := 326) (zdm d_Md_qGoesOn_2 44 rfl) (by decide) (fun c => ?_) (fun c => ?_)
          · have H := H.1 c
            exact H
          · have H := H.2 c
            refine x_aload_n (zdm d_Md_qGoesOn_2 45 rfl) rfl (n := 0) rfl ?_
            refine x_callVi (n := 0) (ci := 11) (zdm d_Md_qGoesOn_2 46 rfl) k_Md_578 (As := []) rfl rfl rfl ⟨_, _, rfl⟩ (Nat.le_of_ble_eq_true rfl) trivial H (fun r15 M16 hr H => ?_)
            refine x_bipush (zdm d_Md_qGoesOn_2 47 rfl) (by decide) ?_
            refine x_icmpne (tgt := 362) (zdm d_Md_qGoesOn_2 48 rfl) (by decide) (fun c => ?_) (fun c => ?_)
            · have H := H.1 c
              refine x_aload_n (zdm d_Md_qGoesOn_3 12 rfl) rfl (n := 0) rfl ?_
              refine x_callVi (n := 0) (ci := 11) (zdm d_Md_qGoesOn_3 13 rfl) k_Md_578 (As := []) rfl rfl rfl ⟨_, _, rfl⟩ (Nat.le_of_ble_eq_true rfl) trivial H (fun r17 M18 hr H => ?_)
              refine x_iconst (zdm d_Md_qGoesOn_3 14 rfl) (zIl rfl) ?_
              refine x_icmpeq (tgt := 386) (zdm d_Md_qGoesOn_3 15 rfl) (by decide) (fun c => ?_) (fun c => ?_)
              · have H := H.1 c
                refine x_iconst (zdm d_Md_qGoesOn_3 24 rfl) (zIl rfl) ?_
                exact x_ireturn (zdm d_Md_qGoesOn_3 25 rfl) (ty := .boolean) rfl (by decide) (Or.inl rfl) H
              · have H := H.2 c
                refine x_aload_n (zdm d_Md_qGoesOn_3 16 rfl) rfl (n := 0) rfl ?_
                refine x_getf (zdm d_Md_qGoesOn_3 17 rfl) f_Md_237 rfl rfl ?_
                refine x_ifne (tgt := 386) (zdm d_Md_qGoesOn_3 18 rfl) (by decide) (fun c => ?_) (fun c => ?_)
                · have H := H.1 c
                  refine x_iconst (zdm d_Md_qGoesOn_3 24 rfl) (zIl rfl) ?_
                  exact x_ireturn (zdm d_Md_qGoesOn_3 25 rfl) (ty := .boolean) rfl (by decide) (Or.inl rfl) H
                · have H := H.2 c
                  refine x_aload_n (zdm d_Md_qGoesOn_3 19 rfl) rfl (n := 0) rfl ?_
                  refine x_iconst (zdm d_Md_qGoesOn_3 20 rfl) (zIl rfl) ?_
                  refine x_aload_n (zdm d_Md_qGoesOn_3 21 rfl) rfl (n := 0) rfl ?_
                  refine x_getf (zdm d_Md_qGoesOn_3 22 rfl) f_Md_243 rfl rfl ?_
                  refine x_callVv (n := 2) (ci := 11) (zdm d_Md_qGoesOn_3 23 rfl) k_Md_267 (As := [(0, 1), (0, (M18 125 2))]) rfl rfl rfl ⟨_, _, rfl⟩ (Nat.le_of_ble_eq_true rfl) rfl H (fun r19 M20 hr H => ?_)
                  refine x_iconst (zdm d_Md_qGoesOn_3 24 rfl) (zIl rfl) ?_
                  exact x_ireturn (zdm d_Md_qGoesOn_3 25 rfl) (ty := .boolean) rfl (by decide) (Or.inl rfl) H
            · have H := H.2 c
              exact H
        · have H := H.2 c
          exact H
    · have H := H.2 c
      exact H
set_option maxRecDepth 20000 in
set_option maxHeartbeats 4000000 in
theorem B_Md_qGoesOn_115 {G : zG} {h sl : Nat} (hsl : 2 ≤ sl) {u : Nat × Nat × Nat × Nat} {M : zM} {Q : Int → zM → Prop} (H : zCt G h sl 0 0 y_Md_qEndsPart [(2, 125)] M (fun r1 M2 => zX G (y_Md_qGoesOn, h + 1, sl) u 0 [(0, (2, 125))] [] M2 Q)) : zX G (y_Md_qGoesOn, h + 1, sl) u 115 [(0, (2, 125))] [] M Q := by
  refine x_aload_n (zdm d_Md_qGoesOn_0 58 rfl) rfl (n := 0) rfl ?_
  refine x_callVv (n := 0) (ci := 11) (zdm d_Md_qGoesOn_0 59 rfl) k_Md_575 (As := []) rfl rfl rfl ⟨_, _, rfl⟩ (Nat.le_of_ble_eq_true rfl) rfl H (fun r1 M2 hr H => ?_)
  refine x_goto (tgt := 0) (zdm d_Md_qGoesOn_1 0 rfl) (by decide) ?_
  exact H
set_option maxRecDepth 20000 in
set_option maxHeartbeats 4000000 in
theorem B_Md_qGoesOn_43 {G : zG} {h sl : Nat} (hsl : 2 ≤ sl) {u : Nat × Nat × Nat × Nat} {M : zM} {Q : Int → zM → Prop} (H : (zI ((M 125 2) + 1)) ∧ (zCt G h sl 0 0 y_Md_qDropsToBracket [(2, 125)] (zwr M 125 2 ((M 125 2) + 1)) (fun r2 M3 => (zI ((M3 125 92) - 1)) ∧ ((zI (((zwr M3 125 92 ((M3 125 92) - 1)) 125 93) - 1)) ∧ ((0 ≤ ((zwr (zwr M3 125 92 ((M3 125 92) - 1)) 125 93 (((zwr M3 125 92 ((M3 125 92) - 1)) 125 93) - 1)) 125 92) ∧ ((zwr (zwr M3 125 92 ((M3 125 92) - 1)) 125 93 (((zwr M3 125 92 ((M3 125 92) - 1)) 125 93) - 1)) 125 92) < 1700) ∧ ((((zwr (zwr M3 125 92 ((M3 125 92) - 1)) 125 93 (((zwr M3 125 92 ((M3 125 92) - 1)) 125 93) - 1)) 194 ((zwr (zwr M3 125 92 ((M3 125 92) - 1)) 125 93 (((zwr M3 125 92 ((M3 125 92) - 1)) 125 93) - 1)) 125 92)) = 20 → zX G (y_Md_qGoesOn, h + 1, sl) u 115 [(0, (2, 125))] [] (zwr (zwr M3 125 92 ((M3 125 92) - 1)) 125 93 (((zwr M3 125 92 ((M3 125 92) - 1)) 125 93) - 1)) Q) ∧ (¬ ((zwr (zwr M3 125 92 ((M3 125 92) - 1)) 125 93 (((zwr M3 125 92 ((M3 125 92) - 1)) 125 93) - 1)) 194 ((zwr (zwr M3 125 92 ((M3 125 92) - 1)) 125 93 (((zwr M3 125 92 ((M3 125 92) - 1)) 125 93) - 1)) 125 92)) = 20 → (¬ ((zwr (zwr M3 125 92 ((M3 125 92) - 1)) 125 93 (((zwr M3 125 92 ((M3 125 92) - 1)) 125 93) - 1)) 194 ((zwr (zwr M3 125 92 ((M3 125 92) - 1)) 125 93 (((zwr M3 125 92 ((M3 125 92) - 1)) 125 93) - 1)) 125 92)) = 23 → zCt G h sl 0 0 y_Md_qCode [(2, 125), (0, 6)] (zwr (zwr M3 125 92 ((M3 125 92) - 1)) 125 93 (((zwr M3 125 92 ((M3 125 92) - 1)) 125 93) - 1)) (fun r7 M8 => zX G (y_Md_qGoesOn, h + 1, sl) u 115 [(0, (2, 125))] [] M8 Q)) ∧ (¬ (¬ ((zwr (zwr M3 125 92 ((M3 125 92) - 1)) 125 93 (((zwr M3 125 92 ((M3 125 92) - 1)) 125 93) - 1)) 194 ((zwr (zwr M3 125 92 ((M3 125 92) - 1)) 125 93 (((zwr M3 125 92 ((M3 125 92) - 1)) 125 93) - 1)) 125 92)) = 23) → zCt G h sl 0 0 y_Md_qCode [(2, 125), (0, 5)] (zwr (zwr M3 125 92 ((M3 125 92) - 1)) 125 93 (((zwr M3 125 92 ((M3 125 92) - 1)) 125 93) - 1)) (fun r9 M10 => zX G (y_Md_qGoesOn, h + 1, sl) u 115 [(0, (2, 125))] [] M10 Q))))))))) : zX G (y_Md_qGoesOn, h + 1, sl) u 43 [(0, (2, 125))] [] M Q := by
  refine x_aload_n (zdm d_Md_qGoesOn_0 19 rfl) rfl (n := 0) rfl ?_
  refine x_dup (zdm d_Md_qGoesOn_0 20 rfl) z2n1 ?_
  refine x_getf (zdm d_Md_qGoesOn_0 21 rfl) f_Md_243 rfl rfl ?_
  refine x_iconst (zdm d_Md_qGoesOn_0 22 rfl) (zIl rfl) ?_
  obtain ⟨g1, H⟩ := H
  refine x_iadd (zdm d_Md_qGoesOn_0 23 rfl) g1 ?_
  refine x_putf (zdm d_Md_qGoesOn_0 24 rfl) f_Md_243 rfl ⟨rfl, trivial⟩ (Or.inl rfl) ?_
  refine x_aload_n (zdm d_Md_qGoesOn_0 25 rfl) rfl (n := 0) rfl ?_
  refine x_callVv (n := 0) (ci := 11) (zdm d_Md_qGoesOn_0 26 rfl) k_Md_581 (As := []) rfl rfl rfl ⟨_, _, rfl⟩ (Nat.le_of_ble_eq_true rfl) rfl H (fun r2 M3 hr H => ?_)
  refine x_aload_n (zdm d_Md_qGoesOn_0 27 rfl) rfl (n := 0) rfl ?_
  refine x_dup (zdm d_Md_qGoesOn_0 28 rfl) z2n1 ?_
  refine x_getf (zdm d_Md_qGoesOn_0 29 rfl) f_Md_319 rfl rfl ?_
  refine x_iconst (zdm d_Md_qGoesOn_0 30 rfl) (zIl rfl) ?_
  obtain ⟨g4, H⟩ := H
  refine x_isub (zdm d_Md_qGoesOn_0 31 rfl) g4 ?_
  refine x_putf (zdm d_Md_qGoesOn_0 32 rfl) f_Md_319 rfl ⟨rfl, trivial⟩ (Or.inl rfl) ?_
  refine x_aload_n (zdm d_Md_qGoesOn_0 33 rfl) rfl (n := 0) rfl ?_
  refine x_dup (zdm d_Md_qGoesOn_0 34 rfl) z2n1 ?_
  refine x_getf (zdm d_Md_qGoesOn_0 35 rfl) f_Md_322 rfl rfl ?_
  refine x_iconst (zdm d_Md_qGoesOn_0 36 rfl) (zIl rfl) ?_
  obtain ⟨g5, H⟩ := H
  refine x_isub (zdm d_Md_qGoesOn_0 37 rfl) g5 ?_
  refine x_putf (zdm d_Md_qGoesOn_0 38 rfl) f_Md_322 rfl ⟨rfl, trivial⟩ (Or.inl rfl) ?_
  refine x_aload_n (zdm d_Md_qGoesOn_0 39 rfl) rfl (n := 0) rfl ?_
  refine x_getG (zdm d_Md_qGoesOn_0 40 rfl) f_Md_225 rfl rfl (by decide) hsl rfl ?_
  refine x_aload_n (zdm d_Md_qGoesOn_0 41 rfl) rfl (n := 0) rfl ?_
  refine x_getf (zdm d_Md_qGoesOn_0 42 rfl) f_Md_319 rfl rfl ?_
  obtain ⟨g6, H⟩ := H
  refine x_iald (zdm d_Md_qGoesOn_0 43 rfl) rfl g6 ?_
  refine x_bipush (zdm d_Md_qGoesOn_0 44 rfl) (by decide) ?_
  refine x_icmpeq (tgt := 115) (zdm d_Md_qGoesOn_0 45 rfl) (by decide) (fun c => ?_) (fun c => ?_)
  · have H := H.1 c
    exact H
  · have H := H.2 c
    refine x_aload_n (zdm d_Md_qGoesOn_0 46 rfl) rfl (n := 0) rfl ?_
    refine x_aload_n (zdm d_Md_qGoesOn_0 47 rfl) rfl (n := 0) rfl ?_
    refine x_getG (zdm d_Md_qGoesOn_0 48 rfl) f_Md_225 rfl rfl (by decide) hsl rfl ?_
    refine x_aload_n (zdm d_Md_qGoesOn_0 49 rfl) rfl (n := 0) rfl ?_
    refine x_getf (zdm d_Md_qGoesOn_0 50 rfl) f_Md_319 rfl rfl ?_
    refine x_iald (zdm d_Md_qGoesOn_0 51 rfl) rfl g6 ?_
    refine x_bipush (zdm d_Md_qGoesOn_0 52 rfl) (by decide) ?_
    refine x_icmpne (tgt := 110) (zdm d_Md_qGoesOn_0 53 rfl) (by decide) (fun c => ?_) (fun c => ?_)
    · have H := H.1 c
      refine x_bipush (zdm d_Md_qGoesOn_0 56 rfl) (by decide) ?_
      refine x_callVv (n := 1) (ci := 11) (zdm d_Md_qGoesOn_0 57 rfl) k_Md_548 (As := [(0, 6)]) rfl rfl rfl ⟨_, _, rfl⟩ (Nat.le_of_ble_eq_true rfl) rfl H (fun r7 M8 hr H => ?_)
      exact H
    · have H := H.2 c
      refine x_iconst (zdm d_Md_qGoesOn_0 54 rfl) (zIl rfl) ?_
      refine x_goto (tgt := 112) (zdm d_Md_qGoesOn_0 55 rfl) (by decide) ?_
      refine x_callVv (n := 1) (ci := 11) (zdm d_Md_qGoesOn_0 57 rfl) k_Md_548 (As := [(0, 5)]) rfl rfl rfl ⟨_, _, rfl⟩ (Nat.le_of_ble_eq_true rfl) rfl H (fun r9 M10 hr H => ?_)
      exact H
set_option maxRecDepth 20000 in
set_option maxHeartbeats 4000000 in
theorem B_Md_qGoesOn_0 {G : zG} {h sl : Nat} (hsl : 2 ≤ sl) {u : Nat × Nat × Nat × Nat} {M : zM} {Q : Int → zM → Prop} (H : (¬ (M 125 5) = 0 → zX G (y_Md_qGoesOn, h + 1, sl) u 122 [(0, (2, 125))] [] M Q) ∧ (¬ (¬ (M 125 5) = 0) → zCt G h sl 0 0 y_Md_look [(2, 125)] M (fun r1 M2 => (¬ r1 = 41 → zX G (y_Md_qGoesOn, h + 1, sl) u 122 [(0, (2, 125))] [] M2 Q) ∧ (¬ (¬ r1 = 41) → zCt G h sl 0 0 y_Md_qBracket [(2, 125)] M2 (fun r3 M4 => (r3 = 20 → zX G (y_Md_qGoesOn, h + 1, sl) u 43 [(0, (2, 125))] [] M4 Q) ∧ (¬ r3 = 20 → zCt G h sl 0 0 y_Md_qBracket [(2, 125)] M4 (fun r5 M6 => (r5 = 23 → zX G (y_Md_qGoesOn, h + 1, sl) u 43 [(0, (2, 125))] [] M6 Q) ∧ (¬ r5 = 23 → zCt G h sl 0 0 y_Md_qBracket [(2, 125)] M6 (fun r7 M8 => (¬ r7 = 24 → zX G (y_Md_qGoesOn, h + 1, sl) u 122 [(0, (2, 125))] [] M8 Q) ∧ (¬ (¬ r7 = 24) → zX G (y_Md_qGoesOn, h + 1, sl) u 43 [(0, (2, 125))] [] M8 Q)))))))))) : zX G (y_Md_qGoesOn, h + 1, sl) u 0 [(0, (2, 125))] [] M Q := by
  refine x_aload_n (zdm d_Md_qGoesOn_0 0 rfl) rfl (n := 0) rfl ?_
  refine x_getf (zdm d_Md_qGoesOn_0 1 rfl) f_Md_237 rfl rfl ?_
  refine x_ifne (tgt := 122) (zdm d_Md_qGoesOn_0 2 rfl) (by decide) (fun c => ?_) (fun c => ?_)
  · have H := H.1 c
    exact H
  · have H := H.2 c
    refine x_aload_n (zdm d_Md_qGoesOn_0 3 rfl) rfl (n := 0) rfl ?_
    refine x_callVi (n := 0) (ci := 11) (zdm d_Md_qGoesOn_0 4 rfl) k_Md_249 (As := []) rfl rfl rfl ⟨_, _, rfl⟩ (Nat.le_of_ble_eq_true rfl) trivial H (fun r1 M2 hr H => ?_)
    refine x_bipush (zdm d_Md_qGoesOn_0 5 rfl) (by decide) ?_
    refine x_icmpne (tgt := 122) (zdm d_Md_qGoesOn_0 6 rfl) (by decide) (fun c => ?_) (fun c => ?_)
    · have H := H.1 c
      exact H
    · have H := H.2 c
      refine x_aload_n (zdm d_Md_qGoesOn_0 7 rfl) rfl (n := 0) rfl ?_
      refine x_callVi (n := 0) (ci := 11) (zdm d_Md_qGoesOn_0 8 rfl) k_Md_578 (As := []) rfl rfl rfl ⟨_, _, rfl⟩ (Nat.le_of_ble_eq_true rfl) trivial H (fun r3 M4 hr H => ?_)
      refine x_bipush (zdm d_Md_qGoesOn_0 9 rfl) (by decide) ?_
      refine x_icmpeq (tgt := 43) (zdm d_Md_qGoesOn_0 10 rfl) (by decide) (fun c => ?_) (fun c => ?_)
      · have H := H.1 c
        exact H
      · have H := H.2 c
        refine x_aload_n (zdm d_Md_qGoesOn_0 11 rfl) rfl (n := 0) rfl ?_
        refine x_callVi (n := 0) (ci := 11) (zdm d_Md_qGoesOn_0 12 rfl) k_Md_578 (As := []) rfl rfl rfl ⟨_, _, rfl⟩ (Nat.le_of_ble_eq_true rfl) trivial H (fun r5 M6 hr H => ?_)
        refine x_bipush (zdm d_Md_qGoesOn_0 13 rfl) (by decide) ?_
        refine x_icmpeq (tgt := 43) (zdm d_Md_qGoesOn_0 14 rfl) (by decide) (fun c => ?_) (fun c => ?_)
        · have H := H.1 c
          exact H
        · have H := H.2 c
          refine x_aload_n (zdm d_Md_qGoesOn_0 15 rfl) rfl (n := 0) rfl ?_
          refine x_callVi (n := 0) (ci := 11) (zdm d_Md_qGoesOn_0 16 rfl) k_Md_578 (As := []) rfl rfl rfl ⟨_, _, rfl⟩ (Nat.le_of_ble_eq_true rfl) trivial H (fun r7 M8 hr H => ?_)
          refine x_bipush (zdm d_Md_qGoesOn_0 17 rfl) (by decide) ?_
          refine x_icmpne (tgt := 122) (zdm d_Md_qGoesOn_0 18 rfl) (by decide) (fun c => ?_) (fun c => ?_)
          · have H := H.1 c
            exact H
          · have H := H.2 c
            exact H
set_option maxRecDepth 20000 in
set_option maxHeartbeats 4000000 in
theorem E_Md_qGoesOn {G : zG} {h sl : Nat} (hsl : 2 ≤ sl) {M : zM} {Q : Int → zM → Prop} (H : (¬ (M 125 5) = 0 → zX G (y_Md_qGoesOn, h + 1, sl) (0, 0, 0, 0) 122 [(0, (2, 125))] [] M Q) ∧ (¬ (¬ (M 125 5) = 0) → zCt G h sl 0 0 y_Md_look [(2, 125)] M (fun r1 M2 => (¬ r1 = 41 → zX G (y_Md_qGoesOn, h + 1, sl) (0, 0, 0, 0) 122 [(0, (2, 125))] [] M2 Q) ∧ (¬ (¬ r1 = 41) → zCt G h sl 0 0 y_Md_qBracket [(2, 125)] M2 (fun r3 M4 => (r3 = 20 → zX G (y_Md_qGoesOn, h + 1, sl) (0, 0, 0, 0) 43 [(0, (2, 125))] [] M4 Q) ∧ (¬ r3 = 20 → zCt G h sl 0 0 y_Md_qBracket [(2, 125)] M4 (fun r5 M6 => (r5 = 23 → zX G (y_Md_qGoesOn, h + 1, sl) (0, 0, 0, 0) 43 [(0, (2, 125))] [] M6 Q) ∧ (¬ r5 = 23 → zCt G h sl 0 0 y_Md_qBracket [(2, 125)] M6 (fun r7 M8 => (¬ r7 = 24 → zX G (y_Md_qGoesOn, h + 1, sl) (0, 0, 0, 0) 122 [(0, (2, 125))] [] M8 Q) ∧ (¬ (¬ r7 = 24) → zX G (y_Md_qGoesOn, h + 1, sl) (0, 0, 0, 0) 43 [(0, (2, 125))] [] M8 Q)))))))))) : zCt G (h + 1) sl 0 0 y_Md_qGoesOn [(2, 125)] M Q := by
  refine zCt.of (by decide +kernel) (Nat.le_of_ble_eq_true rfl) ?_
  refine x_aload_n (zdm d_Md_qGoesOn_0 0 rfl) rfl (n := 0) rfl ?_
  refine x_getf (zdm d_Md_qGoesOn_0 1 rfl) f_Md_237 rfl rfl ?_
  refine x_ifne (tgt := 122) (zdm d_Md_qGoesOn_0 2 rfl) (by decide) (fun c => ?_) (fun c => ?_)
  · have H := H.1 c
    exact H
  · have H := H.2 c
    refine x_aload_n (zdm d_Md_qGoesOn_0 3 rfl) rfl (n := 0) rfl ?_
    refine x_callVi (n := 0) (ci := 11) (zdm d_Md_qGoesOn_0 4 rfl) k_Md_249 (As := []) rfl rfl rfl ⟨_, _, rfl⟩ (Nat.le_of_ble_eq_true rfl) trivial H (fun r1 M2 hr H => ?_)
    refine x_bipush (zdm d_Md_qGoesOn_0 5 rfl) (by decide) ?_
    refine x_icmpne (tgt := 122) (zdm d_Md_qGoesOn_0 6 rfl) (by decide) (fun c => ?_) (fun c => ?_)
    · have H := H.1 c
      exact H
    · have H := H.2 c
      refine x_aload_n (zdm d_Md_qGoesOn_0 7 rfl) rfl (n := 0) rfl ?_
      refine x_callVi (n := 0) (ci := 11) (zdm d_Md_qGoesOn_0 8 rfl) k_Md_578 (As := []) rfl rfl rfl ⟨_, _, rfl⟩ (Nat.le_of_ble_eq_true rfl) trivial H (fun r3 M4 hr H => ?_)
      refine x_bipush (zdm d_Md_qGoesOn_0 9 rfl) (by decide) ?_
      refine x_icmpeq (tgt := 43) (zdm d_Md_qGoesOn_0 10 rfl) (by decide) (fun c => ?_) (fun c => ?_)
      · have H := H.1 c
        exact H
      · have H := H.2 c
        refine x_aload_n (zdm d_Md_qGoesOn_0 11 rfl) rfl (n := 0) rfl ?_
        refine x_callVi (n := 0) (ci := 11) (zdm d_Md_qGoesOn_0 12 rfl) k_Md_578 (As := []) rfl rfl rfl ⟨_, _, rfl⟩ (Nat.le_of_ble_eq_true rfl) trivial H (fun r5 M6 hr H => ?_)
        refine x_bipush (zdm d_Md_qGoesOn_0 13 rfl) (by decide) ?_
        refine x_icmpeq (tgt := 43) (zdm d_Md_qGoesOn_0 14 rfl) (by decide) (fun c => ?_) (fun c => ?_)
        · have H := H.1 c
          exact H
        · have H := H.2 c
          refine x_aload_n (zdm d_Md_qGoesOn_0 15 rfl) rfl (n := 0) rfl ?_
          refine x_callVi (n := 0) (ci := 11) (zdm d_Md_qGoesOn_0 16 rfl) k_Md_578 (As := []) rfl rfl rfl ⟨_, _, rfl⟩ (Nat.le_of_ble_eq_true rfl) trivial H (fun r7 M8 hr H => ?_)
          refine x_bipush (zdm d_Md_qGoesOn_0 17 rfl) (by decide) ?_
          refine x_icmpne (tgt := 122) (zdm d_Md_qGoesOn_0 18 rfl) (by decide) (fun c => ?_) (fun c => ?_)
          · have H := H.1 c
            exact H
          · have H := H.2 c
            exact H
