set_option maxRecDepth 20000 in
set_option maxHeartbeats 4000000 in
theorem E_Tablet_clear {G : zG} {h sl : Nat} (hsl : 1 ≤ sl) {l0 : Int} {M : zM} {Q : Int → zM → Prop} (H : (zK l0 = (8, 0)) ∧ (Q 0 (zwr (zwr (zwr (zwr (zwr M l0 2 0) l0 3 0) l0 4 0) l0 5 0) (l0 + 2) 2 0))) : zCt G h sl 0 0 y_Tablet_clear [(2, l0)] M Q := by
  refine zCt.of (by decide +kernel) (Nat.le_of_ble_eq_true rfl) ?_
  refine x_aload_n (zdm d_Tablet_clear_0 0 rfl) rfl (n := 0) rfl ?_
  refine x_iconst (zdm d_Tablet_clear_0 1 rfl) (zIl rfl) ?_
  obtain ⟨g1, H⟩ := H
  refine x_putf (zdm d_Tablet_clear_0 2 rfl) f_Tablet_32 g1 ⟨rfl, trivial⟩ (Or.inl rfl) ?_
  refine x_aload_n (zdm d_Tablet_clear_0 3 rfl) rfl (n := 0) rfl ?_
  refine x_iconst (zdm d_Tablet_clear_0 4 rfl) (zIl rfl) ?_
  refine x_putf (zdm d_Tablet_clear_0 5 rfl) f_Tablet_36 g1 ⟨rfl, trivial⟩ (Or.inl rfl) ?_
  refine x_aload_n (zdm d_Tablet_clear_0 6 rfl) rfl (n := 0) rfl ?_
  refine x_iconst (zdm d_Tablet_clear_0 7 rfl) (zIl rfl) ?_
  refine x_putf (zdm d_Tablet_clear_0 8 rfl) f_Tablet_39 g1 ⟨rfl, trivial⟩ (Or.inl rfl) ?_
  refine x_aload_n (zdm d_Tablet_clear_0 9 rfl) rfl (n := 0) rfl ?_
  refine x_iconst (zdm d_Tablet_clear_0 10 rfl) (zIl rfl) ?_
  refine x_putf (zdm d_Tablet_clear_0 11 rfl) f_Tablet_42 g1 ⟨rfl, (Or.inl rfl)⟩ (Or.inl rfl) ?_
  refine x_aload_n (zdm d_Tablet_clear_0 12 rfl) rfl (n := 0) rfl ?_
  refine x_getG (zdm d_Tablet_clear_0 13 rfl) f_Tablet_20 g1 rfl (by decide) hsl (zs_8 g1).2.1 ?_
  refine x_iconst (zdm d_Tablet_clear_0 14 rfl) (zIl rfl) ?_
  refine x_putf (zdm d_Tablet_clear_0 15 rfl) f_Tablet_46 (zs_8 g1).2.2 ⟨rfl, trivial⟩ (Or.inl rfl) ?_
  exact x_return (zdm d_Tablet_clear_0 16 rfl) rfl H
set_option maxRecDepth 20000 in
set_option maxHeartbeats 4000000 in
theorem B_Tablet_begin_22 {G : zG} {h sl : Nat} (hsl : 1 ≤ sl) {u : Nat × Nat × Nat × Nat} {l0 l1 l2 : Int} {M : zM} {Q : Int → zM → Prop} (H : (zK l0 = (8, 0)) ∧ (((M l0 2) ≤ l2 → Q 0 M) ∧ (¬ (M l0 2) ≤ l2 → (0 ≤ l2 ∧ l2 < 8) ∧ ((zK l1 = (4, 0)) ∧ (zCt G h sl 0 0 y_Line_go [(2, l1), (0, l2), (0, (M (l0 + 7 + 2 * l2) 5))] M (fun r3 M4 => zCt G h sl 0 0 y_Column_moves [(2, (l0 + 7 + 2 * l2))] M4 (fun r6 M7 => (r6 = 0 → zCt G h sl 0 0 y_Code_run [(2, (l0 + 2)), (0, (M7 (l0 + 7 + 2 * l2) 9)), (0, (M7 (l0 + 7 + 2 * l2) 10)), (2, l0)] M7 (fun r9 M10 => (zI (l2 + 1)) ∧ (zX G (y_Tablet_begin, h + 1, sl) u 22 [(0, (2, l0)), (1, (2, l1)), (2, (0, (l2 + 1)))] [] (zwr M10 (l1 + 1) l2 r9) Q))) ∧ (¬ r6 = 0 → (zI (l2 + 1)) ∧ (zX G (y_Tablet_begin, h + 1, sl) u 22 [(0, (2, l0)), (1, (2, l1)), (2, (0, (l2 + 1)))] [] (zwr M7 (l1 + 1) l2 (M7 (l0 + 7 + 2 * l2) 4)) Q))))))))) : zX G (y_Tablet_begin, h + 1, sl) u 22 [(0, (2, l0)), (1, (2, l1)), (2, (0, l2))] [] M Q := by
  refine x_iload_n (zdm d_Tablet_begin_0 14 rfl) rfl (n := 2) rfl ?_
  refine x_aload_n (zdm d_Tablet_begin_0 15 rfl) rfl (n := 0) rfl ?_
  obtain ⟨g1, H⟩ := H
  refine x_getf (zdm d_Tablet_begin_0 16 rfl) f_Tablet_32 g1 rfl ?_
  refine x_icmpge (tgt := 88) (zdm d_Tablet_begin_0 17 rfl) (by decide) (fun c => ?_) (fun c => ?_)
  · have H := H.1 c
    exact x_return (zdm d_Tablet_begin_0 48 rfl) rfl H
  · have H := H.2 c
    refine x_aload_n (zdm d_Tablet_begin_0 18 rfl) rfl (n := 0) rfl ?_
    refine x_getG (zdm d_Tablet_begin_0 19 rfl) f_Tablet_11 g1 rfl (by decide) hsl (zs_8 g1).1.1 ?_
    refine x_iload_n (zdm d_Tablet_begin_0 20 rfl) rfl (n := 2) rfl ?_
    obtain ⟨g2, H⟩ := H
    refine x_aald5G (zdm d_Tablet_begin_0 21 rfl) (zs_8 g1).1.2 g2 hsl (zs_cols g1 g2.1 g2.2).1 ?_
    refine x_astore_n (zdm d_Tablet_begin_0 22 rfl) rfl (zlt rfl) rfl ?_
    refine x_aload_n (zdm d_Tablet_begin_0 23 rfl) rfl (n := 2) rfl ?_
    refine x_iload_n (zdm d_Tablet_begin_0 24 rfl) rfl (n := 3) rfl ?_
    refine x_aload_n (zdm d_Tablet_begin_0 25 rfl) rfl (n := 0) rfl ?_
    refine x_getf (zdm d_Tablet_begin_0 26 rfl) f_Tablet_58 (zs_cols g1 g2.1 g2.2).2 rfl ?_
    obtain ⟨g5, H⟩ := H
    refine x_callVv (n := 2) (ci := 4) (zdm d_Tablet_begin_0 27 rfl) k_Tablet_61 (As := [(0, l2), (0, (M (l0 + 7 + 2 * l2) 5))]) rfl rfl g5 ⟨_, _, rfl⟩ (Nat.le_of_ble_eq_true rfl) rfl H (fun r3 M4 hr H => ?_)
    refine x_aload_n (zdm d_Tablet_begin_0 28 rfl) rfl (n := 2) rfl ?_
    refine x_getG (zdm d_Tablet_begin_0 29 rfl) f_Tablet_65 g5 rfl (by decide) hsl (zs_4 g5).1 ?_
    refine x_iload_n (zdm d_Tablet_begin_0 30 rfl) rfl (n := 3) rfl ?_
    refine x_aload_n (zdm d_Tablet_begin_0 31 rfl) rfl (n := 0) rfl ?_
    refine x_callVi (n := 0) (ci := 1) (zdm d_Tablet_begin_0 32 rfl) k_Tablet_69 (As := []) rfl rfl (zs_cols g1 g2.1 g2.2).2 ⟨_, _, rfl⟩ (Nat.le_of_ble_eq_true rfl) trivial H (fun r6 M7 hr H => ?_)
    have b8 : r6 = 0 ∨ r6 = 1 := hr
    refine x_ifeq (tgt := 65) (zdm d_Tablet_begin_0 33 rfl) (by decide) (fun c => ?_) (fun c => ?_)
    · have H := H.1 c
      refine x_aload_n (zdm d_Tablet_begin_0 37 rfl) rfl (n := 1) rfl ?_
      refine x_getG (zdm d_Tablet_begin_0 38 rfl) f_Tablet_20 g1 rfl (by decide) hsl (zs_8 g1).2.1 ?_
      refine x_aload_n (zdm d_Tablet_begin_0 39 rfl) rfl (n := 0) rfl ?_
      refine x_getf (zdm d_Tablet_begin_0 40 rfl) f_Tablet_76 (zs_cols g1 g2.1 g2.2).2 rfl ?_
      refine x_aload_n (zdm d_Tablet_begin_0 41 rfl) rfl (n := 0) rfl ?_
      refine x_getf (zdm d_Tablet_begin_0 42 rfl) f_Tablet_79 (zs_cols g1 g2.1 g2.2).2 rfl ?_
      refine x_aload_n (zdm d_Tablet_begin_0 43 rfl) rfl (n := 1) rfl ?_
      refine x_callVi (n := 3) (ci := 0) (zdm d_Tablet_begin_0 44 rfl) k_Tablet_82 (As := [(0, (M7 (l0 + 7 + 2 * l2) 9)), (0, (M7 (l0 + 7 + 2 * l2) 10)), (2, l0)]) rfl rfl (zs_8 g1).2.2 ⟨_, _, rfl⟩ (Nat.le_of_ble_eq_true rfl) trivial H (fun r9 M10 hr H => ?_)
      refine x_iast (zdm d_Tablet_begin_0 45 rfl) (zs_4 g5).2 g2 ?_
      obtain ⟨g11, H⟩ := H
      refine x_iinc (zdm d_Tablet_begin_0 46 rfl) (n := 3) rfl g11 (zlt rfl) rfl ?_
      refine x_goto (tgt := 22) (zdm d_Tablet_begin_0 47 rfl) (by decide) ?_
      exact zX.sub [2, 3, 0] rfl H
    · have H := H.2 c
      refine x_aload_n (zdm d_Tablet_begin_0 34 rfl) rfl (n := 0) rfl ?_
      refine x_getf (zdm d_Tablet_begin_0 35 rfl) f_Tablet_73 (zs_cols g1 g2.1 g2.2).2 rfl ?_
      refine x_goto (tgt := 81) (zdm d_Tablet_begin_0 36 rfl) (by decide) ?_
      refine x_iast (zdm d_Tablet_begin_0 45 rfl) (zs_4 g5).2 g2 ?_
      obtain ⟨g12, H⟩ := H
      refine x_iinc (zdm d_Tablet_begin_0 46 rfl) (n := 3) rfl g12 (zlt rfl) rfl ?_
      refine x_goto (tgt := 22) (zdm d_Tablet_begin_0 47 rfl) (by decide) ?_
      exact zX.sub [2, 3, 0] rfl H
set_option maxRecDepth 20000 in
set_option maxHeartbeats 4000000 in
theorem E_Tablet_begin {G : zG} {h sl : Nat} (hsl : 1 ≤ sl) {l0 l1 : Int} {M : zM} {Q : Int → zM → Prop} (H : (zK l1 = (4, 0)) ∧ ((zK l0 = (8, 0)) ∧ (zX G (y_Tablet_begin, h + 1, sl) (0, 0, 0, 0) 22 [(0, (2, l0)), (1, (2, l1)), (2, (0, 0))] [] (zwr (zwr (zwr (zwr M l1 1 0) l1 2 0) l0 8 l1) l0 9 0) Q))) : zCt G (h + 1) sl 0 0 y_Tablet_begin [(2, l0), (2, l1)] M Q := by
  refine zCt.of (by decide +kernel) (Nat.le_of_ble_eq_true rfl) ?_
  refine x_aload_n (zdm d_Tablet_begin_0 0 rfl) rfl (n := 1) rfl ?_
  refine x_iconst (zdm d_Tablet_begin_0 1 rfl) (zIl rfl) ?_
  obtain ⟨g1, H⟩ := H
  refine x_putf (zdm d_Tablet_begin_0 2 rfl) f_Tablet_49 g1 ⟨rfl, trivial⟩ (Or.inl rfl) ?_
  refine x_aload_n (zdm d_Tablet_begin_0 3 rfl) rfl (n := 1) rfl ?_
  refine x_iconst (zdm d_Tablet_begin_0 4 rfl) (zIl rfl) ?_
  refine x_putf (zdm d_Tablet_begin_0 5 rfl) f_Tablet_52 g1 ⟨rfl, trivial⟩ (Or.inl rfl) ?_
  refine x_aload_n (zdm d_Tablet_begin_0 6 rfl) rfl (n := 0) rfl ?_
  refine x_aload_n (zdm d_Tablet_begin_0 7 rfl) rfl (n := 1) rfl ?_
  obtain ⟨g2, H⟩ := H
  refine x_putf (zdm d_Tablet_begin_0 8 rfl) f_Tablet_27 g2 ⟨rfl, trivial⟩ (Or.inl rfl) ?_
  refine x_aload_n (zdm d_Tablet_begin_0 9 rfl) rfl (n := 0) rfl ?_
  refine x_iconst (zdm d_Tablet_begin_0 10 rfl) (zIl rfl) ?_
  refine x_putf (zdm d_Tablet_begin_0 11 rfl) f_Tablet_55 g2 ⟨rfl, trivial⟩ (Or.inl rfl) ?_
  refine x_iconst (zdm d_Tablet_begin_0 12 rfl) (zIl rfl) ?_
  refine x_istore_n (zdm d_Tablet_begin_0 13 rfl) rfl (zlt rfl) rfl ?_
  exact zX.sub [1, 2, 0] rfl H
set_option maxRecDepth 20000 in
set_option maxHeartbeats 4000000 in
theorem B_Tablet_next_46 {G : zG} {h sl : Nat} (hsl : 1 ≤ sl) {u : Nat × Nat × Nat × Nat} {l0 l1 l2 l3 l4 s0 s1 s2 s3 : Int} {M : zM} {Q : Int → zM → Prop} (H : (zK s3 = (8, 0)) ∧ (zCt G h sl 0 0 y_Tablet_move [(2, s3), (2, s2), (0, s1), (0, s0)] M (fun r1 M2 => (zI (l4 + 1)) ∧ (zX G (y_Tablet_next, h + 1, sl) u 13 [(0, (2, l0)), (1, (2, l1)), (2, (0, l2)), (3, (0, l3)), (4, (0, (l4 + 1)))] [] M2 Q)))) : zX G (y_Tablet_next, h + 1, sl) u 46 [(0, (2, l0)), (1, (2, l1)), (2, (0, l2)), (3, (0, l3)), (4, (0, l4))] [(0, s0), (0, s1), (2, s2), (2, s3)] M Q := by
  obtain ⟨g3, H⟩ := H
  refine x_callVv (n := 3) (ci := 8) (zdm d_Tablet_next_0 25 rfl) k_Tablet_89 (As := [(2, s2), (0, s1), (0, s0)]) rfl rfl g3 ⟨_, _, rfl⟩ (Nat.le_of_ble_eq_true rfl) rfl H (fun r1 M2 hr H => ?_)
  obtain ⟨g4, H⟩ := H
  refine x_iinc (zdm d_Tablet_next_0 26 rfl) (n := 4) rfl g4 (zlt rfl) rfl ?_
  refine x_goto (tgt := 13) (zdm d_Tablet_next_0 27 rfl) (by decide) ?_
  exact zX.sub [1, 2, 3, 4, 0] rfl H
set_option maxRecDepth 20000 in
set_option maxHeartbeats 4000000 in
theorem B_Tablet_next_13 {G : zG} {h sl : Nat} (hsl : 1 ≤ sl) {u : Nat × Nat × Nat × Nat} {l0 l1 l2 l3 l4 : Int} {M : zM} {Q : Int → zM → Prop} (H : (zK l0 = (8, 0)) ∧ (((M l0 2) ≤ l4 → Q 0 M) ∧ (¬ (M l0 2) ≤ l4 → (¬ l4 = l2 → (0 ≤ l4 ∧ l4 < 8) ∧ (zX G (y_Tablet_next, h + 1, sl) u 46 [(0, (2, l0)), (1, (2, l1)), (2, (0, l2)), (3, (0, l3)), (4, (0, l4))] [(0, (M (l0 + 7 + 2 * l4) 6)), (0, l4), (2, l1), (2, l0)] M Q)) ∧ (¬ (¬ l4 = l2) → zX G (y_Tablet_next, h + 1, sl) u 46 [(0, (2, l0)), (1, (2, l1)), (2, (0, l2)), (3, (0, l3)), (4, (0, l4))] [(0, l3), (0, l4), (2, l1), (2, l0)] M Q)))) : zX G (y_Tablet_next, h + 1, sl) u 13 [(0, (2, l0)), (1, (2, l1)), (2, (0, l2)), (3, (0, l3)), (4, (0, l4))] [] M Q := by
  refine x_iload (zdm d_Tablet_next_0 8 rfl) (n := 4) rfl ?_
  refine x_aload_n (zdm d_Tablet_next_0 9 rfl) rfl (n := 0) rfl ?_
  obtain ⟨g1, H⟩ := H
  refine x_getf (zdm d_Tablet_next_0 10 rfl) f_Tablet_32 g1 rfl ?_
  refine x_icmpge (tgt := 55) (zdm d_Tablet_next_0 11 rfl) (by decide) (fun c => ?_) (fun c => ?_)
  · have H := H.1 c
    exact x_return (zdm d_Tablet_next_0 28 rfl) rfl H
  · have H := H.2 c
    refine x_aload_n (zdm d_Tablet_next_0 12 rfl) rfl (n := 0) rfl ?_
    refine x_aload_n (zdm d_Tablet_next_0 13 rfl) rfl (n := 1) rfl ?_
    refine x_iload (zdm d_Tablet_next_0 14 rfl) (n := 4) rfl ?_
    refine x_iload (zdm d_Tablet_next_0 15 rfl) (n := 4) rfl ?_
    refine x_iload_n (zdm d_Tablet_next_0 16 rfl) rfl (n := 2) rfl ?_
    refine x_icmpne (tgt := 36) (zdm d_Tablet_next_0 17 rfl) (by decide) (fun c => ?_) (fun c => ?_)
    · have H := H.1 c
      refine x_aload_n (zdm d_Tablet_next_0 20 rfl) rfl (n := 0) rfl ?_
      refine x_getG (zdm d_Tablet_next_0 21 rfl) f_Tablet_11 g1 rfl (by decide) hsl (zs_8 g1).1.1 ?_
      refine x_iload (zdm d_Tablet_next_0 22 rfl) (n := 4) rfl ?_
      obtain ⟨g2, H⟩ := H
      refine x_aald5G (zdm d_Tablet_next_0 23 rfl) (zs_8 g1).1.2 g2 hsl (zs_cols g1 g2.1 g2.2).1 ?_
      refine x_getf (zdm d_Tablet_next_0 24 rfl) f_Tablet_86 (zs_cols g1 g2.1 g2.2).2 rfl ?_
      exact H
    · have H := H.2 c
      refine x_iload_n (zdm d_Tablet_next_0 18 rfl) rfl (n := 3) rfl ?_
      refine x_goto (tgt := 46) (zdm d_Tablet_next_0 19 rfl) (by decide) ?_
      exact H
set_option maxRecDepth 20000 in
set_option maxHeartbeats 4000000 in
theorem E_Tablet_next {G : zG} {h sl : Nat} (hsl : 1 ≤ sl) {l0 l1 l2 l3 : Int} {M : zM} {Q : Int → zM → Prop} (H : (zK l1 = (4, 0)) ∧ ((zI ((M l1 1) + 1)) ∧ (zX G (y_Tablet_next, h + 1, sl) (0, 0, 0, 0) 13 [(0, (2, l0)), (1, (2, l1)), (2, (0, l2)), (3, (0, l3)), (4, (0, 0))] [] (zwr M l1 1 ((M l1 1) + 1)) Q))) : zCt G (h + 1) sl 0 0 y_Tablet_next [(2, l0), (2, l1), (0, l2), (0, l3)] M Q := by
  refine zCt.of (by decide +kernel) (Nat.le_of_ble_eq_true rfl) ?_
  refine x_aload_n (zdm d_Tablet_next_0 0 rfl) rfl (n := 1) rfl ?_
  refine x_dup (zdm d_Tablet_next_0 1 rfl) z2n1 ?_
  obtain ⟨g1, H⟩ := H
  refine x_getf (zdm d_Tablet_next_0 2 rfl) f_Tablet_49 g1 rfl ?_
  refine x_iconst (zdm d_Tablet_next_0 3 rfl) (zIl rfl) ?_
  obtain ⟨g2, H⟩ := H
  refine x_iadd (zdm d_Tablet_next_0 4 rfl) g2 ?_
  refine x_putf (zdm d_Tablet_next_0 5 rfl) f_Tablet_49 g1 ⟨rfl, trivial⟩ (Or.inl rfl) ?_
  refine x_iconst (zdm d_Tablet_next_0 6 rfl) (zIl rfl) ?_
  refine x_istore (zdm d_Tablet_next_0 7 rfl) (zlt rfl) rfl ?_
  exact zX.sub [1, 2, 3, 4, 0] rfl H
set_option maxRecDepth 20000 in
set_option maxHeartbeats 4000000 in
theorem B_Tablet_move_114 {G : zG} {h sl : Nat} (hsl : 1 ≤ sl) {u : Nat × Nat × Nat × Nat} {l1 l2 l5 l6 l7 s0 : Int} {M : zM} {Q : Int → zM → Prop} (H : (zK l1 = (4, 0)) ∧ ((s0 = 0 → (0 ≤ l2 ∧ l2 < 8) ∧ (Q 0 (zwr M (l1 + 1) l2 l6))) ∧ (¬ s0 = 0 → (zI (l5 + l6)) ∧ (zCt G h sl 0 0 y_Jm_floorMod [(0, (l5 + l6)), (0, l7)] M (fun r4 M5 => (0 ≤ l2 ∧ l2 < 8) ∧ (Q 0 (zwr M5 (l1 + 1) l2 r4))))))) : zX G (y_Tablet_move, h + 1, sl) u 114 [(1, (2, l1)), (2, (0, l2)), (5, (0, l5)), (6, (0, l6)), (7, (0, l7))] [(0, s0)] M Q := by
  refine x_istore (zdm d_Tablet_move_1 0 rfl) (zlt rfl) rfl ?_
  refine x_aload_n (zdm d_Tablet_move_1 1 rfl) rfl (n := 1) rfl ?_
  obtain ⟨g1, H⟩ := H
  refine x_getG (zdm d_Tablet_move_1 2 rfl) f_Tablet_65 g1 rfl (by decide) hsl (zs_4 g1).1 ?_
  refine x_iload_n (zdm d_Tablet_move_1 3 rfl) rfl (n := 2) rfl ?_
  refine x_iload (zdm d_Tablet_move_1 4 rfl) (n := 0) rfl ?_
  refine x_ifeq (tgt := 139) (zdm d_Tablet_move_1 5 rfl) (by decide) (fun c => ?_) (fun c => ?_)
  · have H := H.1 c
    refine x_iload (zdm d_Tablet_move_1 12 rfl) (n := 4) rfl ?_
    obtain ⟨g2, H⟩ := H
    refine x_iast (zdm d_Tablet_move_1 13 rfl) (zs_4 g1).2 g2 ?_
    exact x_return (zdm d_Tablet_move_1 14 rfl) rfl H
  · have H := H.2 c
    refine x_iload (zdm d_Tablet_move_1 6 rfl) (n := 3) rfl ?_
    refine x_iload (zdm d_Tablet_move_1 7 rfl) (n := 4) rfl ?_
    obtain ⟨g3, H⟩ := H
    refine x_iadd (zdm d_Tablet_move_1 8 rfl) g3 ?_
    refine x_iload (zdm d_Tablet_move_1 9 rfl) (n := 5) rfl ?_
    refine x_callSi (n := 2) (zdm d_Tablet_move_1 10 rfl) k_Tablet_106 (As := [(0, (l5 + l6)), (0, l7)]) rfl rfl (Nat.le_of_ble_eq_true rfl) trivial H (fun r4 M5 hr H => ?_)
    refine x_goto (tgt := 141) (zdm d_Tablet_move_1 11 rfl) (by decide) ?_
    obtain ⟨g6, H⟩ := H
    refine x_iast (zdm d_Tablet_move_1 13 rfl) (zs_4 g1).2 g6 ?_
    exact x_return (zdm d_Tablet_move_1 14 rfl) rfl H
set_option maxRecDepth 20000 in
set_option maxHeartbeats 4000000 in
theorem E_Tablet_move {G : zG} {h sl : Nat} (hsl : 1 ≤ sl) {l0 l1 l2 l3 : Int} {M : zM} {Q : Int → zM → Prop} (H : (zK l0 = (8, 0)) ∧ ((0 ≤ l2 ∧ l2 < 8) ∧ ((zK l1 = (4, 0)) ∧ ((¬ (M (l0 + 7 + 2 * l2) 1) = 0 → (¬ (M (l0 + 7 + 2 * l2) 1) = 1 → zCt G h sl 0 0 y_Code_run [(2, (l0 + 2)), (0, ((zwr (zwr M l0 8 l1) l0 9 (M (l1 + 1) l2)) (l0 + 7 + 2 * l2) 9)), (0, ((zwr (zwr M l0 8 l1) l0 9 (M (l1 + 1) l2)) (l0 + 7 + 2 * l2) 10)), (2, l0)] (zwr (zwr M l0 8 l1) l0 9 (M (l1 + 1) l2)) (fun r4 M5 => (zI ((M5 (l0 + 7 + 2 * l2) 3) + 1)) ∧ ((¬ (M5 (l0 + 7 + 2 * l2) 1) = 2 → zX G (y_Tablet_move, h + 1, sl) (0, 0, 0, 0) 114 [(1, (2, l1)), (2, (0, l2)), (5, (0, (M (l1 + 1) l2))), (6, (0, r4)), (7, (0, ((M5 (l0 + 7 + 2 * l2) 3) + 1)))] [(0, 0)] M5 Q) ∧ (¬ (¬ (M5 (l0 + 7 + 2 * l2) 1) = 2) → (((M5 (l0 + 7 + 2 * l2) 3) + 1) ≤ 0 → zX G (y_Tablet_move, h + 1, sl) (0, 0, 0, 0) 114 [(1, (2, l1)), (2, (0, l2)), (5, (0, (M (l1 + 1) l2))), (6, (0, r4)), (7, (0, ((M5 (l0 + 7 + 2 * l2) 3) + 1)))] [(0, 0)] M5 Q) ∧ (¬ ((M5 (l0 + 7 + 2 * l2) 3) + 1) ≤ 0 → zX G (y_Tablet_move, h + 1, sl) (0, 0, 0, 0) 114 [(1, (2, l1)), (2, (0, l2)), (5, (0, (M (l1 + 1) l2))), (6, (0, r4)), (7, (0, ((M5 (l0 + 7 + 2 * l2) 3) + 1)))] [(0, 1)] M5 Q))))) ∧ (¬ (¬ (M (l0 + 7 + 2 * l2) 1) = 1) → zCt G h sl 0 0 y_Column_arcBehind [(2, (l0 + 7 + 2 * l2)), (0, (M (l1 + 1) l2))] M (fun r7 M8 => Q 0 (zwr M8 (l1 + 1) l2 r7)))) ∧ (¬ (¬ (M (l0 + 7 + 2 * l2) 1) = 0) → zCt G h sl 0 0 y_Tablet_moveZig [(2, l0), (2, l1), (0, l2), (0, l3)] M (fun r9 M10 => Q 0 M10)))))) : zCt G (h + 1) sl 0 0 y_Tablet_move [(2, l0), (2, l1), (0, l2), (0, l3)] M Q := by
  refine zCt.of (by decide +kernel) (Nat.le_of_ble_eq_true rfl) ?_
  refine x_aload_n (zdm d_Tablet_move_0 0 rfl) rfl (n := 0) rfl ?_
  obtain ⟨g1, H⟩ := H
  refine x_getG (zdm d_Tablet_move_0 1 rfl) f_Tablet_11 g1 rfl (by decide) hsl (zs_8 g1).1.1 ?_
  refine x_iload_n (zdm d_Tablet_move_0 2 rfl) rfl (n := 2) rfl ?_
  obtain ⟨g2, H⟩ := H
  refine x_aald5G (zdm d_Tablet_move_0 3 rfl) (zs_8 g1).1.2 g2 hsl (zs_cols g1 g2.1 g2.2).1 ?_
  refine x_astore (zdm d_Tablet_move_0 4 rfl) (zlt rfl) rfl ?_
  refine x_aload_n (zdm d_Tablet_move_0 5 rfl) rfl (n := 2) rfl ?_
  obtain ⟨g3, H⟩ := H
  refine x_getG (zdm d_Tablet_move_0 6 rfl) f_Tablet_65 g3 rfl (by decide) hsl (zs_4 g3).1 ?_
  refine x_iload_n (zdm d_Tablet_move_0 7 rfl) rfl (n := 3) rfl ?_
  refine x_iald (zdm d_Tablet_move_0 8 rfl) (zs_4 g3).2 g2 ?_
  refine x_istore (zdm d_Tablet_move_0 9 rfl) (zlt rfl) rfl ?_
  refine x_aload (zdm d_Tablet_move_0 10 rfl) (n := 1) rfl ?_
  refine x_getf (zdm d_Tablet_move_0 11 rfl) f_Tablet_93 (zs_cols g1 g2.1 g2.2).2 rfl ?_
  refine x_ifne (tgt := 32) (zdm d_Tablet_move_0 12 rfl) (by decide) (fun c => ?_) (fun c => ?_)
  · have H := H.1 c
    refine x_aload (zdm d_Tablet_move_0 19 rfl) (n := 1) rfl ?_
    refine x_getf (zdm d_Tablet_move_0 20 rfl) f_Tablet_93 (zs_cols g1 g2.1 g2.2).2 rfl ?_
    refine x_iconst (zdm d_Tablet_move_0 21 rfl) (zIl rfl) ?_
    refine x_icmpne (tgt := 55) (zdm d_Tablet_move_0 22 rfl) (by decide) (fun c => ?_) (fun c => ?_)
    · have H := H.1 c
      refine x_aload_n (zdm d_Tablet_move_0 31 rfl) rfl (n := 2) rfl ?_
      refine x_aload_n (zdm d_Tablet_move_0 32 rfl) rfl (n := 3) rfl ?_
      refine x_putf (zdm d_Tablet_move_0 33 rfl) f_Tablet_27 g1 ⟨rfl, trivial⟩ (Or.inl rfl) ?_
      refine x_aload_n (zdm d_Tablet_move_0 34 rfl) rfl (n := 2) rfl ?_
      refine x_iload (zdm d_Tablet_move_0 35 rfl) (n := 0) rfl ?_
      refine x_putf (zdm d_Tablet_move_0 36 rfl) f_Tablet_55 g1 ⟨rfl, trivial⟩ (Or.inl rfl) ?_
      refine x_aload_n (zdm d_Tablet_move_0 37 rfl) rfl (n := 2) rfl ?_
      refine x_getG (zdm d_Tablet_move_0 38 rfl) f_Tablet_20 g1 rfl (by decide) hsl (zs_8 g1).2.1 ?_
      refine x_aload (zdm d_Tablet_move_0 39 rfl) (n := 1) rfl ?_
      refine x_getf (zdm d_Tablet_move_0 40 rfl) f_Tablet_76 (zs_cols g1 g2.1 g2.2).2 rfl ?_
      refine x_aload (zdm d_Tablet_move_0 41 rfl) (n := 1) rfl ?_
      refine x_getf (zdm d_Tablet_move_0 42 rfl) f_Tablet_79 (zs_cols g1 g2.1 g2.2).2 rfl ?_
      refine x_aload_n (zdm d_Tablet_move_0 43 rfl) rfl (n := 2) rfl ?_
      refine x_callVi (n := 3) (ci := 0) (zdm d_Tablet_move_0 44 rfl) k_Tablet_82 (As := [(0, ((zwr (zwr M l0 8 l1) l0 9 (M (l1 + 1) l2)) (l0 + 7 + 2 * l2) 9)), (0, ((zwr (zwr M l0 8 l1) l0 9 (M (l1 + 1) l2)) (l0 + 7 + 2 * l2) 10)), (2, l0)]) rfl rfl (zs_8 g1).2.2 ⟨_, _, rfl⟩ (Nat.le_of_ble_eq_true rfl) trivial H (fun r4 M5 hr H => ?_)
      refine x_istore (zdm d_Tablet_move_0 45 rfl) (zlt rfl) rfl ?_
      refine x_aload (zdm d_Tablet_move_0 46 rfl) (n := 2) rfl ?_
      refine x_getf (zdm d_Tablet_move_0 47 rfl) f_Tablet_103 (zs_cols g1 g2.1 g2.2).2 rfl ?_
      refine x_iconst (zdm d_Tablet_move_0 48 rfl) (zIl rfl) ?_
      obtain ⟨g6, H⟩ := H
      refine x_iadd (zdm d_Tablet_move_0 49 rfl) g6 ?_
      refine x_istore (zdm d_Tablet_move_0 50 rfl) (zlt rfl) rfl ?_
      refine x_aload (zdm d_Tablet_move_0 51 rfl) (n := 3) rfl ?_
      refine x_getf (zdm d_Tablet_move_0 52 rfl) f_Tablet_93 (zs_cols g1 g2.1 g2.2).2 rfl ?_
      refine x_iconst (zdm d_Tablet_move_0 53 rfl) (zIl rfl) ?_
      refine x_icmpne (tgt := 113) (zdm d_Tablet_move_0 54 rfl) (by decide) (fun c => ?_) (fun c => ?_)
      · have H := H.1 c
        refine x_iconst (zdm d_Tablet_move_0 59 rfl) (zIl rfl) ?_
        exact zX.sub [5, 6, 2, 1, 0] rfl H
      · have H := H.2 c
        refine x_iload (zdm d_Tablet_move_0 55 rfl) (n := 0) rfl ?_
        refine x_ifle (tgt := 113) (zdm d_Tablet_move_0 56 rfl) (by decide) (fun c => ?_) (fun c => ?_)
        · have H := H.1 c
          refine x_iconst (zdm d_Tablet_move_0 59 rfl) (zIl rfl) ?_
          exact zX.sub [5, 6, 2, 1, 0] rfl H
        · have H := H.2 c
          refine x_iconst (zdm d_Tablet_move_0 57 rfl) (zIl rfl) ?_
          refine x_goto (tgt := 114) (zdm d_Tablet_move_0 58 rfl) (by decide) ?_
          exact zX.sub [5, 6, 2, 1, 0] rfl H
    · have H := H.2 c
      refine x_aload_n (zdm d_Tablet_move_0 23 rfl) rfl (n := 3) rfl ?_
      refine x_getG (zdm d_Tablet_move_0 24 rfl) f_Tablet_65 g3 rfl (by decide) hsl (zs_4 g3).1 ?_
      refine x_iload_n (zdm d_Tablet_move_0 25 rfl) rfl (n := 4) rfl ?_
      refine x_aload (zdm d_Tablet_move_0 26 rfl) (n := 1) rfl ?_
      refine x_iload (zdm d_Tablet_move_0 27 rfl) (n := 0) rfl ?_
      refine x_callVi (n := 1) (ci := 1) (zdm d_Tablet_move_0 28 rfl) k_Tablet_99 (As := [(0, (M (l1 + 1) l2))]) rfl rfl (zs_cols g1 g2.1 g2.2).2 ⟨_, _, rfl⟩ (Nat.le_of_ble_eq_true rfl) trivial H (fun r7 M8 hr H => ?_)
      refine x_iast (zdm d_Tablet_move_0 29 rfl) (zs_4 g3).2 g2 ?_
      exact x_return (zdm d_Tablet_move_0 30 rfl) rfl H
  · have H := H.2 c
    refine x_aload_n (zdm d_Tablet_move_0 13 rfl) rfl (n := 2) rfl ?_
    refine x_aload_n (zdm d_Tablet_move_0 14 rfl) rfl (n := 3) rfl ?_
    refine x_iload_n (zdm d_Tablet_move_0 15 rfl) rfl (n := 4) rfl ?_
    refine x_iload_n (zdm d_Tablet_move_0 16 rfl) rfl (n := 5) rfl ?_
    refine x_callVv (n := 3) (ci := 8) (zdm d_Tablet_move_0 17 rfl) k_Tablet_96 (As := [(2, l1), (0, l2), (0, l3)]) rfl rfl g1 ⟨_, _, rfl⟩ (Nat.le_of_ble_eq_true rfl) rfl H (fun r9 M10 hr H => ?_)
    exact x_return (zdm d_Tablet_move_0 18 rfl) rfl H
set_option maxRecDepth 20000 in
set_option maxHeartbeats 4000000 in
theorem B_Tablet_moveZig_35 {G : zG} {h sl : Nat} (hsl : 1 ≤ sl) {u : Nat × Nat × Nat × Nat} {l1 l2 l4 s0 : Int} {M : zM} {Q : Int → zM → Prop} (H : (zK l4 = (1, 0)) ∧ ((s0 ≤ (M l4 3) → ((M l4 2) ≤ s0 → (zK l1 = (4, 0)) ∧ ((0 ≤ l2 ∧ l2 < 8) ∧ (Q 0 (zwr M (l1 + 1) l2 s0)))) ∧ (¬ (M l4 2) ≤ s0 → (zI (2 * (M l4 2))) ∧ ((zI ((2 * (M l4 2)) - s0)) ∧ ((zK l1 = (4, 0)) ∧ (zCt G h sl 0 0 y_Line_go [(2, l1), (0, l2), (0, 1)] M (fun r6 M7 => (0 ≤ l2 ∧ l2 < 8) ∧ (Q 0 (zwr M7 (l1 + 1) l2 ((2 * (M l4 2)) - s0))))))))) ∧ (¬ s0 ≤ (M l4 3) → (zI (2 * (M l4 3))) ∧ ((zI ((2 * (M l4 3)) - s0)) ∧ ((zK l1 = (4, 0)) ∧ (zCt G h sl 0 0 y_Line_go [(2, l1), (0, l2), (0, 0)] M (fun r12 M13 => (0 ≤ l2 ∧ l2 < 8) ∧ (Q 0 (zwr M13 (l1 + 1) l2 ((2 * (M l4 3)) - s0)))))))))) : zX G (y_Tablet_moveZig, h + 1, sl) u 35 [(1, (2, l1)), (2, (0, l2)), (4, (2, l4))] [(0, s0)] M Q := by
  refine x_istore (zdm d_Tablet_moveZig_0 22 rfl) (zlt rfl) rfl ?_
  refine x_iload (zdm d_Tablet_moveZig_0 23 rfl) (n := 0) rfl ?_
  refine x_aload (zdm d_Tablet_moveZig_0 24 rfl) (n := 3) rfl ?_
  obtain ⟨g1, H⟩ := H
  refine x_getf (zdm d_Tablet_moveZig_0 25 rfl) f_Tablet_103 g1 rfl ?_
  refine x_icmple (tgt := 68) (zdm d_Tablet_moveZig_0 26 rfl) (by decide) (fun c => ?_) (fun c => ?_)
  · have H := H.1 c
    refine x_iload (zdm d_Tablet_moveZig_0 39 rfl) (n := 0) rfl ?_
    refine x_aload (zdm d_Tablet_moveZig_0 40 rfl) (n := 3) rfl ?_
    refine x_getf (zdm d_Tablet_moveZig_0 41 rfl) f_Tablet_116 g1 rfl ?_
    refine x_icmpge (tgt := 96) (zdm d_Tablet_moveZig_0 42 rfl) (by decide) (fun c => ?_) (fun c => ?_)
    · have H := H.1 c
      refine x_aload_n (zdm d_Tablet_moveZig_0 54 rfl) rfl (n := 1) rfl ?_
      obtain ⟨g2, H⟩ := H
      refine x_getG (zdm d_Tablet_moveZig_0 55 rfl) f_Tablet_65 g2 rfl (by decide) hsl (zs_4 g2).1 ?_
      refine x_iload_n (zdm d_Tablet_moveZig_0 56 rfl) rfl (n := 2) rfl ?_
      refine x_iload (zdm d_Tablet_moveZig_0 57 rfl) (n := 0) rfl ?_
      obtain ⟨g3, H⟩ := H
      refine x_iast (zdm d_Tablet_moveZig_0 58 rfl) (zs_4 g2).2 g3 ?_
      exact x_return (zdm d_Tablet_moveZig_0 59 rfl) rfl H
    · have H := H.2 c
      refine x_iconst (zdm d_Tablet_moveZig_0 43 rfl) (zIl rfl) ?_
      refine x_aload (zdm d_Tablet_moveZig_0 44 rfl) (n := 3) rfl ?_
      refine x_getf (zdm d_Tablet_moveZig_0 45 rfl) f_Tablet_116 g1 rfl ?_
      obtain ⟨g4, H⟩ := H
      refine x_imul (zdm d_Tablet_moveZig_0 46 rfl) g4 ?_
      refine x_iload (zdm d_Tablet_moveZig_0 47 rfl) (n := 0) rfl ?_
      obtain ⟨g5, H⟩ := H
      refine x_isub (zdm d_Tablet_moveZig_0 48 rfl) g5 ?_
      refine x_istore (zdm d_Tablet_moveZig_0 49 rfl) (zlt rfl) rfl ?_
      refine x_aload_n (zdm d_Tablet_moveZig_0 50 rfl) rfl (n := 1) rfl ?_
      refine x_iload_n (zdm d_Tablet_moveZig_0 51 rfl) rfl (n := 2) rfl ?_
      refine x_iconst (zdm d_Tablet_moveZig_0 52 rfl) (zIl rfl) ?_
      obtain ⟨g8, H⟩ := H
      refine x_callVv (n := 2) (ci := 4) (zdm d_Tablet_moveZig_0 53 rfl) k_Tablet_61 (As := [(0, l2), (0, 1)]) rfl rfl g8 ⟨_, _, rfl⟩ (Nat.le_of_ble_eq_true rfl) rfl H (fun r6 M7 hr H => ?_)
      refine x_aload_n (zdm d_Tablet_moveZig_0 54 rfl) rfl (n := 1) rfl ?_
      refine x_getG (zdm d_Tablet_moveZig_0 55 rfl) f_Tablet_65 g8 rfl (by decide) hsl (zs_4 g8).1 ?_
      refine x_iload_n (zdm d_Tablet_moveZig_0 56 rfl) rfl (n := 2) rfl ?_
      refine x_iload (zdm d_Tablet_moveZig_0 57 rfl) (n := 0) rfl ?_
      obtain ⟨g9, H⟩ := H
      refine x_iast (zdm d_Tablet_moveZig_0 58 rfl) (zs_4 g8).2 g9 ?_
      exact x_return (zdm d_Tablet_moveZig_0 59 rfl) rfl H
  · have H := H.2 c
    refine x_iconst (zdm d_Tablet_moveZig_0 27 rfl) (zIl rfl) ?_
    refine x_aload (zdm d_Tablet_moveZig_0 28 rfl) (n := 3) rfl ?_
    refine x_getf (zdm d_Tablet_moveZig_0 29 rfl) f_Tablet_103 g1 rfl ?_
    obtain ⟨g10, H⟩ := H
    refine x_imul (zdm d_Tablet_moveZig_0 30 rfl) g10 ?_
    refine x_iload (zdm d_Tablet_moveZig_0 31 rfl) (n := 0) rfl ?_
    obtain ⟨g11, H⟩ := H
    refine x_isub (zdm d_Tablet_moveZig_0 32 rfl) g11 ?_
    refine x_istore (zdm d_Tablet_moveZig_0 33 rfl) (zlt rfl) rfl ?_
    refine x_aload_n (zdm d_Tablet_moveZig_0 34 rfl) rfl (n := 1) rfl ?_
    refine x_iload_n (zdm d_Tablet_moveZig_0 35 rfl) rfl (n := 2) rfl ?_
    refine x_iconst (zdm d_Tablet_moveZig_0 36 rfl) (zIl rfl) ?_
    obtain ⟨g14, H⟩ := H
    refine x_callVv (n := 2) (ci := 4) (zdm d_Tablet_moveZig_0 37 rfl) k_Tablet_61 (As := [(0, l2), (0, 0)]) rfl rfl g14 ⟨_, _, rfl⟩ (Nat.le_of_ble_eq_true rfl) rfl H (fun r12 M13 hr H => ?_)
    refine x_goto (tgt := 96) (zdm d_Tablet_moveZig_0 38 rfl) (by decide) ?_
    refine x_aload_n (zdm d_Tablet_moveZig_0 54 rfl) rfl (n := 1) rfl ?_
    refine x_getG (zdm d_Tablet_moveZig_0 55 rfl) f_Tablet_65 g14 rfl (by decide) hsl (zs_4 g14).1 ?_
    refine x_iload_n (zdm d_Tablet_moveZig_0 56 rfl) rfl (n := 2) rfl ?_
    refine x_iload (zdm d_Tablet_moveZig_0 57 rfl) (n := 0) rfl ?_
    obtain ⟨g15, H⟩ := H
    refine x_iast (zdm d_Tablet_moveZig_0 58 rfl) (zs_4 g14).2 g15 ?_
    exact x_return (zdm d_Tablet_moveZig_0 59 rfl) rfl H
set_option maxRecDepth 20000 in
set_option maxHeartbeats 4000000 in
theorem E_Tablet_moveZig {G : zG} {h sl : Nat} (hsl : 1 ≤ sl) {l0 l1 l2 l3 : Int} {M : zM} {Q : Int → zM → Prop} (H : (zK l0 = (8, 0)) ∧ ((0 ≤ l2 ∧ l2 < 8) ∧ ((zK l1 = (4, 0)) ∧ (zCt G h sl 0 0 y_Line_goesUp [(2, l1), (0, l2)] M (fun r3 M4 => (r3 = 0 → (zI ((M4 (l1 + 1) l2) - l3)) ∧ (zX G (y_Tablet_moveZig, h + 1, sl) (0, 0, 0, 0) 35 [(1, (2, l1)), (2, (0, l2)), (4, (2, (l0 + 7 + 2 * l2)))] [(0, ((M4 (l1 + 1) l2) - l3))] M4 Q)) ∧ (¬ r3 = 0 → (zI ((M4 (l1 + 1) l2) + l3)) ∧ (zX G (y_Tablet_moveZig, h + 1, sl) (0, 0, 0, 0) 35 [(1, (2, l1)), (2, (0, l2)), (4, (2, (l0 + 7 + 2 * l2)))] [(0, ((M4 (l1 + 1) l2) + l3))] M4 Q))))))) : zCt G (h + 1) sl 0 0 y_Tablet_moveZig [(2, l0), (2, l1), (0, l2), (0, l3)] M Q := by
  refine zCt.of (by decide +kernel) (Nat.le_of_ble_eq_true rfl) ?_
  refine x_aload_n (zdm d_Tablet_moveZig_0 0 rfl) rfl (n := 0) rfl ?_
  obtain ⟨g1, H⟩ := H
  refine x_getG (zdm d_Tablet_moveZig_0 1 rfl) f_Tablet_11 g1 rfl (by decide) hsl (zs_8 g1).1.1 ?_
  refine x_iload_n (zdm d_Tablet_moveZig_0 2 rfl) rfl (n := 2) rfl ?_
  obtain ⟨g2, H⟩ := H
  refine x_aald5G (zdm d_Tablet_moveZig_0 3 rfl) (zs_8 g1).1.2 g2 hsl (zs_cols g1 g2.1 g2.2).1 ?_
  refine x_astore (zdm d_Tablet_moveZig_0 4 rfl) (zlt rfl) rfl ?_
  refine x_aload_n (zdm d_Tablet_moveZig_0 5 rfl) rfl (n := 2) rfl ?_
  refine x_iload_n (zdm d_Tablet_moveZig_0 6 rfl) rfl (n := 3) rfl ?_
  obtain ⟨g5, H⟩ := H
  refine x_callVi (n := 1) (ci := 4) (zdm d_Tablet_moveZig_0 7 rfl) k_Tablet_112 (As := [(0, l2)]) rfl rfl g5 ⟨_, _, rfl⟩ (Nat.le_of_ble_eq_true rfl) trivial H (fun r3 M4 hr H => ?_)
  have b6 : r3 = 0 ∨ r3 = 1 := hr
  refine x_ifeq (tgt := 27) (zdm d_Tablet_moveZig_0 8 rfl) (by decide) (fun c => ?_) (fun c => ?_)
  · have H := H.1 c
    refine x_aload_n (zdm d_Tablet_moveZig_0 16 rfl) rfl (n := 2) rfl ?_
    refine x_getG (zdm d_Tablet_moveZig_0 17 rfl) f_Tablet_65 g5 rfl (by decide) hsl (zs_4 g5).1 ?_
    refine x_iload_n (zdm d_Tablet_moveZig_0 18 rfl) rfl (n := 3) rfl ?_
    refine x_iald (zdm d_Tablet_moveZig_0 19 rfl) (zs_4 g5).2 g2 ?_
    refine x_iload_n (zdm d_Tablet_moveZig_0 20 rfl) rfl (n := 4) rfl ?_
    obtain ⟨g7, H⟩ := H
    refine x_isub (zdm d_Tablet_moveZig_0 21 rfl) g7 ?_
    exact zX.sub [2, 3, 0] rfl H
  · have H := H.2 c
    refine x_aload_n (zdm d_Tablet_moveZig_0 9 rfl) rfl (n := 2) rfl ?_
    refine x_getG (zdm d_Tablet_moveZig_0 10 rfl) f_Tablet_65 g5 rfl (by decide) hsl (zs_4 g5).1 ?_
    refine x_iload_n (zdm d_Tablet_moveZig_0 11 rfl) rfl (n := 3) rfl ?_
    refine x_iald (zdm d_Tablet_moveZig_0 12 rfl) (zs_4 g5).2 g2 ?_
    refine x_iload_n (zdm d_Tablet_moveZig_0 13 rfl) rfl (n := 4) rfl ?_
    obtain ⟨g8, H⟩ := H
    refine x_iadd (zdm d_Tablet_moveZig_0 14 rfl) g8 ?_
    refine x_goto (tgt := 35) (zdm d_Tablet_moveZig_0 15 rfl) (by decide) ?_
    exact zX.sub [2, 3, 0] rfl H
set_option maxRecDepth 20000 in
set_option maxHeartbeats 4000000 in
theorem E_Tablet_isMarked {G : zG} {h sl : Nat} (hsl : 1 ≤ sl) {l0 l1 : Int} {M : zM} {Q : Int → zM → Prop} (H : (zK l0 = (8, 0)) ∧ ((((zwr M l0 8 l1) l0 5) = 0 → Q 0 (zwr M l0 8 l1)) ∧ (¬ ((zwr M l0 8 l1) l0 5) = 0 → zCt G h sl 0 0 y_Code_run [(2, (l0 + 2)), (0, ((zwr M l0 8 l1) l0 6)), (0, ((zwr M l0 8 l1) l0 7)), (2, l0)] (zwr M l0 8 l1) (fun r2 M3 => (¬ r2 = 1 → Q 0 M3) ∧ (¬ (¬ r2 = 1) → Q 1 M3))))) : zCt G (h + 1) sl 0 0 y_Tablet_isMarked [(2, l0), (2, l1)] M Q := by
  refine zCt.of (by decide +kernel) (Nat.le_of_ble_eq_true rfl) ?_
  refine x_aload_n (zdm d_Tablet_isMarked_0 0 rfl) rfl (n := 0) rfl ?_
  refine x_aload_n (zdm d_Tablet_isMarked_0 1 rfl) rfl (n := 1) rfl ?_
  obtain ⟨g1, H⟩ := H
  refine x_putf (zdm d_Tablet_isMarked_0 2 rfl) f_Tablet_27 g1 ⟨rfl, trivial⟩ (Or.inl rfl) ?_
  refine x_aload_n (zdm d_Tablet_isMarked_0 3 rfl) rfl (n := 0) rfl ?_
  refine x_getf (zdm d_Tablet_isMarked_0 4 rfl) f_Tablet_42 g1 rfl ?_
  refine x_ifeq (tgt := 36) (zdm d_Tablet_isMarked_0 5 rfl) (by decide) (fun c => ?_) (fun c => ?_)
  · have H := H.1 c
    refine x_iconst (zdm d_Tablet_isMarked_0 18 rfl) (zIl rfl) ?_
    exact x_ireturn (zdm d_Tablet_isMarked_0 19 rfl) (ty := .boolean) rfl (by decide) (Or.inl rfl) H
  · have H := H.2 c
    refine x_aload_n (zdm d_Tablet_isMarked_0 6 rfl) rfl (n := 0) rfl ?_
    refine x_getG (zdm d_Tablet_isMarked_0 7 rfl) f_Tablet_20 g1 rfl (by decide) hsl (zs_8 g1).2.1 ?_
    refine x_aload_n (zdm d_Tablet_isMarked_0 8 rfl) rfl (n := 0) rfl ?_
    refine x_getf (zdm d_Tablet_isMarked_0 9 rfl) f_Tablet_119 g1 rfl ?_
    refine x_aload_n (zdm d_Tablet_isMarked_0 10 rfl) rfl (n := 0) rfl ?_
    refine x_getf (zdm d_Tablet_isMarked_0 11 rfl) f_Tablet_122 g1 rfl ?_
    refine x_aload_n (zdm d_Tablet_isMarked_0 12 rfl) rfl (n := 0) rfl ?_
    refine x_callVi (n := 3) (ci := 0) (zdm d_Tablet_isMarked_0 13 rfl) k_Tablet_82 (As := [(0, ((zwr M l0 8 l1) l0 6)), (0, ((zwr M l0 8 l1) l0 7)), (2, l0)]) rfl rfl (zs_8 g1).2.2 ⟨_, _, rfl⟩ (Nat.le_of_ble_eq_true rfl) trivial H (fun r2 M3 hr H => ?_)
    refine x_iconst (zdm d_Tablet_isMarked_0 14 rfl) (zIl rfl) ?_
    refine x_icmpne (tgt := 36) (zdm d_Tablet_isMarked_0 15 rfl) (by decide) (fun c => ?_) (fun c => ?_)
    · have H := H.1 c
      refine x_iconst (zdm d_Tablet_isMarked_0 18 rfl) (zIl rfl) ?_
      exact x_ireturn (zdm d_Tablet_isMarked_0 19 rfl) (ty := .boolean) rfl (by decide) (Or.inl rfl) H
    · have H := H.2 c
      refine x_iconst (zdm d_Tablet_isMarked_0 16 rfl) (zIl rfl) ?_
      refine x_goto (tgt := 37) (zdm d_Tablet_isMarked_0 17 rfl) (by decide) ?_
      exact x_ireturn (zdm d_Tablet_isMarked_0 19 rfl) (ty := .boolean) rfl (by decide) (Or.inr rfl) H
set_option maxRecDepth 20000 in
set_option maxHeartbeats 4000000 in
theorem E_Tablet_told {G : zG} {h sl : Nat} (hsl : 1 ≤ sl) {l0 l1 : Int} {M : zM} {Q : Int → zM → Prop} (H : (¬ l1 = 8 → (¬ l1 = 9 → (l1 < 0 → Q 0 M) ∧ (¬ l1 < 0 → (8 ≤ l1 → Q 0 M) ∧ (¬ 8 ≤ l1 → (zK l0 = (8, 0)) ∧ ((zK (M l0 8) = (4, 0)) ∧ ((0 ≤ l1 ∧ l1 < 8) ∧ (Q (M ((M l0 8) + 1) l1) M)))))) ∧ (¬ (¬ l1 = 9) → (zK l0 = (8, 0)) ∧ (Q (M l0 9) M))) ∧ (¬ (¬ l1 = 8) → (zK l0 = (8, 0)) ∧ ((zK (M l0 8) = (4, 0)) ∧ (Q (M (M l0 8) 1) M)))) : zCt G h sl 0 0 y_Tablet_told [(2, l0), (0, l1)] M Q := by
  refine zCt.of (by decide +kernel) (Nat.le_of_ble_eq_true rfl) ?_
  refine x_iload_n (zdm d_Tablet_told_0 0 rfl) rfl (n := 1) rfl ?_
  refine x_bipush (zdm d_Tablet_told_0 1 rfl) (by decide) ?_
  refine x_icmpne (tgt := 14) (zdm d_Tablet_told_0 2 rfl) (by decide) (fun c => ?_) (fun c => ?_)
  · have H := H.1 c
    refine x_iload_n (zdm d_Tablet_told_0 7 rfl) rfl (n := 1) rfl ?_
    refine x_bipush (zdm d_Tablet_told_0 8 rfl) (by decide) ?_
    refine x_icmpne (tgt := 25) (zdm d_Tablet_told_0 9 rfl) (by decide) (fun c => ?_) (fun c => ?_)
    · have H := H.1 c
      refine x_iload_n (zdm d_Tablet_told_0 13 rfl) rfl (n := 1) rfl ?_
      refine x_iflt (tgt := 47) (zdm d_Tablet_told_0 14 rfl) (by decide) (fun c => ?_) (fun c => ?_)
      · have H := H.1 c
        refine x_iconst (zdm d_Tablet_told_0 24 rfl) (zIl rfl) ?_
        exact x_iret (zdm d_Tablet_told_0 25 rfl) rfl H
      · have H := H.2 c
        refine x_iload_n (zdm d_Tablet_told_0 15 rfl) rfl (n := 1) rfl ?_
        refine x_bipush (zdm d_Tablet_told_0 16 rfl) (by decide) ?_
        refine x_icmpge (tgt := 47) (zdm d_Tablet_told_0 17 rfl) (by decide) (fun c => ?_) (fun c => ?_)
        · have H := H.1 c
          refine x_iconst (zdm d_Tablet_told_0 24 rfl) (zIl rfl) ?_
          exact x_iret (zdm d_Tablet_told_0 25 rfl) rfl H
        · have H := H.2 c
          refine x_aload_n (zdm d_Tablet_told_0 18 rfl) rfl (n := 0) rfl ?_
          obtain ⟨g1, H⟩ := H
          refine x_getf (zdm d_Tablet_told_0 19 rfl) f_Tablet_27 g1 rfl ?_
          obtain ⟨g2, H⟩ := H
          refine x_getG (zdm d_Tablet_told_0 20 rfl) f_Tablet_65 g2 rfl (by decide) hsl (zs_4 g2).1 ?_
          refine x_iload_n (zdm d_Tablet_told_0 21 rfl) rfl (n := 1) rfl ?_
          obtain ⟨g3, H⟩ := H
          refine x_iald (zdm d_Tablet_told_0 22 rfl) (zs_4 g2).2 g3 ?_
          refine x_goto (tgt := 48) (zdm d_Tablet_told_0 23 rfl) (by decide) ?_
          exact x_iret (zdm d_Tablet_told_0 25 rfl) rfl H
    · have H := H.2 c
      refine x_aload_n (zdm d_Tablet_told_0 10 rfl) rfl (n := 0) rfl ?_
      obtain ⟨g4, H⟩ := H
      refine x_getf (zdm d_Tablet_told_0 11 rfl) f_Tablet_55 g4 rfl ?_
      exact x_iret (zdm d_Tablet_told_0 12 rfl) rfl H
  · have H := H.2 c
    refine x_aload_n (zdm d_Tablet_told_0 3 rfl) rfl (n := 0) rfl ?_
    obtain ⟨g5, H⟩ := H
    refine x_getf (zdm d_Tablet_told_0 4 rfl) f_Tablet_27 g5 rfl ?_
    obtain ⟨g6, H⟩ := H
    refine x_getf (zdm d_Tablet_told_0 5 rfl) f_Tablet_49 g6 rfl ?_
    exact x_iret (zdm d_Tablet_told_0 6 rfl) rfl H
set_option maxRecDepth 20000 in
set_option maxHeartbeats 4000000 in
theorem E_Tablet_asked {G : zG} {h sl : Nat} (hsl : 1 ≤ sl) {l0 l1 l2 : Int} {M : zM} {Q : Int → zM → Prop} (H : Q 0 M) : zCt G h sl 0 0 y_Tablet_asked [(2, l0), (0, l1), (0, l2)] M Q := by
  refine zCt.of (by decide +kernel) (Nat.le_of_ble_eq_true rfl) ?_
  refine x_iconst (zdm d_Tablet_asked_0 0 rfl) (zIl rfl) ?_
  exact x_iret (zdm d_Tablet_asked_0 1 rfl) rfl H
