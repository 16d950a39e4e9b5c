set_option maxRecDepth 20000 in
set_option maxHeartbeats 4000000 in
theorem E_Piece_forget {G : zG} {h sl : Nat} (hsl : 1 ≤ sl) {M : zM} {Q : Int → zM → Prop} (H : zCt G h sl 0 0 y_Piece_changed [(2, 63)] (zwr M 63 8 0) (fun r1 M2 => Q 0 M2)) : zCt G (h + 1) sl 0 0 y_Piece_forget [(2, 63)] M Q := by
  refine zCt.of (by decide +kernel) (Nat.le_of_ble_eq_true rfl) ?_
  refine x_aload_n (zdm d_Piece_forget_0 0 rfl) rfl (n := 0) rfl ?_
  refine x_iconst (zdm d_Piece_forget_0 1 rfl) (zIl rfl) ?_
  refine x_putf (zdm d_Piece_forget_0 2 rfl) f_Piece_41 rfl ⟨rfl, trivial⟩ (Or.inl rfl) ?_
  refine x_aload_n (zdm d_Piece_forget_0 3 rfl) rfl (n := 0) rfl ?_
  refine x_callVv (n := 0) (ci := 5) (zdm d_Piece_forget_0 4 rfl) k_Piece_45 (As := []) rfl rfl rfl ⟨_, _, rfl⟩ (Nat.le_of_ble_eq_true rfl) rfl H (fun r1 M2 hr H => ?_)
  exact x_return (zdm d_Piece_forget_0 5 rfl) rfl H
set_option maxRecDepth 20000 in
set_option maxHeartbeats 4000000 in
theorem E_Piece_changed {G : zG} {h sl : Nat} (hsl : 1 ≤ sl) {M : zM} {Q : Int → zM → Prop} (H : Q 0 (zwr (zwr (zwr M 63 14 0) 63 15 0) 63 16 (-1))) : zCt G h sl 0 0 y_Piece_changed [(2, 63)] M Q := by
  refine zCt.of (by decide +kernel) (Nat.le_of_ble_eq_true rfl) ?_
  refine x_aload_n (zdm d_Piece_changed_0 0 rfl) rfl (n := 0) rfl ?_
  refine x_iconst (zdm d_Piece_changed_0 1 rfl) (zIl rfl) ?_
  refine x_putf (zdm d_Piece_changed_0 2 rfl) f_Piece_48 rfl ⟨rfl, (Or.inl rfl)⟩ (Or.inl rfl) ?_
  refine x_aload_n (zdm d_Piece_changed_0 3 rfl) rfl (n := 0) rfl ?_
  refine x_iconst (zdm d_Piece_changed_0 4 rfl) (zIl rfl) ?_
  refine x_putf (zdm d_Piece_changed_0 5 rfl) f_Piece_52 rfl ⟨rfl, (Or.inl rfl)⟩ (Or.inl rfl) ?_
  refine x_aload_n (zdm d_Piece_changed_0 6 rfl) rfl (n := 0) rfl ?_
  refine x_iconst (zdm d_Piece_changed_0 7 rfl) (zIl rfl) ?_
  refine x_putf (zdm d_Piece_changed_0 8 rfl) f_Piece_55 rfl ⟨rfl, trivial⟩ (Or.inl rfl) ?_
  exact x_return (zdm d_Piece_changed_0 9 rfl) rfl H
set_option maxRecDepth 20000 in
set_option maxHeartbeats 4000000 in
theorem B_Piece_read_61 {G : zG} {h sl : Nat} (hsl : 1 ≤ sl) {u : Nat × Nat × Nat × Nat} {l3 l4 : Int} {M : zM} {Q : Int → zM → Prop} (H : (l3 ≤ l4 → zCt G h sl 0 0 y_Piece_changed [(2, 63)] (zwr M 63 8 l3) (fun r1 M2 => Q 1 M2)) ∧ (¬ l3 ≤ l4 → (zI (l4 * 4)) ∧ ((0 ≤ (l4 * 4) ∧ (l4 * 4) < 1600) ∧ ((0 ≤ l4 ∧ l4 < 12) ∧ ((zI ((l4 * 4) + 1)) ∧ ((0 ≤ ((l4 * 4) + 1) ∧ ((l4 * 4) + 1) < 1600) ∧ ((zI ((l4 * 4) + 2)) ∧ (zCt G h sl 0 0 y_Tape_pair [(2, 2), (0, ((l4 * 4) + 2))] (zwr (zwr M 66 l4 (M 3 (l4 * 4))) 67 l4 ((zwr M 66 l4 (M 3 (l4 * 4))) 3 ((l4 * 4) + 1))) (fun r9 M10 => (zI (l4 + 1)) ∧ (zX G (y_Piece_read, h + 1, sl) u 61 [(0, (2, 63)), (1, (2, 2)), (3, (0, l3)), (4, (0, (l4 + 1)))] [] (zwr M10 68 l4 r9) Q)))))))))) : zX G (y_Piece_read, h + 1, sl) u 61 [(0, (2, 63)), (1, (2, 2)), (3, (0, l3)), (4, (0, l4))] [] M Q := by
  refine x_iload (zdm d_Piece_read_0 36 rfl) (n := 3) rfl ?_
  refine x_iload_n (zdm d_Piece_read_0 37 rfl) rfl (n := 2) rfl ?_
  refine x_icmpge (tgt := 124) (zdm d_Piece_read_0 38 rfl) (by decide) (fun c => ?_) (fun c => ?_)
  · have H := H.1 c
    refine x_aload_n (zdm d_Piece_read_1 14 rfl) rfl (n := 0) rfl ?_
    refine x_iload_n (zdm d_Piece_read_1 15 rfl) rfl (n := 2) rfl ?_
    refine x_putf (zdm d_Piece_read_1 16 rfl) f_Piece_41 rfl ⟨rfl, trivial⟩ (Or.inl rfl) ?_
    refine x_aload_n (zdm d_Piece_read_1 17 rfl) rfl (n := 0) rfl ?_
    refine x_callVv (n := 0) (ci := 5) (zdm d_Piece_read_1 18 rfl) k_Piece_45 (As := []) rfl rfl rfl ⟨_, _, rfl⟩ (Nat.le_of_ble_eq_true rfl) rfl H (fun r1 M2 hr H => ?_)
    refine x_iconst (zdm d_Piece_read_1 19 rfl) (zIl rfl) ?_
    exact x_ireturn (zdm d_Piece_read_1 20 rfl) (ty := .boolean) rfl (by decide) (Or.inr rfl) H
  · have H := H.2 c
    refine x_aload_n (zdm d_Piece_read_0 39 rfl) rfl (n := 0) rfl ?_
    refine x_getG (zdm d_Piece_read_0 40 rfl) f_Piece_18 rfl rfl (by decide) hsl rfl ?_
    refine x_iload (zdm d_Piece_read_0 41 rfl) (n := 3) rfl ?_
    refine x_aload_n (zdm d_Piece_read_0 42 rfl) rfl (n := 1) rfl ?_
    refine x_getG (zdm d_Piece_read_0 43 rfl) f_Piece_67 rfl rfl (by decide) hsl rfl ?_
    refine x_iload (zdm d_Piece_read_0 44 rfl) (n := 3) rfl ?_
    refine x_iconst (zdm d_Piece_read_0 45 rfl) (zIl rfl) ?_
    obtain ⟨g3, H⟩ := H
    refine x_imul (zdm d_Piece_read_0 46 rfl) g3 ?_
    obtain ⟨g4, H⟩ := H
    refine x_iald (zdm d_Piece_read_0 47 rfl) rfl g4 ?_
    obtain ⟨g5, H⟩ := H
    refine x_iast (zdm d_Piece_read_0 48 rfl) rfl g5 ?_
    refine x_aload_n (zdm d_Piece_read_0 49 rfl) rfl (n := 0) rfl ?_
    refine x_getG (zdm d_Piece_read_0 50 rfl) f_Piece_22 rfl rfl (by decide) hsl rfl ?_
    refine x_iload (zdm d_Piece_read_0 51 rfl) (n := 3) rfl ?_
    refine x_aload_n (zdm d_Piece_read_0 52 rfl) rfl (n := 1) rfl ?_
    refine x_getG (zdm d_Piece_read_0 53 rfl) f_Piece_67 rfl rfl (by decide) hsl rfl ?_
    refine x_iload (zdm d_Piece_read_0 54 rfl) (n := 3) rfl ?_
    refine x_iconst (zdm d_Piece_read_0 55 rfl) (zIl rfl) ?_
    refine x_imul (zdm d_Piece_read_0 56 rfl) g3 ?_
    refine x_iconst (zdm d_Piece_read_0 57 rfl) (zIl rfl) ?_
    obtain ⟨g6, H⟩ := H
    refine x_iadd (zdm d_Piece_read_0 58 rfl) g6 ?_
    obtain ⟨g7, H⟩ := H
    refine x_iald (zdm d_Piece_read_0 59 rfl) rfl g7 ?_
    refine x_iast (zdm d_Piece_read_1 0 rfl) rfl g5 ?_
    refine x_aload_n (zdm d_Piece_read_1 1 rfl) rfl (n := 0) rfl ?_
    refine x_getG (zdm d_Piece_read_1 2 rfl) f_Piece_25 rfl rfl (by decide) hsl rfl ?_
    refine x_iload (zdm d_Piece_read_1 3 rfl) (n := 3) rfl ?_
    refine x_aload_n (zdm d_Piece_read_1 4 rfl) rfl (n := 1) rfl ?_
    refine x_iload (zdm d_Piece_read_1 5 rfl) (n := 3) rfl ?_
    refine x_iconst (zdm d_Piece_read_1 6 rfl) (zIl rfl) ?_
    refine x_imul (zdm d_Piece_read_1 7 rfl) g3 ?_
    refine x_iconst (zdm d_Piece_read_1 8 rfl) (zIl rfl) ?_
    obtain ⟨g8, H⟩ := H
    refine x_iadd (zdm d_Piece_read_1 9 rfl) g8 ?_
    refine x_callVi (n := 1) (ci := 9) (zdm d_Piece_read_1 10 rfl) k_Piece_70 (As := [(0, ((l4 * 4) + 2))]) rfl rfl rfl ⟨_, _, rfl⟩ (Nat.le_of_ble_eq_true rfl) trivial H (fun r9 M10 hr H => ?_)
    refine x_iast (zdm d_Piece_read_1 11 rfl) rfl g5 ?_
    obtain ⟨g11, H⟩ := H
    refine x_iinc (zdm d_Piece_read_1 12 rfl) (n := 3) rfl g11 (zlt rfl) rfl ?_
    refine x_goto (tgt := 61) (zdm d_Piece_read_1 13 rfl) (by decide) ?_
    exact zX.sub [1, 2, 3, 0] rfl H
set_option maxRecDepth 20000 in
set_option maxHeartbeats 4000000 in
theorem B_Piece_read_32 {G : zG} {h sl : Nat} (hsl : 1 ≤ sl) {u : Nat × Nat × Nat × Nat} {l2 l3 l4 : Int} {M : zM} {Q : Int → zM → Prop} (H : (l3 ≤ l4 → zX G (y_Piece_read, h + 1, sl) u 61 [(0, (2, 63)), (1, (2, 2)), (3, (0, l3)), (4, (0, 0))] [] M Q) ∧ (¬ l3 ≤ l4 → (zI (l4 * 4)) ∧ (zCt G h sl 0 0 y_Piece_isRow [(2, 2), (0, (l4 * 4)), (2, l2)] M (fun r2 M3 => (¬ r2 = 0 → (zI (l4 + 1)) ∧ (zX G (y_Piece_read, h + 1, sl) u 32 [(0, (2, 63)), (1, (2, 2)), (2, (2, l2)), (3, (0, l3)), (4, (0, (l4 + 1)))] [] M3 Q)) ∧ (¬ (¬ r2 = 0) → Q 0 M3))))) : zX G (y_Piece_read, h + 1, sl) u 32 [(0, (2, 63)), (1, (2, 2)), (2, (2, l2)), (3, (0, l3)), (4, (0, l4))] [] M Q := by
  refine x_iload (zdm d_Piece_read_0 20 rfl) (n := 4) rfl ?_
  refine x_iload_n (zdm d_Piece_read_0 21 rfl) rfl (n := 3) rfl ?_
  refine x_icmpge (tgt := 58) (zdm d_Piece_read_0 22 rfl) (by decide) (fun c => ?_) (fun c => ?_)
  · have H := H.1 c
    refine x_iconst (zdm d_Piece_read_0 34 rfl) (zIl rfl) ?_
    refine x_istore (zdm d_Piece_read_0 35 rfl) (zlt rfl) rfl ?_
    exact zX.sub [1, 2, 4, 0] rfl H
  · have H := H.2 c
    refine x_aload_n (zdm d_Piece_read_0 23 rfl) rfl (n := 1) rfl ?_
    refine x_iload (zdm d_Piece_read_0 24 rfl) (n := 4) rfl ?_
    refine x_iconst (zdm d_Piece_read_0 25 rfl) (zIl rfl) ?_
    obtain ⟨g1, H⟩ := H
    refine x_imul (zdm d_Piece_read_0 26 rfl) g1 ?_
    refine x_aload_n (zdm d_Piece_read_0 27 rfl) rfl (n := 2) rfl ?_
    refine x_callSi (n := 3) (zdm d_Piece_read_0 28 rfl) k_Piece_63 (As := [(2, 2), (0, (l4 * 4)), (2, l2)]) rfl rfl (Nat.le_of_ble_eq_true rfl) trivial H (fun r2 M3 hr H => ?_)
    have b4 : r2 = 0 ∨ r2 = 1 := hr
    refine x_ifne (tgt := 52) (zdm d_Piece_read_0 29 rfl) (by decide) (fun c => ?_) (fun c => ?_)
    · have H := H.1 c
      obtain ⟨g5, H⟩ := H
      refine x_iinc (zdm d_Piece_read_0 32 rfl) (n := 4) rfl g5 (zlt rfl) rfl ?_
      refine x_goto (tgt := 32) (zdm d_Piece_read_0 33 rfl) (by decide) ?_
      exact zX.sub [1, 2, 3, 4, 0] rfl H
    · have H := H.2 c
      refine x_iconst (zdm d_Piece_read_0 30 rfl) (zIl rfl) ?_
      exact x_ireturn (zdm d_Piece_read_0 31 rfl) (ty := .boolean) rfl (by decide) (Or.inl rfl) H
set_option maxRecDepth 20000 in
set_option maxHeartbeats 4000000 in
theorem E_Piece_read {G : zG} {h sl : Nat} (hsl : 1 ≤ sl) {l2 : Int} {M : zM} {Q : Int → zM → Prop} (H : (zI (Int.tdiv (M 2 1) 4)) ∧ (((Int.tdiv (M 2 1) 4) < 1 → Q 0 M) ∧ (¬ (Int.tdiv (M 2 1) 4) < 1 → (12 < (Int.tdiv (M 2 1) 4) → Q 0 M) ∧ (¬ 12 < (Int.tdiv (M 2 1) 4) → ((Int.tmod (M 2 1) 4) = 0 → zX G (y_Piece_read, h + 1, sl) (0, 0, 0, 0) 32 [(0, (2, 63)), (1, (2, 2)), (2, (2, l2)), (3, (0, (Int.tdiv (M 2 1) 4))), (4, (0, 0))] [] M Q) ∧ (¬ (Int.tmod (M 2 1) 4) = 0 → Q 0 M))))) : zCt G (h + 1) sl 0 0 y_Piece_read [(2, 63), (2, 2), (2, l2)] M Q := by
  refine zCt.of (by decide +kernel) (Nat.le_of_ble_eq_true rfl) ?_
  refine x_aload_n (zdm d_Piece_read_0 0 rfl) rfl (n := 1) rfl ?_
  refine x_getf (zdm d_Piece_read_0 1 rfl) f_Piece_58 rfl rfl ?_
  refine x_iconst (zdm d_Piece_read_0 2 rfl) (zIl rfl) ?_
  obtain ⟨g1, H⟩ := H
  refine x_idiv (zdm d_Piece_read_0 3 rfl) (by decide) g1 ?_
  refine x_istore_n (zdm d_Piece_read_0 4 rfl) rfl (zlt rfl) rfl ?_
  refine x_iload_n (zdm d_Piece_read_0 5 rfl) rfl (n := 0) rfl ?_
  refine x_iconst (zdm d_Piece_read_0 6 rfl) (zIl rfl) ?_
  refine x_icmplt (tgt := 27) (zdm d_Piece_read_0 7 rfl) (by decide) (fun c => ?_) (fun c => ?_)
  · have H := H.1 c
    refine x_iconst (zdm d_Piece_read_0 16 rfl) (zIl rfl) ?_
    exact x_ireturn (zdm d_Piece_read_0 17 rfl) (ty := .boolean) rfl (by decide) (Or.inl rfl) H
  · have H := H.2 c
    refine x_iload_n (zdm d_Piece_read_0 8 rfl) rfl (n := 0) rfl ?_
    refine x_bipush (zdm d_Piece_read_0 9 rfl) (by decide) ?_
    refine x_icmpgt (tgt := 27) (zdm d_Piece_read_0 10 rfl) (by decide) (fun c => ?_) (fun c => ?_)
    · have H := H.1 c
      refine x_iconst (zdm d_Piece_read_0 16 rfl) (zIl rfl) ?_
      exact x_ireturn (zdm d_Piece_read_0 17 rfl) (ty := .boolean) rfl (by decide) (Or.inl rfl) H
    · have H := H.2 c
      refine x_aload_n (zdm d_Piece_read_0 11 rfl) rfl (n := 2) rfl ?_
      refine x_getf (zdm d_Piece_read_0 12 rfl) f_Piece_58 rfl rfl ?_
      refine x_iconst (zdm d_Piece_read_0 13 rfl) (zIl rfl) ?_
      refine x_irem (zdm d_Piece_read_0 14 rfl) (by decide) ?_
      refine x_ifeq (tgt := 29) (zdm d_Piece_read_0 15 rfl) (by decide) (fun c => ?_) (fun c => ?_)
      · have H := H.1 c
        refine x_iconst (zdm d_Piece_read_0 18 rfl) (zIl rfl) ?_
        refine x_istore (zdm d_Piece_read_0 19 rfl) (zlt rfl) rfl ?_
        exact zX.sub [2, 3, 4, 1, 0] rfl H
      · have H := H.2 c
        refine x_iconst (zdm d_Piece_read_0 16 rfl) (zIl rfl) ?_
        exact x_ireturn (zdm d_Piece_read_0 17 rfl) (ty := .boolean) rfl (by decide) (Or.inl rfl) H
set_option maxRecDepth 20000 in
set_option maxHeartbeats 4000000 in
theorem E_Piece_isRow {G : zG} {h sl : Nat} (hsl : 1 ≤ sl) {l1 l2 : Int} {M : zM} {Q : Int → zM → Prop} (H : (zI (l1 + 1)) ∧ ((0 ≤ (l1 + 1) ∧ (l1 + 1) < 1600) ∧ ((0 ≤ l1 ∧ l1 < 1600) ∧ ((30 < (M 3 l1) → Q 0 M) ∧ (¬ 30 < (M 3 l1) → (zK l2 = (8, 0)) ∧ (((M l2 2) ≤ (M 3 (l1 + 1)) → Q 0 M) ∧ (¬ (M l2 2) ≤ (M 3 (l1 + 1)) → (0 ≤ (M 3 (l1 + 1)) ∧ (M 3 (l1 + 1)) < 8) ∧ (zCt G h sl 0 0 y_Column_moves [(2, (l2 + 7 + 2 * (M 3 (l1 + 1))))] M (fun r6 M7 => (r6 = 0 → Q 0 M7) ∧ (¬ r6 = 0 → (zI (l1 + 2)) ∧ (zCt G h sl 0 0 y_Tape_pair [(2, 2), (0, (l1 + 2))] M7 (fun r10 M11 => zCt G h sl 0 0 y_Column_canTell [(2, (l2 + 7 + 2 * (M 3 (l1 + 1)))), (0, r10)] M11 (fun r12 M13 => (r12 = 0 → Q 0 M13) ∧ (¬ r12 = 0 → Q 1 M13)))))))))))))) : zCt G (h + 1) sl 0 0 y_Piece_isRow [(2, 2), (0, l1), (2, l2)] M Q := by
  refine zCt.of (by decide +kernel) (Nat.le_of_ble_eq_true rfl) ?_
  refine x_aload_n (zdm d_Piece_isRow_0 0 rfl) rfl (n := 0) rfl ?_
  refine x_getG (zdm d_Piece_isRow_0 1 rfl) f_Piece_67 rfl rfl (by decide) hsl rfl ?_
  refine x_iload_n (zdm d_Piece_isRow_0 2 rfl) rfl (n := 1) rfl ?_
  refine x_iconst (zdm d_Piece_isRow_0 3 rfl) (zIl rfl) ?_
  obtain ⟨g1, H⟩ := H
  refine x_iadd (zdm d_Piece_isRow_0 4 rfl) g1 ?_
  obtain ⟨g2, H⟩ := H
  refine x_iald (zdm d_Piece_isRow_0 5 rfl) rfl g2 ?_
  refine x_istore_n (zdm d_Piece_isRow_0 6 rfl) rfl (zlt rfl) rfl ?_
  refine x_aload_n (zdm d_Piece_isRow_0 7 rfl) rfl (n := 1) rfl ?_
  refine x_getG (zdm d_Piece_isRow_0 8 rfl) f_Piece_67 rfl rfl (by decide) hsl rfl ?_
  refine x_iload_n (zdm d_Piece_isRow_0 9 rfl) rfl (n := 2) rfl ?_
  obtain ⟨g3, H⟩ := H
  refine x_iald (zdm d_Piece_isRow_0 10 rfl) rfl g3 ?_
  refine x_bipush (zdm d_Piece_isRow_0 11 rfl) (by decide) ?_
  refine x_icmpgt (tgt := 63) (zdm d_Piece_isRow_0 12 rfl) (by decide) (fun c => ?_) (fun c => ?_)
  · have H := H.1 c
    refine x_iconst (zdm d_Piece_isRow_0 36 rfl) (zIl rfl) ?_
    exact x_ireturn (zdm d_Piece_isRow_0 37 rfl) (ty := .boolean) rfl (by decide) (Or.inl rfl) H
  · have H := H.2 c
    refine x_iload_n (zdm d_Piece_isRow_0 13 rfl) rfl (n := 0) rfl ?_
    refine x_aload_n (zdm d_Piece_isRow_0 14 rfl) rfl (n := 3) rfl ?_
    obtain ⟨g4, H⟩ := H
    refine x_getf (zdm d_Piece_isRow_0 15 rfl) f_Piece_74 g4 rfl ?_
    refine x_icmpge (tgt := 63) (zdm d_Piece_isRow_0 16 rfl) (by decide) (fun c => ?_) (fun c => ?_)
    · have H := H.1 c
      refine x_iconst (zdm d_Piece_isRow_0 36 rfl) (zIl rfl) ?_
      exact x_ireturn (zdm d_Piece_isRow_0 37 rfl) (ty := .boolean) rfl (by decide) (Or.inl rfl) H
    · have H := H.2 c
      refine x_aload_n (zdm d_Piece_isRow_0 17 rfl) rfl (n := 3) rfl ?_
      refine x_getG (zdm d_Piece_isRow_0 18 rfl) f_Piece_79 g4 rfl (by decide) hsl (zs_8 g4).1.1 ?_
      refine x_iload_n (zdm d_Piece_isRow_0 19 rfl) rfl (n := 0) rfl ?_
      obtain ⟨g5, H⟩ := H
      refine x_aald5G (zdm d_Piece_isRow_0 20 rfl) (zs_8 g4).1.2 g5 hsl (zs_cols g4 g5.1 g5.2).1 ?_
      refine x_callVi (n := 0) (ci := 1) (zdm d_Piece_isRow_0 21 rfl) k_Piece_82 (As := []) rfl rfl (zs_cols g4 g5.1 g5.2).2 ⟨_, _, rfl⟩ (Nat.le_of_ble_eq_true rfl) trivial H (fun r6 M7 hr H => ?_)
      have b8 : r6 = 0 ∨ r6 = 1 := hr
      refine x_ifeq (tgt := 63) (zdm d_Piece_isRow_0 22 rfl) (by decide) (fun c => ?_) (fun c => ?_)
      · have H := H.1 c
        refine x_iconst (zdm d_Piece_isRow_0 36 rfl) (zIl rfl) ?_
        exact x_ireturn (zdm d_Piece_isRow_0 37 rfl) (ty := .boolean) rfl (by decide) (Or.inl rfl) H
      · have H := H.2 c
        refine x_aload_n (zdm d_Piece_isRow_0 23 rfl) rfl (n := 3) rfl ?_
        refine x_getG (zdm d_Piece_isRow_0 24 rfl) f_Piece_79 g4 rfl (by decide) hsl (zs_8 g4).1.1 ?_
        refine x_iload_n (zdm d_Piece_isRow_0 25 rfl) rfl (n := 0) rfl ?_
        refine x_aald5G (zdm d_Piece_isRow_0 26 rfl) (zs_8 g4).1.2 g5 hsl (zs_cols g4 g5.1 g5.2).1 ?_
        refine x_aload_n (zdm d_Piece_isRow_0 27 rfl) rfl (n := 1) rfl ?_
        refine x_iload_n (zdm d_Piece_isRow_0 28 rfl) rfl (n := 2) rfl ?_
        refine x_iconst (zdm d_Piece_isRow_0 29 rfl) (zIl rfl) ?_
        obtain ⟨g9, H⟩ := H
        refine x_iadd (zdm d_Piece_isRow_0 30 rfl) g9 ?_
        refine x_callVi (n := 1) (ci := 9) (zdm d_Piece_isRow_0 31 rfl) k_Piece_70 (As := [(0, (l1 + 2))]) rfl rfl rfl ⟨_, _, rfl⟩ (Nat.le_of_ble_eq_true rfl) trivial H (fun r10 M11 hr H => ?_)
        refine x_callVi (n := 1) (ci := 1) (zdm d_Piece_isRow_0 32 rfl) k_Piece_88 (As := [(0, r10)]) rfl rfl (zs_cols g4 g5.1 g5.2).2 ⟨_, _, rfl⟩ (Nat.le_of_ble_eq_true rfl) trivial H (fun r12 M13 hr H => ?_)
        have b14 : r12 = 0 ∨ r12 = 1 := hr
        refine x_ifeq (tgt := 63) (zdm d_Piece_isRow_0 33 rfl) (by decide) (fun c => ?_) (fun c => ?_)
        · have H := H.1 c
          refine x_iconst (zdm d_Piece_isRow_0 36 rfl) (zIl rfl) ?_
          exact x_ireturn (zdm d_Piece_isRow_0 37 rfl) (ty := .boolean) rfl (by decide) (Or.inl rfl) H
        · have H := H.2 c
          refine x_iconst (zdm d_Piece_isRow_0 34 rfl) (zIl rfl) ?_
          refine x_goto (tgt := 64) (zdm d_Piece_isRow_0 35 rfl) (by decide) ?_
          exact x_ireturn (zdm d_Piece_isRow_0 37 rfl) (ty := .boolean) rfl (by decide) (Or.inr rfl) H
set_option maxRecDepth 20000 in
set_option maxHeartbeats 4000000 in
theorem B_Piece_listFits_15 {G : zG} {h sl : Nat} (hsl : 1 ≤ sl) {u : Nat × Nat × Nat × Nat} {l1 : Int} {M : zM} {Q : Int → zM → Prop} (H : (400 ≤ l1 → Q 0 (zwr M 63 14 1)) ∧ (¬ 400 ≤ l1 → zCt G h sl 0 0 y_Piece_fitsAt [(2, 63), (0, l1)] M (fun r1 M2 => (r1 = 0 → (zI (l1 + 1)) ∧ (zX G (y_Piece_listFits, h + 1, sl) u 15 [(0, (2, 63)), (1, (0, (l1 + 1)))] [] M2 Q)) ∧ (¬ r1 = 0 → (0 ≤ (M2 63 9) ∧ (M2 63 9) < 400) ∧ ((zI (((zwr M2 70 (M2 63 9) l1) 63 9) + 1)) ∧ ((zI (l1 + 1)) ∧ (zX G (y_Piece_listFits, h + 1, sl) u 15 [(0, (2, 63)), (1, (0, (l1 + 1)))] [] (zwr (zwr M2 70 (M2 63 9) l1) 63 9 (((zwr M2 70 (M2 63 9) l1) 63 9) + 1)) Q))))))) : zX G (y_Piece_listFits, h + 1, sl) u 15 [(0, (2, 63)), (1, (0, l1))] [] M Q := by
  refine x_iload_n (zdm d_Piece_listFits_0 9 rfl) rfl (n := 1) rfl ?_
  refine x_sipush (zdm d_Piece_listFits_0 10 rfl) (by decide) ?_
  refine x_icmpge (tgt := 56) (zdm d_Piece_listFits_0 11 rfl) (by decide) (fun c => ?_) (fun c => ?_)
  · have H := H.1 c
    refine x_aload_n (zdm d_Piece_listFits_0 30 rfl) rfl (n := 0) rfl ?_
    refine x_iconst (zdm d_Piece_listFits_0 31 rfl) (zIl rfl) ?_
    refine x_putf (zdm d_Piece_listFits_0 32 rfl) f_Piece_48 rfl ⟨rfl, (Or.inr rfl)⟩ (Or.inl rfl) ?_
    exact x_return (zdm d_Piece_listFits_0 33 rfl) rfl H
  · have H := H.2 c
    refine x_aload_n (zdm d_Piece_listFits_0 12 rfl) rfl (n := 0) rfl ?_
    refine x_iload_n (zdm d_Piece_listFits_0 13 rfl) rfl (n := 1) rfl ?_
    refine x_callVi (n := 1) (ci := 5) (zdm d_Piece_listFits_0 14 rfl) k_Piece_95 (As := [(0, l1)]) rfl rfl rfl ⟨_, _, rfl⟩ (Nat.le_of_ble_eq_true rfl) trivial H (fun r1 M2 hr H => ?_)
    have b3 : r1 = 0 ∨ r1 = 1 := hr
    refine x_ifeq (tgt := 50) (zdm d_Piece_listFits_0 15 rfl) (by decide) (fun c => ?_) (fun c => ?_)
    · have H := H.1 c
      obtain ⟨g4, H⟩ := H
      refine x_iinc (zdm d_Piece_listFits_0 28 rfl) (n := 1) rfl g4 (zlt rfl) rfl ?_
      refine x_goto (tgt := 15) (zdm d_Piece_listFits_0 29 rfl) (by decide) ?_
      exact zX.sub [1, 0] rfl H
    · have H := H.2 c
      refine x_aload_n (zdm d_Piece_listFits_0 16 rfl) rfl (n := 0) rfl ?_
      refine x_getG (zdm d_Piece_listFits_0 17 rfl) f_Piece_31 rfl rfl (by decide) hsl rfl ?_
      refine x_aload_n (zdm d_Piece_listFits_0 18 rfl) rfl (n := 0) rfl ?_
      refine x_getf (zdm d_Piece_listFits_0 19 rfl) f_Piece_92 rfl rfl ?_
      refine x_iload_n (zdm d_Piece_listFits_0 20 rfl) rfl (n := 1) rfl ?_
      obtain ⟨g5, H⟩ := H
      refine x_iast (zdm d_Piece_listFits_0 21 rfl) rfl g5 ?_
      refine x_aload_n (zdm d_Piece_listFits_0 22 rfl) rfl (n := 0) rfl ?_
      refine x_dup (zdm d_Piece_listFits_0 23 rfl) z2n1 ?_
      refine x_getf (zdm d_Piece_listFits_0 24 rfl) f_Piece_92 rfl rfl ?_
      refine x_iconst (zdm d_Piece_listFits_0 25 rfl) (zIl rfl) ?_
      obtain ⟨g6, H⟩ := H
      refine x_iadd (zdm d_Piece_listFits_0 26 rfl) g6 ?_
      refine x_putf (zdm d_Piece_listFits_0 27 rfl) f_Piece_92 rfl ⟨rfl, trivial⟩ (Or.inl rfl) ?_
      obtain ⟨g7, H⟩ := H
      refine x_iinc (zdm d_Piece_listFits_0 28 rfl) (n := 1) rfl g7 (zlt rfl) rfl ?_
      refine x_goto (tgt := 15) (zdm d_Piece_listFits_0 29 rfl) (by decide) ?_
      exact zX.sub [1, 0] rfl H
set_option maxRecDepth 20000 in
set_option maxHeartbeats 4000000 in
theorem E_Piece_listFits {G : zG} {h sl : Nat} (hsl : 1 ≤ sl) {M : zM} {Q : Int → zM → Prop} (H : ((M 63 14) = 0 → zX G (y_Piece_listFits, h + 1, sl) (0, 0, 0, 0) 15 [(0, (2, 63)), (1, (0, 0))] [] (zwr M 63 9 0) Q) ∧ (¬ (M 63 14) = 0 → Q 0 M)) : zCt G (h + 1) sl 0 0 y_Piece_listFits [(2, 63)] M Q := by
  refine zCt.of (by decide +kernel) (Nat.le_of_ble_eq_true rfl) ?_
  refine x_aload_n (zdm d_Piece_listFits_0 0 rfl) rfl (n := 0) rfl ?_
  refine x_getf (zdm d_Piece_listFits_0 1 rfl) f_Piece_48 rfl rfl ?_
  refine x_ifeq (tgt := 8) (zdm d_Piece_listFits_0 2 rfl) (by decide) (fun c => ?_) (fun c => ?_)
  · have H := H.1 c
    refine x_aload_n (zdm d_Piece_listFits_0 4 rfl) rfl (n := 0) rfl ?_
    refine x_iconst (zdm d_Piece_listFits_0 5 rfl) (zIl rfl) ?_
    refine x_putf (zdm d_Piece_listFits_0 6 rfl) f_Piece_92 rfl ⟨rfl, trivial⟩ (Or.inl rfl) ?_
    refine x_iconst (zdm d_Piece_listFits_0 7 rfl) (zIl rfl) ?_
    refine x_istore_n (zdm d_Piece_listFits_0 8 rfl) rfl (zlt rfl) rfl ?_
    exact zX.sub [1, 0] rfl H
  · have H := H.2 c
    exact x_return (zdm d_Piece_listFits_0 3 rfl) rfl H
set_option maxRecDepth 20000 in
set_option maxHeartbeats 4000000 in
theorem B_Piece_fitsAt_2 {G : zG} {h sl : Nat} (hsl : 1 ≤ sl) {u : Nat × Nat × Nat × Nat} {l1 l2 : Int} {M : zM} {Q : Int → zM → Prop} (H : ((M 63 8) ≤ l2 → Q 1 M) ∧ (¬ (M 63 8) ≤ l2 → (0 ≤ l2 ∧ l2 < 12) ∧ ((zI (l1 + (M 66 l2))) ∧ (zCt G h sl 0 0 y_Course_told [(2, 8), (0, (l1 + (M 66 l2))), (0, (M 67 l2))] M (fun r3 M4 => (r3 = (M4 68 l2) → (zI (l2 + 1)) ∧ (zX G (y_Piece_fitsAt, h + 1, sl) u 2 [(0, (2, 63)), (1, (0, l1)), (2, (0, (l2 + 1)))] [] M4 Q)) ∧ (¬ r3 = (M4 68 l2) → Q 0 M4)))))) : zX G (y_Piece_fitsAt, h + 1, sl) u 2 [(0, (2, 63)), (1, (0, l1)), (2, (0, l2))] [] M Q := by
  refine x_iload_n (zdm d_Piece_fitsAt_0 2 rfl) rfl (n := 2) rfl ?_
  refine x_aload_n (zdm d_Piece_fitsAt_0 3 rfl) rfl (n := 0) rfl ?_
  refine x_getf (zdm d_Piece_fitsAt_0 4 rfl) f_Piece_41 rfl rfl ?_
  refine x_icmpge (tgt := 48) (zdm d_Piece_fitsAt_0 5 rfl) (by decide) (fun c => ?_) (fun c => ?_)
  · have H := H.1 c
    refine x_iconst (zdm d_Piece_fitsAt_0 28 rfl) (zIl rfl) ?_
    exact x_ireturn (zdm d_Piece_fitsAt_0 29 rfl) (ty := .boolean) rfl (by decide) (Or.inr rfl) H
  · have H := H.2 c
    refine x_aload_n (zdm d_Piece_fitsAt_0 6 rfl) rfl (n := 0) rfl ?_
    refine x_getG (zdm d_Piece_fitsAt_0 7 rfl) f_Piece_37 rfl rfl (by decide) hsl rfl ?_
    refine x_iload_n (zdm d_Piece_fitsAt_0 8 rfl) rfl (n := 1) rfl ?_
    refine x_aload_n (zdm d_Piece_fitsAt_0 9 rfl) rfl (n := 0) rfl ?_
    refine x_getG (zdm d_Piece_fitsAt_0 10 rfl) f_Piece_18 rfl rfl (by decide) hsl rfl ?_
    refine x_iload_n (zdm d_Piece_fitsAt_0 11 rfl) rfl (n := 2) rfl ?_
    obtain ⟨g1, H⟩ := H
    refine x_iald (zdm d_Piece_fitsAt_0 12 rfl) rfl g1 ?_
    obtain ⟨g2, H⟩ := H
    refine x_iadd (zdm d_Piece_fitsAt_0 13 rfl) g2 ?_
    refine x_aload_n (zdm d_Piece_fitsAt_0 14 rfl) rfl (n := 0) rfl ?_
    refine x_getG (zdm d_Piece_fitsAt_0 15 rfl) f_Piece_22 rfl rfl (by decide) hsl rfl ?_
    refine x_iload_n (zdm d_Piece_fitsAt_0 16 rfl) rfl (n := 2) rfl ?_
    refine x_iald (zdm d_Piece_fitsAt_0 17 rfl) rfl g1 ?_
    refine x_callVi (n := 2) (ci := 2) (zdm d_Piece_fitsAt_0 18 rfl) k_Piece_98 (As := [(0, (l1 + (M 66 l2))), (0, (M 67 l2))]) rfl rfl rfl ⟨_, _, rfl⟩ (Nat.le_of_ble_eq_true rfl) trivial H (fun r3 M4 hr H => ?_)
    refine x_aload_n (zdm d_Piece_fitsAt_0 19 rfl) rfl (n := 0) rfl ?_
    refine x_getG (zdm d_Piece_fitsAt_0 20 rfl) f_Piece_25 rfl rfl (by decide) hsl rfl ?_
    refine x_iload_n (zdm d_Piece_fitsAt_0 21 rfl) rfl (n := 2) rfl ?_
    refine x_iald (zdm d_Piece_fitsAt_0 22 rfl) rfl g1 ?_
    refine x_icmpeq (tgt := 42) (zdm d_Piece_fitsAt_0 23 rfl) (by decide) (fun c => ?_) (fun c => ?_)
    · have H := H.1 c
      obtain ⟨g5, H⟩ := H
      refine x_iinc (zdm d_Piece_fitsAt_0 26 rfl) (n := 2) rfl g5 (zlt rfl) rfl ?_
      refine x_goto (tgt := 2) (zdm d_Piece_fitsAt_0 27 rfl) (by decide) ?_
      exact zX.sub [1, 2, 0] rfl H
    · have H := H.2 c
      refine x_iconst (zdm d_Piece_fitsAt_0 24 rfl) (zIl rfl) ?_
      exact x_ireturn (zdm d_Piece_fitsAt_0 25 rfl) (ty := .boolean) rfl (by decide) (Or.inl rfl) H
set_option maxRecDepth 20000 in
set_option maxHeartbeats 4000000 in
theorem E_Piece_fitsAt {G : zG} {h sl : Nat} (hsl : 1 ≤ sl) {l1 : Int} {M : zM} {Q : Int → zM → Prop} (H : zX G (y_Piece_fitsAt, h + 1, sl) (0, 0, 0, 0) 2 [(0, (2, 63)), (1, (0, l1)), (2, (0, 0))] [] M Q) : zCt G (h + 1) sl 0 0 y_Piece_fitsAt [(2, 63), (0, l1)] M Q := by
  refine zCt.of (by decide +kernel) (Nat.le_of_ble_eq_true rfl) ?_
  refine x_iconst (zdm d_Piece_fitsAt_0 0 rfl) (zIl rfl) ?_
  refine x_istore_n (zdm d_Piece_fitsAt_0 1 rfl) rfl (zlt rfl) rfl ?_
  exact zX.sub [1, 2, 0] rfl H
set_option maxRecDepth 20000 in
set_option maxHeartbeats 4000000 in
theorem B_Piece_listDifferences_70 {G : zG} {h sl : Nat} (hsl : 1 ≤ sl) {u : Nat × Nat × Nat × Nat} {l1 l2 l3 l4 l5 : Int} {M : zM} {Q : Int → zM → Prop} (H : (l4 < l5 → Q 0 (zwr M 63 16 l2)) ∧ (¬ l4 < l5 → (1000 ≤ l5 → Q 0 (zwr M 63 16 l2)) ∧ (¬ 1000 ≤ l5 → zCt G h sl 0 0 y_Piece_wouldFit [(2, 63), (2, l1), (0, l2), (0, l5), (0, l3)] M (fun r1 M2 => (r1 = 0 → (zI (l5 + 1)) ∧ (zX G (y_Piece_listDifferences, h + 1, sl) u 70 [(0, (2, 63)), (1, (2, l1)), (2, (0, l2)), (3, (0, l3)), (4, (0, l4)), (5, (0, (l5 + 1)))] [] M2 Q)) ∧ (¬ r1 = 0 → (0 ≤ (M2 63 10) ∧ (M2 63 10) < 1000) ∧ ((zI (((zwr M2 71 (M2 63 10) l5) 63 10) + 1)) ∧ ((zI (l5 + 1)) ∧ (zX G (y_Piece_listDifferences, h + 1, sl) u 70 [(0, (2, 63)), (1, (2, l1)), (2, (0, l2)), (3, (0, l3)), (4, (0, l4)), (5, (0, (l5 + 1)))] [] (zwr (zwr M2 71 (M2 63 10) l5) 63 10 (((zwr M2 71 (M2 63 10) l5) 63 10) + 1)) Q)))))))) : zX G (y_Piece_listDifferences, h + 1, sl) u 70 [(0, (2, 63)), (1, (2, l1)), (2, (0, l2)), (3, (0, l3)), (4, (0, l4)), (5, (0, l5))] [] M Q := by
  refine x_iload (zdm d_Piece_listDifferences_0 39 rfl) (n := 5) rfl ?_
  refine x_iload (zdm d_Piece_listDifferences_0 40 rfl) (n := 4) rfl ?_
  refine x_icmpgt (tgt := 124) (zdm d_Piece_listDifferences_0 41 rfl) (by decide) (fun c => ?_) (fun c => ?_)
  · have H := H.1 c
    refine x_aload_n (zdm d_Piece_listDifferences_1 6 rfl) rfl (n := 0) rfl ?_
    refine x_iload_n (zdm d_Piece_listDifferences_1 7 rfl) rfl (n := 2) rfl ?_
    refine x_putf (zdm d_Piece_listDifferences_1 8 rfl) f_Piece_55 rfl ⟨rfl, trivial⟩ (Or.inl rfl) ?_
    exact x_return (zdm d_Piece_listDifferences_1 9 rfl) rfl H
  · have H := H.2 c
    refine x_iload (zdm d_Piece_listDifferences_0 42 rfl) (n := 5) rfl ?_
    refine x_sipush (zdm d_Piece_listDifferences_0 43 rfl) (by decide) ?_
    refine x_icmpge (tgt := 124) (zdm d_Piece_listDifferences_0 44 rfl) (by decide) (fun c => ?_) (fun c => ?_)
    · have H := H.1 c
      refine x_aload_n (zdm d_Piece_listDifferences_1 6 rfl) rfl (n := 0) rfl ?_
      refine x_iload_n (zdm d_Piece_listDifferences_1 7 rfl) rfl (n := 2) rfl ?_
      refine x_putf (zdm d_Piece_listDifferences_1 8 rfl) f_Piece_55 rfl ⟨rfl, trivial⟩ (Or.inl rfl) ?_
      exact x_return (zdm d_Piece_listDifferences_1 9 rfl) rfl H
    · have H := H.2 c
      refine x_aload_n (zdm d_Piece_listDifferences_0 45 rfl) rfl (n := 0) rfl ?_
      refine x_aload_n (zdm d_Piece_listDifferences_0 46 rfl) rfl (n := 1) rfl ?_
      refine x_iload_n (zdm d_Piece_listDifferences_0 47 rfl) rfl (n := 2) rfl ?_
      refine x_iload (zdm d_Piece_listDifferences_0 48 rfl) (n := 5) rfl ?_
      refine x_iload_n (zdm d_Piece_listDifferences_0 49 rfl) rfl (n := 3) rfl ?_
      refine x_callVi (n := 4) (ci := 5) (zdm d_Piece_listDifferences_0 50 rfl) k_Piece_118 (As := [(2, l1), (0, l2), (0, l5), (0, l3)]) rfl rfl rfl ⟨_, _, rfl⟩ (Nat.le_of_ble_eq_true rfl) trivial H (fun r1 M2 hr H => ?_)
      have b3 : r1 = 0 ∨ r1 = 1 := hr
      refine x_ifeq (tgt := 118) (zdm d_Piece_listDifferences_0 51 rfl) (by decide) (fun c => ?_) (fun c => ?_)
      · have H := H.1 c
        obtain ⟨g4, H⟩ := H
        refine x_iinc (zdm d_Piece_listDifferences_1 4 rfl) (n := 5) rfl g4 (zlt rfl) rfl ?_
        refine x_goto (tgt := 70) (zdm d_Piece_listDifferences_1 5 rfl) (by decide) ?_
        exact zX.sub [1, 2, 3, 4, 5, 0] rfl H
      · have H := H.2 c
        refine x_aload_n (zdm d_Piece_listDifferences_0 52 rfl) rfl (n := 0) rfl ?_
        refine x_getG (zdm d_Piece_listDifferences_0 53 rfl) f_Piece_34 rfl rfl (by decide) hsl rfl ?_
        refine x_aload_n (zdm d_Piece_listDifferences_0 54 rfl) rfl (n := 0) rfl ?_
        refine x_getf (zdm d_Piece_listDifferences_0 55 rfl) f_Piece_115 rfl rfl ?_
        refine x_iload (zdm d_Piece_listDifferences_0 56 rfl) (n := 5) rfl ?_
        obtain ⟨g5, H⟩ := H
        refine x_iast (zdm d_Piece_listDifferences_0 57 rfl) rfl g5 ?_
        refine x_aload_n (zdm d_Piece_listDifferences_0 58 rfl) rfl (n := 0) rfl ?_
        refine x_dup (zdm d_Piece_listDifferences_0 59 rfl) z2n1 ?_
        refine x_getf (zdm d_Piece_listDifferences_1 0 rfl) f_Piece_115 rfl rfl ?_
        refine x_iconst (zdm d_Piece_listDifferences_1 1 rfl) (zIl rfl) ?_
        obtain ⟨g6, H⟩ := H
        refine x_iadd (zdm d_Piece_listDifferences_1 2 rfl) g6 ?_
        refine x_putf (zdm d_Piece_listDifferences_1 3 rfl) f_Piece_115 rfl ⟨rfl, trivial⟩ (Or.inl rfl) ?_
        obtain ⟨g7, H⟩ := H
        refine x_iinc (zdm d_Piece_listDifferences_1 4 rfl) (n := 5) rfl g7 (zlt rfl) rfl ?_
        refine x_goto (tgt := 70) (zdm d_Piece_listDifferences_1 5 rfl) (by decide) ?_
        exact zX.sub [1, 2, 3, 4, 5, 0] rfl H
set_option maxRecDepth 20000 in
set_option maxHeartbeats 4000000 in
theorem B_Piece_listDifferences_14 {G : zG} {h sl : Nat} (hsl : 1 ≤ sl) {u : Nat × Nat × Nat × Nat} {l1 l2 l3 l4 : Int} {M : zM} {Q : Int → zM → Prop} (H : ((M 63 8) ≤ l4 → (zK l1 = (8, 0)) ∧ ((0 ≤ l2 ∧ l2 < 8) ∧ ((zI ((M (l1 + 7 + 2 * l2) 3) - (M (l1 + 7 + 2 * l2) 2))) ∧ (zX G (y_Piece_listDifferences, h + 1, sl) u 70 [(0, (2, 63)), (1, (2, l1)), (2, (0, l2)), (3, (0, l3)), (4, (0, ((M (l1 + 7 + 2 * l2) 3) - (M (l1 + 7 + 2 * l2) 2)))), (5, (0, 1))] [] (zwr M 63 10 0) Q)))) ∧ (¬ (M 63 8) ≤ l4 → (0 ≤ l4 ∧ l4 < 12) ∧ (zCt G h sl 0 0 y_Jm_max_III [(0, l3), (0, (M 66 l4))] M (fun r5 M6 => (zI (l4 + 1)) ∧ (zX G (y_Piece_listDifferences, h + 1, sl) u 14 [(0, (2, 63)), (1, (2, l1)), (2, (0, l2)), (3, (0, r5)), (4, (0, (l4 + 1)))] [] M6 Q))))) : zX G (y_Piece_listDifferences, h + 1, sl) u 14 [(0, (2, 63)), (1, (2, l1)), (2, (0, l2)), (3, (0, l3)), (4, (0, l4))] [] M Q := by
  refine x_iload (zdm d_Piece_listDifferences_0 9 rfl) (n := 4) rfl ?_
  refine x_aload_n (zdm d_Piece_listDifferences_0 10 rfl) rfl (n := 0) rfl ?_
  refine x_getf (zdm d_Piece_listDifferences_0 11 rfl) f_Piece_41 rfl rfl ?_
  refine x_icmpge (tgt := 41) (zdm d_Piece_listDifferences_0 12 rfl) (by decide) (fun c => ?_) (fun c => ?_)
  · have H := H.1 c
    refine x_aload_n (zdm d_Piece_listDifferences_0 22 rfl) rfl (n := 1) rfl ?_
    obtain ⟨g1, H⟩ := H
    refine x_getG (zdm d_Piece_listDifferences_0 23 rfl) f_Piece_79 g1 rfl (by decide) hsl (zs_8 g1).1.1 ?_
    refine x_iload_n (zdm d_Piece_listDifferences_0 24 rfl) rfl (n := 2) rfl ?_
    obtain ⟨g2, H⟩ := H
    refine x_aald5G (zdm d_Piece_listDifferences_0 25 rfl) (zs_8 g1).1.2 g2 hsl (zs_cols g1 g2.1 g2.2).1 ?_
    refine x_getf (zdm d_Piece_listDifferences_0 26 rfl) f_Piece_109 (zs_cols g1 g2.1 g2.2).2 rfl ?_
    refine x_aload_n (zdm d_Piece_listDifferences_0 27 rfl) rfl (n := 1) rfl ?_
    refine x_getG (zdm d_Piece_listDifferences_0 28 rfl) f_Piece_79 g1 rfl (by decide) hsl (zs_8 g1).1.1 ?_
    refine x_iload_n (zdm d_Piece_listDifferences_0 29 rfl) rfl (n := 2) rfl ?_
    refine x_aald5G (zdm d_Piece_listDifferences_0 30 rfl) (zs_8 g1).1.2 g2 hsl (zs_cols g1 g2.1 g2.2).1 ?_
    refine x_getf (zdm d_Piece_listDifferences_0 31 rfl) f_Piece_112 (zs_cols g1 g2.1 g2.2).2 rfl ?_
    obtain ⟨g3, H⟩ := H
    refine x_isub (zdm d_Piece_listDifferences_0 32 rfl) g3 ?_
    refine x_istore (zdm d_Piece_listDifferences_0 33 rfl) (zlt rfl) rfl ?_
    refine x_aload_n (zdm d_Piece_listDifferences_0 34 rfl) rfl (n := 1) rfl ?_
    refine x_iconst (zdm d_Piece_listDifferences_0 35 rfl) (zIl rfl) ?_
    refine x_putf (zdm d_Piece_listDifferences_0 36 rfl) f_Piece_115 rfl ⟨rfl, trivial⟩ (Or.inl rfl) ?_
    refine x_iconst (zdm d_Piece_listDifferences_0 37 rfl) (zIl rfl) ?_
    refine x_istore (zdm d_Piece_listDifferences_0 38 rfl) (zlt rfl) rfl ?_
    exact zX.sub [2, 3, 4, 5, 1, 0] rfl H
  · have H := H.2 c
    refine x_iload_n (zdm d_Piece_listDifferences_0 13 rfl) rfl (n := 3) rfl ?_
    refine x_aload_n (zdm d_Piece_listDifferences_0 14 rfl) rfl (n := 0) rfl ?_
    refine x_getG (zdm d_Piece_listDifferences_0 15 rfl) f_Piece_18 rfl rfl (by decide) hsl rfl ?_
    refine x_iload (zdm d_Piece_listDifferences_0 16 rfl) (n := 4) rfl ?_
    obtain ⟨g4, H⟩ := H
    refine x_iald (zdm d_Piece_listDifferences_0 17 rfl) rfl g4 ?_
    refine x_callSi (n := 2) (zdm d_Piece_listDifferences_0 18 rfl) k_Piece_104 (As := [(0, l3), (0, (M 66 l4))]) rfl rfl (Nat.le_of_ble_eq_true rfl) trivial H (fun r5 M6 hr H => ?_)
    refine x_istore_n (zdm d_Piece_listDifferences_0 19 rfl) rfl (zlt rfl) rfl ?_
    obtain ⟨g7, H⟩ := H
    refine x_iinc (zdm d_Piece_listDifferences_0 20 rfl) (n := 4) rfl g7 (zlt rfl) rfl ?_
    refine x_goto (tgt := 14) (zdm d_Piece_listDifferences_0 21 rfl) (by decide) ?_
    exact zX.sub [2, 3, 4, 1, 0] rfl H
set_option maxRecDepth 20000 in
set_option maxHeartbeats 4000000 in
theorem E_Piece_listDifferences {G : zG} {h sl : Nat} (hsl : 1 ≤ sl) {l1 l2 : Int} {M : zM} {Q : Int → zM → Prop} (H : (¬ (M 63 16) = l2 → zX G (y_Piece_listDifferences, h + 1, sl) (0, 0, 0, 0) 14 [(0, (2, 63)), (1, (2, l1)), (2, (0, l2)), (3, (0, (-1))), (4, (0, 0))] [] M Q) ∧ (¬ (¬ (M 63 16) = l2) → Q 0 M)) : zCt G (h + 1) sl 0 0 y_Piece_listDifferences [(2, 63), (2, l1), (0, l2)] M Q := by
  refine zCt.of (by decide +kernel) (Nat.le_of_ble_eq_true rfl) ?_
  refine x_aload_n (zdm d_Piece_listDifferences_0 0 rfl) rfl (n := 0) rfl ?_
  refine x_getf (zdm d_Piece_listDifferences_0 1 rfl) f_Piece_55 rfl rfl ?_
  refine x_iload_n (zdm d_Piece_listDifferences_0 2 rfl) rfl (n := 2) rfl ?_
  refine x_icmpne (tgt := 9) (zdm d_Piece_listDifferences_0 3 rfl) (by decide) (fun c => ?_) (fun c => ?_)
  · have H := H.1 c
    refine x_iconst (zdm d_Piece_listDifferences_0 5 rfl) (zIl rfl) ?_
    refine x_istore_n (zdm d_Piece_listDifferences_0 6 rfl) rfl (zlt rfl) rfl ?_
    refine x_iconst (zdm d_Piece_listDifferences_0 7 rfl) (zIl rfl) ?_
    refine x_istore (zdm d_Piece_listDifferences_0 8 rfl) (zlt rfl) rfl ?_
    exact zX.sub [2, 3, 4, 1, 0] rfl H
  · have H := H.2 c
    exact x_return (zdm d_Piece_listDifferences_0 4 rfl) rfl H
set_option maxRecDepth 20000 in
set_option maxHeartbeats 4000000 in
theorem B_Piece_wouldFit_21 {G : zG} {h sl : Nat} (hsl : 1 ≤ sl) {u : Nat × Nat × Nat × Nat} {l1 l2 l3 l4 l5 l6 : Int} {M : zM} {Q : Int → zM → Prop} (H : ((M 63 8) ≤ l6 → (zK l1 = (8, 0)) ∧ (zCt G h sl 0 0 y_Tablet_next [(2, l1), (2, 64), (0, l2), (0, l3)] M (fun r1 M2 => (zI (l5 + 1)) ∧ (zX G (y_Piece_wouldFit, h + 1, sl) u 11 [(0, (2, 63)), (1, (2, l1)), (2, (0, l2)), (3, (0, l3)), (4, (0, l4)), (5, (0, (l5 + 1)))] [] M2 Q)))) ∧ (¬ (M 63 8) ≤ l6 → (0 ≤ l6 ∧ l6 < 12) ∧ ((¬ (M 66 l6) = l5 → (zI (l6 + 1)) ∧ (zX G (y_Piece_wouldFit, h + 1, sl) u 21 [(0, (2, 63)), (1, (2, l1)), (2, (0, l2)), (3, (0, l3)), (4, (0, l4)), (5, (0, l5)), (6, (0, (l6 + 1)))] [] M Q)) ∧ (¬ (¬ (M 66 l6) = l5) → (0 ≤ (M 67 l6) ∧ (M 67 l6) < 8) ∧ (((M 65 (M 67 l6)) = (M 68 l6) → (zI (l6 + 1)) ∧ (zX G (y_Piece_wouldFit, h + 1, sl) u 21 [(0, (2, 63)), (1, (2, l1)), (2, (0, l2)), (3, (0, l3)), (4, (0, l4)), (5, (0, l5)), (6, (0, (l6 + 1)))] [] M Q)) ∧ (¬ (M 65 (M 67 l6)) = (M 68 l6) → Q 0 M)))))) : zX G (y_Piece_wouldFit, h + 1, sl) u 21 [(0, (2, 63)), (1, (2, l1)), (2, (0, l2)), (3, (0, l3)), (4, (0, l4)), (5, (0, l5)), (6, (0, l6))] [] M Q := by
  refine x_iload (zdm d_Piece_wouldFit_0 11 rfl) (n := 6) rfl ?_
  refine x_aload_n (zdm d_Piece_wouldFit_0 12 rfl) rfl (n := 0) rfl ?_
  refine x_getf (zdm d_Piece_wouldFit_0 13 rfl) f_Piece_41 rfl rfl ?_
  refine x_icmpge (tgt := 75) (zdm d_Piece_wouldFit_0 14 rfl) (by decide) (fun c => ?_) (fun c => ?_)
  · have H := H.1 c
    refine x_aload_n (zdm d_Piece_wouldFit_0 38 rfl) rfl (n := 1) rfl ?_
    refine x_aload_n (zdm d_Piece_wouldFit_0 39 rfl) rfl (n := 0) rfl ?_
    refine x_getG (zdm d_Piece_wouldFit_0 40 rfl) f_Piece_14 rfl rfl (by decide) hsl rfl ?_
    refine x_iload_n (zdm d_Piece_wouldFit_0 41 rfl) rfl (n := 2) rfl ?_
    refine x_iload_n (zdm d_Piece_wouldFit_0 42 rfl) rfl (n := 3) rfl ?_
    obtain ⟨g3, H⟩ := H
    refine x_callVv (n := 3) (ci := 8) (zdm d_Piece_wouldFit_0 43 rfl) k_Piece_127 (As := [(2, 64), (0, l2), (0, l3)]) rfl rfl g3 ⟨_, _, rfl⟩ (Nat.le_of_ble_eq_true rfl) rfl H (fun r1 M2 hr H => ?_)
    obtain ⟨g4, H⟩ := H
    refine x_iinc (zdm d_Piece_wouldFit_0 44 rfl) (n := 5) rfl g4 (zlt rfl) rfl ?_
    refine x_goto (tgt := 11) (zdm d_Piece_wouldFit_0 45 rfl) (by decide) ?_
    exact zX.sub [1, 2, 3, 4, 5, 0] rfl H
  · have H := H.2 c
    refine x_aload_n (zdm d_Piece_wouldFit_0 15 rfl) rfl (n := 0) rfl ?_
    refine x_getG (zdm d_Piece_wouldFit_0 16 rfl) f_Piece_18 rfl rfl (by decide) hsl rfl ?_
    refine x_iload (zdm d_Piece_wouldFit_0 17 rfl) (n := 6) rfl ?_
    obtain ⟨g5, H⟩ := H
    refine x_iald (zdm d_Piece_wouldFit_0 18 rfl) rfl g5 ?_
    refine x_iload (zdm d_Piece_wouldFit_0 19 rfl) (n := 5) rfl ?_
    refine x_icmpne (tgt := 69) (zdm d_Piece_wouldFit_0 20 rfl) (by decide) (fun c => ?_) (fun c => ?_)
    · have H := H.1 c
      obtain ⟨g6, H⟩ := H
      refine x_iinc (zdm d_Piece_wouldFit_0 36 rfl) (n := 6) rfl g6 (zlt rfl) rfl ?_
      refine x_goto (tgt := 21) (zdm d_Piece_wouldFit_0 37 rfl) (by decide) ?_
      exact zX.sub [1, 2, 3, 4, 5, 6, 0] rfl H
    · have H := H.2 c
      refine x_aload_n (zdm d_Piece_wouldFit_0 21 rfl) rfl (n := 0) rfl ?_
      refine x_getG (zdm d_Piece_wouldFit_0 22 rfl) f_Piece_14 rfl rfl (by decide) hsl rfl ?_
      refine x_getG (zdm d_Piece_wouldFit_0 23 rfl) f_Piece_126 rfl rfl (by decide) hsl rfl ?_
      refine x_aload_n (zdm d_Piece_wouldFit_0 24 rfl) rfl (n := 0) rfl ?_
      refine x_getG (zdm d_Piece_wouldFit_0 25 rfl) f_Piece_22 rfl rfl (by decide) hsl rfl ?_
      refine x_iload (zdm d_Piece_wouldFit_0 26 rfl) (n := 6) rfl ?_
      refine x_iald (zdm d_Piece_wouldFit_0 27 rfl) rfl g5 ?_
      obtain ⟨g7, H⟩ := H
      refine x_iald (zdm d_Piece_wouldFit_0 28 rfl) rfl g7 ?_
      refine x_aload_n (zdm d_Piece_wouldFit_0 29 rfl) rfl (n := 0) rfl ?_
      refine x_getG (zdm d_Piece_wouldFit_0 30 rfl) f_Piece_25 rfl rfl (by decide) hsl rfl ?_
      refine x_iload (zdm d_Piece_wouldFit_0 31 rfl) (n := 6) rfl ?_
      refine x_iald (zdm d_Piece_wouldFit_0 32 rfl) rfl g5 ?_
      refine x_icmpeq (tgt := 69) (zdm d_Piece_wouldFit_0 33 rfl) (by decide) (fun c => ?_) (fun c => ?_)
      · have H := H.1 c
        obtain ⟨g8, H⟩ := H
        refine x_iinc (zdm d_Piece_wouldFit_0 36 rfl) (n := 6) rfl g8 (zlt rfl) rfl ?_
        refine x_goto (tgt := 21) (zdm d_Piece_wouldFit_0 37 rfl) (by decide) ?_
        exact zX.sub [1, 2, 3, 4, 5, 6, 0] rfl H
      · have H := H.2 c
        refine x_iconst (zdm d_Piece_wouldFit_0 34 rfl) (zIl rfl) ?_
        exact x_ireturn (zdm d_Piece_wouldFit_0 35 rfl) (ty := .boolean) rfl (by decide) (Or.inl rfl) H
set_option maxRecDepth 20000 in
set_option maxHeartbeats 4000000 in
theorem B_Piece_wouldFit_11 {G : zG} {h sl : Nat} (hsl : 1 ≤ sl) {u : Nat × Nat × Nat × Nat} {l1 l2 l3 l4 l5 : Int} {M : zM} {Q : Int → zM → Prop} (H : (l4 < l5 → Q 1 M) ∧ (¬ l4 < l5 → zX G (y_Piece_wouldFit, h + 1, sl) u 21 [(0, (2, 63)), (1, (2, l1)), (2, (0, l2)), (3, (0, l3)), (4, (0, l4)), (5, (0, l5)), (6, (0, 0))] [] M Q)) : zX G (y_Piece_wouldFit, h + 1, sl) u 11 [(0, (2, 63)), (1, (2, l1)), (2, (0, l2)), (3, (0, l3)), (4, (0, l4)), (5, (0, l5))] [] M Q := by
  refine x_iload (zdm d_Piece_wouldFit_0 6 rfl) (n := 5) rfl ?_
  refine x_iload (zdm d_Piece_wouldFit_0 7 rfl) (n := 4) rfl ?_
  refine x_icmpgt (tgt := 91) (zdm d_Piece_wouldFit_0 8 rfl) (by decide) (fun c => ?_) (fun c => ?_)
  · have H := H.1 c
    refine x_iconst (zdm d_Piece_wouldFit_0 46 rfl) (zIl rfl) ?_
    exact x_ireturn (zdm d_Piece_wouldFit_0 47 rfl) (ty := .boolean) rfl (by decide) (Or.inr rfl) H
  · have H := H.2 c
    refine x_iconst (zdm d_Piece_wouldFit_0 9 rfl) (zIl rfl) ?_
    refine x_istore (zdm d_Piece_wouldFit_0 10 rfl) (zlt rfl) rfl ?_
    exact zX.sub [1, 2, 3, 4, 5, 6, 0] rfl H
set_option maxRecDepth 20000 in
set_option maxHeartbeats 4000000 in
theorem E_Piece_wouldFit {G : zG} {h sl : Nat} (hsl : 1 ≤ sl) {l1 l2 l3 l4 : Int} {M : zM} {Q : Int → zM → Prop} (H : (zK l1 = (8, 0)) ∧ (zCt G h sl 0 0 y_Tablet_begin [(2, l1), (2, 64)] M (fun r1 M2 => zX G (y_Piece_wouldFit, h + 1, sl) (0, 0, 0, 0) 11 [(0, (2, 63)), (1, (2, l1)), (2, (0, l2)), (3, (0, l3)), (4, (0, l4)), (5, (0, 0))] [] M2 Q))) : zCt G (h + 1) sl 0 0 y_Piece_wouldFit [(2, 63), (2, l1), (0, l2), (0, l3), (0, l4)] M Q := by
  refine zCt.of (by decide +kernel) (Nat.le_of_ble_eq_true rfl) ?_
  refine x_aload_n (zdm d_Piece_wouldFit_0 0 rfl) rfl (n := 1) rfl ?_
  refine x_aload_n (zdm d_Piece_wouldFit_0 1 rfl) rfl (n := 0) rfl ?_
  refine x_getG (zdm d_Piece_wouldFit_0 2 rfl) f_Piece_14 rfl rfl (by decide) hsl rfl ?_
  obtain ⟨g3, H⟩ := H
  refine x_callVv (n := 1) (ci := 8) (zdm d_Piece_wouldFit_0 3 rfl) k_Piece_122 (As := [(2, 64)]) rfl rfl g3 ⟨_, _, rfl⟩ (Nat.le_of_ble_eq_true rfl) rfl H (fun r1 M2 hr H => ?_)
  refine x_iconst (zdm d_Piece_wouldFit_0 4 rfl) (zIl rfl) ?_
  refine x_istore (zdm d_Piece_wouldFit_0 5 rfl) (zlt rfl) rfl ?_
  exact zX.sub [1, 2, 3, 4, 5, 0] rfl H
set_option maxRecDepth 20000 in
set_option maxHeartbeats 4000000 in
theorem B_Piece_weigh_76 {G : zG} {h sl : Nat} (hsl : 1 ≤ sl) {u : Nat × Nat × Nat × Nat} {l1 l2 l3 l4 : Int} {M : zM} {Q : Int → zM → Prop} (H : (zI (l3 + 1)) ∧ (zX G (y_Piece_weigh, h + 1, sl) u 23 [(0, (2, 63)), (1, (2, l1)), (2, (0, l2)), (3, (0, (l3 + 1)))] [] (zwr (zwr (zwr M 63 11 l2) 63 12 l3) 63 13 l4) Q)) : zX G (y_Piece_weigh, h + 1, sl) u 76 [(0, (2, 63)), (1, (2, l1)), (2, (0, l2)), (3, (0, l3)), (4, (0, l4))] [] M Q := by
  refine x_aload_n (zdm d_Piece_weigh_0 40 rfl) rfl (n := 0) rfl ?_
  refine x_iload_n (zdm d_Piece_weigh_0 41 rfl) rfl (n := 2) rfl ?_
  refine x_putf (zdm d_Piece_weigh_0 42 rfl) f_Piece_137 rfl ⟨rfl, trivial⟩ (Or.inl rfl) ?_
  refine x_aload_n (zdm d_Piece_weigh_0 43 rfl) rfl (n := 0) rfl ?_
  refine x_iload_n (zdm d_Piece_weigh_0 44 rfl) rfl (n := 3) rfl ?_
  refine x_putf (zdm d_Piece_weigh_0 45 rfl) f_Piece_140 rfl ⟨rfl, trivial⟩ (Or.inl rfl) ?_
  refine x_aload_n (zdm d_Piece_weigh_0 46 rfl) rfl (n := 0) rfl ?_
  refine x_iload (zdm d_Piece_weigh_0 47 rfl) (n := 4) rfl ?_
  refine x_putf (zdm d_Piece_weigh_0 48 rfl) f_Piece_131 rfl ⟨rfl, trivial⟩ (Or.inl rfl) ?_
  obtain ⟨g1, H⟩ := H
  refine x_iinc (zdm d_Piece_weigh_0 49 rfl) (n := 3) rfl g1 (zlt rfl) rfl ?_
  refine x_goto (tgt := 23) (zdm d_Piece_weigh_0 50 rfl) (by decide) ?_
  exact zX.sub [1, 2, 3, 0] rfl H
set_option maxRecDepth 20000 in
set_option maxHeartbeats 4000000 in
theorem B_Piece_weigh_53 {G : zG} {h sl : Nat} (hsl : 1 ≤ sl) {u : Nat × Nat × Nat × Nat} {l1 l2 l3 s0 : Int} {M : zM} {Q : Int → zM → Prop} (H : (s0 ≤ 0 → (zI (l3 + 1)) ∧ (zX G (y_Piece_weigh, h + 1, sl) u 23 [(0, (2, 63)), (1, (2, l1)), (2, (0, l2)), (3, (0, (l3 + 1)))] [] M Q)) ∧ (¬ s0 ≤ 0 → ((M 63 13) = 0 → zX G (y_Piece_weigh, h + 1, sl) u 76 [(0, (2, 63)), (1, (2, l1)), (2, (0, l2)), (3, (0, l3)), (4, (0, s0))] [] M Q) ∧ (¬ (M 63 13) = 0 → ((M 63 13) ≤ s0 → (zI (l3 + 1)) ∧ (zX G (y_Piece_weigh, h + 1, sl) u 23 [(0, (2, 63)), (1, (2, l1)), (2, (0, l2)), (3, (0, (l3 + 1)))] [] M Q)) ∧ (¬ (M 63 13) ≤ s0 → zX G (y_Piece_weigh, h + 1, sl) u 76 [(0, (2, 63)), (1, (2, l1)), (2, (0, l2)), (3, (0, l3)), (4, (0, s0))] [] M Q)))) : zX G (y_Piece_weigh, h + 1, sl) u 53 [(0, (2, 63)), (1, (2, l1)), (2, (0, l2)), (3, (0, l3))] [(0, s0)] M Q := by
  refine x_istore (zdm d_Piece_weigh_0 30 rfl) (zlt rfl) rfl ?_
  refine x_iload (zdm d_Piece_weigh_0 31 rfl) (n := 0) rfl ?_
  refine x_ifle (tgt := 92) (zdm d_Piece_weigh_0 32 rfl) (by decide) (fun c => ?_) (fun c => ?_)
  · have H := H.1 c
    obtain ⟨g1, H⟩ := H
    refine x_iinc (zdm d_Piece_weigh_0 49 rfl) (n := 4) rfl g1 (zlt rfl) rfl ?_
    refine x_goto (tgt := 23) (zdm d_Piece_weigh_0 50 rfl) (by decide) ?_
    exact zX.sub [2, 3, 4, 0] rfl H
  · have H := H.2 c
    refine x_aload_n (zdm d_Piece_weigh_0 33 rfl) rfl (n := 1) rfl ?_
    refine x_getf (zdm d_Piece_weigh_0 34 rfl) f_Piece_131 rfl rfl ?_
    refine x_ifeq (tgt := 76) (zdm d_Piece_weigh_0 35 rfl) (by decide) (fun c => ?_) (fun c => ?_)
    · have H := H.1 c
      exact zX.sub [1, 2, 3, 4, 0] rfl H
    · have H := H.2 c
      refine x_iload (zdm d_Piece_weigh_0 36 rfl) (n := 0) rfl ?_
      refine x_aload_n (zdm d_Piece_weigh_0 37 rfl) rfl (n := 1) rfl ?_
      refine x_getf (zdm d_Piece_weigh_0 38 rfl) f_Piece_131 rfl rfl ?_
      refine x_icmpge (tgt := 92) (zdm d_Piece_weigh_0 39 rfl) (by decide) (fun c => ?_) (fun c => ?_)
      · have H := H.1 c
        obtain ⟨g2, H⟩ := H
        refine x_iinc (zdm d_Piece_weigh_0 49 rfl) (n := 4) rfl g2 (zlt rfl) rfl ?_
        refine x_goto (tgt := 23) (zdm d_Piece_weigh_0 50 rfl) (by decide) ?_
        exact zX.sub [2, 3, 4, 0] rfl H
      · have H := H.2 c
        exact zX.sub [1, 2, 3, 4, 0] rfl H
set_option maxRecDepth 20000 in
set_option maxHeartbeats 4000000 in
theorem B_Piece_weigh_23 {G : zG} {h sl : Nat} (hsl : 1 ≤ sl) {u : Nat × Nat × Nat × Nat} {l1 l2 l3 : Int} {M : zM} {Q : Int → zM → Prop} (H : (zK l1 = (8, 0)) ∧ (((M l1 2) ≤ l3 → (zI (l2 + 1)) ∧ (zX G (y_Piece_weigh, h + 1, sl) u 15 [(0, (2, 63)), (1, (2, l1)), (2, (0, (l2 + 1)))] [] M Q)) ∧ (¬ (M l1 2) ≤ l3 → (0 ≤ l3 ∧ l3 < 8) ∧ (zCt G h sl 0 0 y_Column_moves [(2, (l1 + 7 + 2 * l3))] M (fun r4 M5 => (r4 = 0 → zX G (y_Piece_weigh, h + 1, sl) u 53 [(0, (2, 63)), (1, (2, l1)), (2, (0, l2)), (3, (0, l3))] [(0, 0)] M5 Q) ∧ (¬ r4 = 0 → zCt G h sl 0 0 y_Piece_mostAlike [(2, 63), (0, l2), (0, l3)] M5 (fun r7 M8 => zX G (y_Piece_weigh, h + 1, sl) u 53 [(0, (2, 63)), (1, (2, l1)), (2, (0, l2)), (3, (0, l3))] [(0, r7)] M8 Q))))))) : zX G (y_Piece_weigh, h + 1, sl) u 23 [(0, (2, 63)), (1, (2, l1)), (2, (0, l2)), (3, (0, l3))] [] M Q := by
  refine x_iload_n (zdm d_Piece_weigh_0 14 rfl) rfl (n := 3) rfl ?_
  refine x_aload_n (zdm d_Piece_weigh_0 15 rfl) rfl (n := 1) rfl ?_
  obtain ⟨g1, H⟩ := H
  refine x_getf (zdm d_Piece_weigh_0 16 rfl) f_Piece_74 g1 rfl ?_
  refine x_icmpge (tgt := 98) (zdm d_Piece_weigh_0 17 rfl) (by decide) (fun c => ?_) (fun c => ?_)
  · have H := H.1 c
    obtain ⟨g2, H⟩ := H
    refine x_iinc (zdm d_Piece_weigh_0 51 rfl) (n := 2) rfl g2 (zlt rfl) rfl ?_
    refine x_goto (tgt := 15) (zdm d_Piece_weigh_0 52 rfl) (by decide) ?_
    exact zX.sub [1, 2, 0] rfl H
  · have H := H.2 c
    refine x_aload_n (zdm d_Piece_weigh_0 18 rfl) rfl (n := 1) rfl ?_
    refine x_getG (zdm d_Piece_weigh_0 19 rfl) f_Piece_79 g1 rfl (by decide) hsl (zs_8 g1).1.1 ?_
    refine x_iload_n (zdm d_Piece_weigh_0 20 rfl) rfl (n := 3) rfl ?_
    obtain ⟨g3, H⟩ := H
    refine x_aald5G (zdm d_Piece_weigh_0 21 rfl) (zs_8 g1).1.2 g3 hsl (zs_cols g1 g3.1 g3.2).1 ?_
    refine x_callVi (n := 0) (ci := 1) (zdm d_Piece_weigh_0 22 rfl) k_Piece_82 (As := []) rfl rfl (zs_cols g1 g3.1 g3.2).2 ⟨_, _, rfl⟩ (Nat.le_of_ble_eq_true rfl) trivial H (fun r4 M5 hr H => ?_)
    have b6 : r4 = 0 ∨ r4 = 1 := hr
    refine x_ifeq (tgt := 52) (zdm d_Piece_weigh_0 23 rfl) (by decide) (fun c => ?_) (fun c => ?_)
    · have H := H.1 c
      refine x_iconst (zdm d_Piece_weigh_0 29 rfl) (zIl rfl) ?_
      exact H
    · have H := H.2 c
      refine x_aload_n (zdm d_Piece_weigh_0 24 rfl) rfl (n := 0) rfl ?_
      refine x_iload_n (zdm d_Piece_weigh_0 25 rfl) rfl (n := 2) rfl ?_
      refine x_iload_n (zdm d_Piece_weigh_0 26 rfl) rfl (n := 3) rfl ?_
      refine x_callVi (n := 2) (ci := 5) (zdm d_Piece_weigh_0 27 rfl) k_Piece_134 (As := [(0, l2), (0, l3)]) rfl rfl rfl ⟨_, _, rfl⟩ (Nat.le_of_ble_eq_true rfl) trivial H (fun r7 M8 hr H => ?_)
      refine x_goto (tgt := 53) (zdm d_Piece_weigh_0 28 rfl) (by decide) ?_
      exact H
set_option maxRecDepth 20000 in
set_option maxHeartbeats 4000000 in
theorem B_Piece_weigh_15 {G : zG} {h sl : Nat} (hsl : 1 ≤ sl) {u : Nat × Nat × Nat × Nat} {l1 l2 : Int} {M : zM} {Q : Int → zM → Prop} (H : (30 < l2 → Q 0 (zwr M 63 15 1)) ∧ (¬ 30 < l2 → zX G (y_Piece_weigh, h + 1, sl) u 23 [(0, (2, 63)), (1, (2, l1)), (2, (0, l2)), (3, (0, 0))] [] M Q)) : zX G (y_Piece_weigh, h + 1, sl) u 15 [(0, (2, 63)), (1, (2, l1)), (2, (0, l2))] [] M Q := by
  refine x_iload_n (zdm d_Piece_weigh_0 9 rfl) rfl (n := 2) rfl ?_
  refine x_bipush (zdm d_Piece_weigh_0 10 rfl) (by decide) ?_
  refine x_icmpgt (tgt := 104) (zdm d_Piece_weigh_0 11 rfl) (by decide) (fun c => ?_) (fun c => ?_)
  · have H := H.1 c
    refine x_aload_n (zdm d_Piece_weigh_0 53 rfl) rfl (n := 0) rfl ?_
    refine x_iconst (zdm d_Piece_weigh_0 54 rfl) (zIl rfl) ?_
    refine x_putf (zdm d_Piece_weigh_0 55 rfl) f_Piece_52 rfl ⟨rfl, (Or.inr rfl)⟩ (Or.inl rfl) ?_
    exact x_return (zdm d_Piece_weigh_0 56 rfl) rfl H
  · have H := H.2 c
    refine x_iconst (zdm d_Piece_weigh_0 12 rfl) (zIl rfl) ?_
    refine x_istore_n (zdm d_Piece_weigh_0 13 rfl) rfl (zlt rfl) rfl ?_
    exact zX.sub [1, 2, 3, 0] rfl H
set_option maxRecDepth 20000 in
set_option maxHeartbeats 4000000 in
theorem E_Piece_weigh {G : zG} {h sl : Nat} (hsl : 1 ≤ sl) {l1 : Int} {M : zM} {Q : Int → zM → Prop} (H : ((M 63 15) = 0 → zX G (y_Piece_weigh, h + 1, sl) (0, 0, 0, 0) 15 [(0, (2, 63)), (1, (2, l1)), (2, (0, 0))] [] (zwr M 63 13 0) Q) ∧ (¬ (M 63 15) = 0 → Q 0 M)) : zCt G (h + 1) sl 0 0 y_Piece_weigh [(2, 63), (2, l1)] M Q := by
  refine zCt.of (by decide +kernel) (Nat.le_of_ble_eq_true rfl) ?_
  refine x_aload_n (zdm d_Piece_weigh_0 0 rfl) rfl (n := 0) rfl ?_
  refine x_getf (zdm d_Piece_weigh_0 1 rfl) f_Piece_52 rfl rfl ?_
  refine x_ifeq (tgt := 8) (zdm d_Piece_weigh_0 2 rfl) (by decide) (fun c => ?_) (fun c => ?_)
  · have H := H.1 c
    refine x_aload_n (zdm d_Piece_weigh_0 4 rfl) rfl (n := 0) rfl ?_
    refine x_iconst (zdm d_Piece_weigh_0 5 rfl) (zIl rfl) ?_
    refine x_putf (zdm d_Piece_weigh_0 6 rfl) f_Piece_131 rfl ⟨rfl, trivial⟩ (Or.inl rfl) ?_
    refine x_iconst (zdm d_Piece_weigh_0 7 rfl) (zIl rfl) ?_
    refine x_istore_n (zdm d_Piece_weigh_0 8 rfl) rfl (zlt rfl) rfl ?_
    exact zX.sub [1, 2, 0] rfl H
  · have H := H.2 c
    exact x_return (zdm d_Piece_weigh_0 3 rfl) rfl H
set_option maxRecDepth 20000 in
set_option maxHeartbeats 4000000 in
theorem B_Piece_mostAlike_78 {G : zG} {h sl : Nat} (hsl : 1 ≤ sl) {u : Nat × Nat × Nat × Nat} {l1 l2 l3 l4 : Int} {M : zM} {Q : Int → zM → Prop} (H : ((M 63 9) ≤ l4 → Q l3 M) ∧ (¬ (M 63 9) ≤ l4 → (0 ≤ l4 ∧ l4 < 400) ∧ ((zI ((M 70 l4) + l1)) ∧ (zCt G h sl 0 0 y_Course_told [(2, 8), (0, ((M 70 l4) + l1)), (0, l2)] M (fun r3 M4 => (r3 < 0 → (zI (l4 + 1)) ∧ (zX G (y_Piece_mostAlike, h + 1, sl) u 78 [(0, (2, 63)), (1, (0, l1)), (2, (0, l2)), (3, (0, l3)), (4, (0, (l4 + 1)))] [] M4 Q)) ∧ (¬ r3 < 0 → (1000 ≤ r3 → (zI (l4 + 1)) ∧ (zX G (y_Piece_mostAlike, h + 1, sl) u 78 [(0, (2, 63)), (1, (0, l1)), (2, (0, l2)), (3, (0, l3)), (4, (0, (l4 + 1)))] [] M4 Q)) ∧ (¬ 1000 ≤ r3 → (0 ≤ r3 ∧ r3 < 1000) ∧ ((zI (l4 + 1)) ∧ (zX G (y_Piece_mostAlike, h + 1, sl) u 78 [(0, (2, 63)), (1, (0, l1)), (2, (0, l2)), (3, (0, l3)), (4, (0, (l4 + 1)))] [] (zwr M4 69 r3 0) Q))))))))) : zX G (y_Piece_mostAlike, h + 1, sl) u 78 [(0, (2, 63)), (1, (0, l1)), (2, (0, l2)), (3, (0, l3)), (4, (0, l4))] [] M Q := by
  refine x_iload (zdm d_Piece_mostAlike_0 43 rfl) (n := 4) rfl ?_
  refine x_aload_n (zdm d_Piece_mostAlike_0 44 rfl) rfl (n := 0) rfl ?_
  refine x_getf (zdm d_Piece_mostAlike_0 45 rfl) f_Piece_92 rfl rfl ?_
  refine x_icmpge (tgt := 133) (zdm d_Piece_mostAlike_0 46 rfl) (by decide) (fun c => ?_) (fun c => ?_)
  · have H := H.1 c
    refine x_iload_n (zdm d_Piece_mostAlike_1 10 rfl) rfl (n := 3) rfl ?_
    exact x_iret (zdm d_Piece_mostAlike_1 11 rfl) rfl H
  · have H := H.2 c
    refine x_aload_n (zdm d_Piece_mostAlike_0 47 rfl) rfl (n := 0) rfl ?_
    refine x_getG (zdm d_Piece_mostAlike_0 48 rfl) f_Piece_37 rfl rfl (by decide) hsl rfl ?_
    refine x_aload_n (zdm d_Piece_mostAlike_0 49 rfl) rfl (n := 0) rfl ?_
    refine x_getG (zdm d_Piece_mostAlike_0 50 rfl) f_Piece_31 rfl rfl (by decide) hsl rfl ?_
    refine x_iload (zdm d_Piece_mostAlike_0 51 rfl) (n := 4) rfl ?_
    obtain ⟨g1, H⟩ := H
    refine x_iald (zdm d_Piece_mostAlike_0 52 rfl) rfl g1 ?_
    refine x_iload_n (zdm d_Piece_mostAlike_0 53 rfl) rfl (n := 1) rfl ?_
    obtain ⟨g2, H⟩ := H
    refine x_iadd (zdm d_Piece_mostAlike_0 54 rfl) g2 ?_
    refine x_iload_n (zdm d_Piece_mostAlike_0 55 rfl) rfl (n := 2) rfl ?_
    refine x_callVi (n := 2) (ci := 2) (zdm d_Piece_mostAlike_0 56 rfl) k_Piece_98 (As := [(0, ((M 70 l4) + l1)), (0, l2)]) rfl rfl rfl ⟨_, _, rfl⟩ (Nat.le_of_ble_eq_true rfl) trivial H (fun r3 M4 hr H => ?_)
    refine x_istore (zdm d_Piece_mostAlike_0 57 rfl) (zlt rfl) rfl ?_
    refine x_iload (zdm d_Piece_mostAlike_0 58 rfl) (n := 0) rfl ?_
    refine x_iflt (tgt := 127) (zdm d_Piece_mostAlike_0 59 rfl) (by decide) (fun c => ?_) (fun c => ?_)
    · have H := H.1 c
      obtain ⟨g5, H⟩ := H
      refine x_iinc (zdm d_Piece_mostAlike_1 8 rfl) (n := 5) rfl g5 (zlt rfl) rfl ?_
      refine x_goto (tgt := 78) (zdm d_Piece_mostAlike_1 9 rfl) (by decide) ?_
      exact zX.sub [2, 3, 4, 5, 0] rfl H
    · have H := H.2 c
      refine x_iload (zdm d_Piece_mostAlike_1 0 rfl) (n := 0) rfl ?_
      refine x_sipush (zdm d_Piece_mostAlike_1 1 rfl) (by decide) ?_
      refine x_icmpge (tgt := 127) (zdm d_Piece_mostAlike_1 2 rfl) (by decide) (fun c => ?_) (fun c => ?_)
      · have H := H.1 c
        obtain ⟨g6, H⟩ := H
        refine x_iinc (zdm d_Piece_mostAlike_1 8 rfl) (n := 5) rfl g6 (zlt rfl) rfl ?_
        refine x_goto (tgt := 78) (zdm d_Piece_mostAlike_1 9 rfl) (by decide) ?_
        exact zX.sub [2, 3, 4, 5, 0] rfl H
      · have H := H.2 c
        refine x_aload_n (zdm d_Piece_mostAlike_1 3 rfl) rfl (n := 1) rfl ?_
        refine x_getG (zdm d_Piece_mostAlike_1 4 rfl) f_Piece_28 rfl rfl (by decide) hsl rfl ?_
        refine x_iload (zdm d_Piece_mostAlike_1 5 rfl) (n := 0) rfl ?_
        refine x_iconst (zdm d_Piece_mostAlike_1 6 rfl) (zIl rfl) ?_
        obtain ⟨g7, H⟩ := H
        refine x_iast (zdm d_Piece_mostAlike_1 7 rfl) rfl g7 ?_
        obtain ⟨g8, H⟩ := H
        refine x_iinc (zdm d_Piece_mostAlike_1 8 rfl) (n := 5) rfl g8 (zlt rfl) rfl ?_
        refine x_goto (tgt := 78) (zdm d_Piece_mostAlike_1 9 rfl) (by decide) ?_
        exact zX.sub [2, 3, 4, 5, 0] rfl H
set_option maxRecDepth 20000 in
set_option maxHeartbeats 4000000 in
theorem B_Piece_mostAlike_5 {G : zG} {h sl : Nat} (hsl : 1 ≤ sl) {u : Nat × Nat × Nat × Nat} {l1 l2 l3 l4 : Int} {M : zM} {Q : Int → zM → Prop} (H : ((M 63 9) ≤ l4 → zX G (y_Piece_mostAlike, h + 1, sl) u 78 [(0, (2, 63)), (1, (0, l1)), (2, (0, l2)), (3, (0, l3)), (4, (0, 0))] [] M Q) ∧ (¬ (M 63 9) ≤ l4 → (0 ≤ l4 ∧ l4 < 400) ∧ ((zI ((M 70 l4) + l1)) ∧ (zCt G h sl 0 0 y_Course_told [(2, 8), (0, ((M 70 l4) + l1)), (0, l2)] M (fun r3 M4 => (r3 < 0 → (zI (l4 + 1)) ∧ (zX G (y_Piece_mostAlike, h + 1, sl) u 5 [(0, (2, 63)), (1, (0, l1)), (2, (0, l2)), (3, (0, l3)), (4, (0, (l4 + 1)))] [] M4 Q)) ∧ (¬ r3 < 0 → (1000 ≤ r3 → (zI (l4 + 1)) ∧ (zX G (y_Piece_mostAlike, h + 1, sl) u 5 [(0, (2, 63)), (1, (0, l1)), (2, (0, l2)), (3, (0, l3)), (4, (0, (l4 + 1)))] [] M4 Q)) ∧ (¬ 1000 ≤ r3 → (0 ≤ r3 ∧ r3 < 1000) ∧ ((zI ((M4 69 r3) + 1)) ∧ (zCt G h sl 0 0 y_Jm_max_III [(0, l3), (0, ((zwr M4 69 r3 ((M4 69 r3) + 1)) 69 r3))] (zwr M4 69 r3 ((M4 69 r3) + 1)) (fun r9 M10 => (zI (l4 + 1)) ∧ (zX G (y_Piece_mostAlike, h + 1, sl) u 5 [(0, (2, 63)), (1, (0, l1)), (2, (0, l2)), (3, (0, r9)), (4, (0, (l4 + 1)))] [] M10 Q))))))))))) : zX G (y_Piece_mostAlike, h + 1, sl) u 5 [(0, (2, 63)), (1, (0, l1)), (2, (0, l2)), (3, (0, l3)), (4, (0, l4))] [] M Q := by
  refine x_iload (zdm d_Piece_mostAlike_0 4 rfl) (n := 4) rfl ?_
  refine x_aload_n (zdm d_Piece_mostAlike_0 5 rfl) rfl (n := 0) rfl ?_
  refine x_getf (zdm d_Piece_mostAlike_0 6 rfl) f_Piece_92 rfl rfl ?_
  refine x_icmpge (tgt := 75) (zdm d_Piece_mostAlike_0 7 rfl) (by decide) (fun c => ?_) (fun c => ?_)
  · have H := H.1 c
    refine x_iconst (zdm d_Piece_mostAlike_0 41 rfl) (zIl rfl) ?_
    refine x_istore (zdm d_Piece_mostAlike_0 42 rfl) (zlt rfl) rfl ?_
    exact zX.sub [1, 2, 3, 4, 0] rfl H
  · have H := H.2 c
    refine x_aload_n (zdm d_Piece_mostAlike_0 8 rfl) rfl (n := 0) rfl ?_
    refine x_getG (zdm d_Piece_mostAlike_0 9 rfl) f_Piece_37 rfl rfl (by decide) hsl rfl ?_
    refine x_aload_n (zdm d_Piece_mostAlike_0 10 rfl) rfl (n := 0) rfl ?_
    refine x_getG (zdm d_Piece_mostAlike_0 11 rfl) f_Piece_31 rfl rfl (by decide) hsl rfl ?_
    refine x_iload (zdm d_Piece_mostAlike_0 12 rfl) (n := 4) rfl ?_
    obtain ⟨g1, H⟩ := H
    refine x_iald (zdm d_Piece_mostAlike_0 13 rfl) rfl g1 ?_
    refine x_iload_n (zdm d_Piece_mostAlike_0 14 rfl) rfl (n := 1) rfl ?_
    obtain ⟨g2, H⟩ := H
    refine x_iadd (zdm d_Piece_mostAlike_0 15 rfl) g2 ?_
    refine x_iload_n (zdm d_Piece_mostAlike_0 16 rfl) rfl (n := 2) rfl ?_
    refine x_callVi (n := 2) (ci := 2) (zdm d_Piece_mostAlike_0 17 rfl) k_Piece_98 (As := [(0, ((M 70 l4) + l1)), (0, l2)]) rfl rfl rfl ⟨_, _, rfl⟩ (Nat.le_of_ble_eq_true rfl) trivial H (fun r3 M4 hr H => ?_)
    refine x_istore (zdm d_Piece_mostAlike_0 18 rfl) (zlt rfl) rfl ?_
    refine x_iload (zdm d_Piece_mostAlike_0 19 rfl) (n := 0) rfl ?_
    refine x_iflt (tgt := 69) (zdm d_Piece_mostAlike_0 20 rfl) (by decide) (fun c => ?_) (fun c => ?_)
    · have H := H.1 c
      obtain ⟨g5, H⟩ := H
      refine x_iinc (zdm d_Piece_mostAlike_0 39 rfl) (n := 5) rfl g5 (zlt rfl) rfl ?_
      refine x_goto (tgt := 5) (zdm d_Piece_mostAlike_0 40 rfl) (by decide) ?_
      exact zX.sub [2, 3, 4, 5, 0] rfl H
    · have H := H.2 c
      refine x_iload (zdm d_Piece_mostAlike_0 21 rfl) (n := 0) rfl ?_
      refine x_sipush (zdm d_Piece_mostAlike_0 22 rfl) (by decide) ?_
      refine x_icmpge (tgt := 69) (zdm d_Piece_mostAlike_0 23 rfl) (by decide) (fun c => ?_) (fun c => ?_)
      · have H := H.1 c
        obtain ⟨g6, H⟩ := H
        refine x_iinc (zdm d_Piece_mostAlike_0 39 rfl) (n := 5) rfl g6 (zlt rfl) rfl ?_
        refine x_goto (tgt := 5) (zdm d_Piece_mostAlike_0 40 rfl) (by decide) ?_
        exact zX.sub [2, 3, 4, 5, 0] rfl H
      · have H := H.2 c
        refine x_aload_n (zdm d_Piece_mostAlike_0 24 rfl) rfl (n := 1) rfl ?_
        refine x_getG (zdm d_Piece_mostAlike_0 25 rfl) f_Piece_28 rfl rfl (by decide) hsl rfl ?_
        refine x_iload (zdm d_Piece_mostAlike_0 26 rfl) (n := 0) rfl ?_
        refine x_dup2 (zdm d_Piece_mostAlike_0 27 rfl) z0n1 z2n1 ?_
        obtain ⟨g7, H⟩ := H
        refine x_iald (zdm d_Piece_mostAlike_0 28 rfl) rfl g7 ?_
        refine x_iconst (zdm d_Piece_mostAlike_0 29 rfl) (zIl rfl) ?_
        obtain ⟨g8, H⟩ := H
        refine x_iadd (zdm d_Piece_mostAlike_0 30 rfl) g8 ?_
        refine x_iast (zdm d_Piece_mostAlike_0 31 rfl) rfl g7 ?_
        refine x_iload_n (zdm d_Piece_mostAlike_0 32 rfl) rfl (n := 4) rfl ?_
        refine x_aload_n (zdm d_Piece_mostAlike_0 33 rfl) rfl (n := 1) rfl ?_
        refine x_getG (zdm d_Piece_mostAlike_0 34 rfl) f_Piece_28 rfl rfl (by decide) hsl rfl ?_
        refine x_iload (zdm d_Piece_mostAlike_0 35 rfl) (n := 0) rfl ?_
        refine x_iald (zdm d_Piece_mostAlike_0 36 rfl) rfl g7 ?_
        refine x_callSi (n := 2) (zdm d_Piece_mostAlike_0 37 rfl) k_Piece_104 (As := [(0, l3), (0, ((zwr M4 69 r3 ((M4 69 r3) + 1)) 69 r3))]) rfl rfl (Nat.le_of_ble_eq_true rfl) trivial H (fun r9 M10 hr H => ?_)
        refine x_istore_n (zdm d_Piece_mostAlike_0 38 rfl) rfl (zlt rfl) rfl ?_
        obtain ⟨g11, H⟩ := H
        refine x_iinc (zdm d_Piece_mostAlike_0 39 rfl) (n := 5) rfl g11 (zlt rfl) rfl ?_
        refine x_goto (tgt := 5) (zdm d_Piece_mostAlike_0 40 rfl) (by decide) ?_
        exact zX.sub [3, 4, 5, 1, 0] rfl H
set_option maxRecDepth 20000 in
set_option maxHeartbeats 4000000 in
theorem E_Piece_mostAlike {G : zG} {h sl : Nat} (hsl : 1 ≤ sl) {l1 l2 : Int} {M : zM} {Q : Int → zM → Prop} (H : zX G (y_Piece_mostAlike, h + 1, sl) (0, 0, 0, 0) 5 [(0, (2, 63)), (1, (0, l1)), (2, (0, l2)), (3, (0, 0)), (4, (0, 0))] [] M Q) : zCt G (h + 1) sl 0 0 y_Piece_mostAlike [(2, 63), (0, l1), (0, l2)] M Q := by
  refine zCt.of (by decide +kernel) (Nat.le_of_ble_eq_true rfl) ?_
  refine x_iconst (zdm d_Piece_mostAlike_0 0 rfl) (zIl rfl) ?_
  refine x_istore_n (zdm d_Piece_mostAlike_0 1 rfl) rfl (zlt rfl) rfl ?_
  refine x_iconst (zdm d_Piece_mostAlike_0 2 rfl) (zIl rfl) ?_
  refine x_istore (zdm d_Piece_mostAlike_0 3 rfl) (zlt rfl) rfl ?_
  exact zX.sub [2, 3, 4, 1, 0] rfl H
