set_option maxRecDepth 20000 in
set_option maxHeartbeats 4000000 in
theorem E_Course_begin {G : zG} {h sl : Nat} (hsl : 1 ≤ sl) {l0 l1 l2 : Int} {M : zM} {Q : Int → zM → Prop} (H : (zK l0 = (2, 0)) ∧ (zCt G h sl 0 0 y_Line_copy [(2, (l0 + 1)), (2, l2)] (zwr M l0 3 l1) (fun r2 M3 => zCt G h sl 0 0 y_Course_store [(2, l0)] (zwr M3 l0 4 0) (fun r4 M5 => Q 0 M5)))) : zCt G (h + 1) sl 0 0 y_Course_begin [(2, l0), (2, l1), (2, l2)] M Q := by
  refine zCt.of (by decide +kernel) (Nat.le_of_ble_eq_true rfl) ?_
  refine x_aload_n (zdm d_Course_begin_0 0 rfl) rfl (n := 0) rfl ?_
  refine x_aload_n (zdm d_Course_begin_0 1 rfl) rfl (n := 1) rfl ?_
  obtain ⟨g1, H⟩ := H
  refine x_putf (zdm d_Course_begin_0 2 rfl) f_Course_25 g1 ⟨rfl, trivial⟩ (Or.inl rfl) ?_
  refine x_aload_n (zdm d_Course_begin_0 3 rfl) rfl (n := 0) rfl ?_
  refine x_getG (zdm d_Course_begin_0 4 rfl) f_Course_12 g1 rfl (by decide) hsl (zs_2 g1).2.2.1 ?_
  refine x_aload_n (zdm d_Course_begin_0 5 rfl) rfl (n := 2) rfl ?_
  refine x_callVv (n := 1) (ci := 4) (zdm d_Course_begin_0 6 rfl) k_Course_29 (As := [(2, l2)]) rfl rfl (zs_2 g1).2.2.2 ⟨_, _, rfl⟩ (Nat.le_of_ble_eq_true rfl) rfl H (fun r2 M3 hr H => ?_)
  refine x_aload_n (zdm d_Course_begin_0 7 rfl) rfl (n := 0) rfl ?_
  refine x_iconst (zdm d_Course_begin_0 8 rfl) (zIl rfl) ?_
  refine x_putf (zdm d_Course_begin_0 9 rfl) f_Course_33 g1 ⟨rfl, trivial⟩ (Or.inl rfl) ?_
  refine x_aload_n (zdm d_Course_begin_0 10 rfl) rfl (n := 0) rfl ?_
  refine x_callVv (n := 0) (ci := 2) (zdm d_Course_begin_0 11 rfl) k_Course_37 (As := []) rfl rfl g1 ⟨_, _, rfl⟩ (Nat.le_of_ble_eq_true rfl) rfl H (fun r4 M5 hr H => ?_)
  exact x_return (zdm d_Course_begin_0 12 rfl) rfl H
set_option maxRecDepth 20000 in
set_option maxHeartbeats 4000000 in
theorem B_Course_reach_13 {G : zG} {h sl : Nat} (hsl : 1 ≤ sl) {u : Nat × Nat × Nat × Nat} {l0 l1 l2 : Int} {M : zM} {Q : Int → zM → Prop} (H : (l1 < l2 → Q 0 M) ∧ (¬ l1 < l2 → (zK l0 = (2, 0)) ∧ ((0 ≤ (zK (l0 + 4)).2 ∧ (zK (l0 + 4)).2 ≤ 100000) ∧ (((zK (l0 + 4)).2 ≤ l2 → Q 0 M) ∧ (¬ (zK (l0 + 4)).2 ≤ l2 → (zK (M l0 3) = (8, 0)) ∧ (zCt G h sl 0 0 y_Tablet_next [(2, (M l0 3)), (2, (l0 + 1)), (0, (-1)), (0, 0)] M (fun r3 M4 => zCt G h sl 0 0 y_Course_store [(2, l0)] M4 (fun r6 M7 => (zI (l2 + 1)) ∧ (zX G (y_Course_reach, h + 1, sl) u 13 [(0, (2, l0)), (1, (0, l1)), (2, (0, (l2 + 1)))] [] M7 Q))))))))) : zX G (y_Course_reach, h + 1, sl) u 13 [(0, (2, l0)), (1, (0, l1)), (2, (0, l2))] [] M Q := by
  refine x_iload_n (zdm d_Course_reach_0 7 rfl) rfl (n := 2) rfl ?_
  refine x_iload_n (zdm d_Course_reach_0 8 rfl) rfl (n := 1) rfl ?_
  refine x_icmpgt (tgt := 50) (zdm d_Course_reach_0 9 rfl) (by decide) (fun c => ?_) (fun c => ?_)
  · have H := H.1 c
    exact x_return (zdm d_Course_reach_0 26 rfl) rfl H
  · have H := H.2 c
    refine x_iload_n (zdm d_Course_reach_0 10 rfl) rfl (n := 2) rfl ?_
    refine x_aload_n (zdm d_Course_reach_0 11 rfl) rfl (n := 0) rfl ?_
    obtain ⟨g1, H⟩ := H
    refine x_getG (zdm d_Course_reach_0 12 rfl) f_Course_22 g1 rfl (by decide) hsl (zs_2 g1).2.1.1 ?_
    obtain ⟨g2, H⟩ := H
    refine x_alen0 (zdm d_Course_reach_0 13 rfl) (zKe (zs_2 g1).2.1.2) g2 ?_
    refine x_icmpge (tgt := 50) (zdm d_Course_reach_0 14 rfl) (by decide) (fun c => ?_) (fun c => ?_)
    · have H := H.1 c
      exact x_return (zdm d_Course_reach_0 26 rfl) rfl H
    · have H := H.2 c
      refine x_aload_n (zdm d_Course_reach_0 15 rfl) rfl (n := 0) rfl ?_
      refine x_getf (zdm d_Course_reach_0 16 rfl) f_Course_25 g1 rfl ?_
      refine x_aload_n (zdm d_Course_reach_0 17 rfl) rfl (n := 0) rfl ?_
      refine x_getG (zdm d_Course_reach_0 18 rfl) f_Course_12 g1 rfl (by decide) hsl (zs_2 g1).2.2.1 ?_
      refine x_iconst (zdm d_Course_reach_0 19 rfl) (zIl rfl) ?_
      refine x_iconst (zdm d_Course_reach_0 20 rfl) (zIl rfl) ?_
      obtain ⟨g5, H⟩ := H
      refine x_callVv (n := 3) (ci := 8) (zdm d_Course_reach_0 21 rfl) k_Course_40 (As := [(2, (l0 + 1)), (0, (-1)), (0, 0)]) rfl rfl g5 ⟨_, _, rfl⟩ (Nat.le_of_ble_eq_true rfl) rfl H (fun r3 M4 hr H => ?_)
      refine x_aload_n (zdm d_Course_reach_0 22 rfl) rfl (n := 0) rfl ?_
      refine x_callVv (n := 0) (ci := 2) (zdm d_Course_reach_0 23 rfl) k_Course_37 (As := []) rfl rfl g1 ⟨_, _, rfl⟩ (Nat.le_of_ble_eq_true rfl) rfl H (fun r6 M7 hr H => ?_)
      obtain ⟨g8, H⟩ := H
      refine x_iinc (zdm d_Course_reach_0 24 rfl) (n := 2) rfl g8 (zlt rfl) rfl ?_
      refine x_goto (tgt := 13) (zdm d_Course_reach_0 25 rfl) (by decide) ?_
      exact zX.sub [1, 2, 0] rfl H
set_option maxRecDepth 20000 in
set_option maxHeartbeats 4000000 in
theorem E_Course_reach {G : zG} {h sl : Nat} (hsl : 1 ≤ sl) {l0 l1 : Int} {M : zM} {Q : Int → zM → Prop} (H : (zK l0 = (2, 0)) ∧ ((¬ (M l0 3) = 0 → zX G (y_Course_reach, h + 1, sl) (0, 0, 0, 0) 13 [(0, (2, l0)), (1, (0, l1)), (2, (0, (M l0 4)))] [] M Q) ∧ (¬ (¬ (M l0 3) = 0) → Q 0 M))) : zCt G (h + 1) sl 0 0 y_Course_reach [(2, l0), (0, l1)] M Q := by
  refine zCt.of (by decide +kernel) (Nat.le_of_ble_eq_true rfl) ?_
  refine x_aload_n (zdm d_Course_reach_0 0 rfl) rfl (n := 0) rfl ?_
  obtain ⟨g1, H⟩ := H
  refine x_getf (zdm d_Course_reach_0 1 rfl) f_Course_25 g1 rfl ?_
  refine x_ifnonnull (tgt := 8) (zdm d_Course_reach_0 2 rfl) (by decide) (fun c => ?_) (fun c => ?_)
  · have H := H.1 c
    refine x_aload_n (zdm d_Course_reach_0 4 rfl) rfl (n := 0) rfl ?_
    refine x_getf (zdm d_Course_reach_0 5 rfl) f_Course_33 g1 rfl ?_
    refine x_istore_n (zdm d_Course_reach_0 6 rfl) rfl (zlt rfl) rfl ?_
    exact zX.sub [1, 2, 0] rfl H
  · have H := H.2 c
    exact x_return (zdm d_Course_reach_0 3 rfl) rfl H
set_option maxRecDepth 20000 in
set_option maxHeartbeats 4000000 in
theorem E_Course_store {G : zG} {h sl : Nat} (hsl : 1 ≤ sl) {l0 : Int} {M : zM} {Q : Int → zM → Prop} (H : (zK l0 = (2, 0)) ∧ ((0 ≤ (M l0 4) ∧ (M l0 4) < (zK (l0 + 4)).2) ∧ ((zI (((zwr M (l0 + 4) (M l0 4) (M (l0 + 1) 2)) l0 4) * 8)) ∧ ((0 ≤ (((zwr M (l0 + 4) (M l0 4) (M (l0 + 1) 2)) l0 4) * 8)) ∧ (((((zwr M (l0 + 4) (M l0 4) (M (l0 + 1) 2)) l0 4) * 8) + 8 ≤ (zK (l0 + 3)).2) ∧ ((zI (((zob (zwr M (l0 + 4) (M l0 4) (M (l0 + 1) 2)) (l0 + 3) (fun b => if (((zwr M (l0 + 4) (M l0 4) (M (l0 + 1) 2)) l0 4) * 8) ≤ b ∧ b < (((zwr M (l0 + 4) (M l0 4) (M (l0 + 1) 2)) l0 4) * 8) + 8 then (zwr M (l0 + 4) (M l0 4) (M (l0 + 1) 2)) ((l0 + 1) + 1) (0 + (b - (((zwr M (l0 + 4) (M l0 4) (M (l0 + 1) 2)) l0 4) * 8))) else (zwr M (l0 + 4) (M l0 4) (M (l0 + 1) 2)) (l0 + 3) b)) l0 4) + 1)) ∧ (Q 0 (zwr (zob (zwr M (l0 + 4) (M l0 4) (M (l0 + 1) 2)) (l0 + 3) (fun b => if (((zwr M (l0 + 4) (M l0 4) (M (l0 + 1) 2)) l0 4) * 8) ≤ b ∧ b < (((zwr M (l0 + 4) (M l0 4) (M (l0 + 1) 2)) l0 4) * 8) + 8 then (zwr M (l0 + 4) (M l0 4) (M (l0 + 1) 2)) ((l0 + 1) + 1) (0 + (b - (((zwr M (l0 + 4) (M l0 4) (M (l0 + 1) 2)) l0 4) * 8))) else (zwr M (l0 + 4) (M l0 4) (M (l0 + 1) 2)) (l0 + 3) b)) l0 4 (((zob (zwr M (l0 + 4) (M l0 4) (M (l0 + 1) 2)) (l0 + 3) (fun b => if (((zwr M (l0 + 4) (M l0 4) (M (l0 + 1) 2)) l0 4) * 8) ≤ b ∧ b < (((zwr M (l0 + 4) (M l0 4) (M (l0 + 1) 2)) l0 4) * 8) + 8 then (zwr M (l0 + 4) (M l0 4) (M (l0 + 1) 2)) ((l0 + 1) + 1) (0 + (b - (((zwr M (l0 + 4) (M l0 4) (M (l0 + 1) 2)) l0 4) * 8))) else (zwr M (l0 + 4) (M l0 4) (M (l0 + 1) 2)) (l0 + 3) b)) l0 4) + 1))))))))) : zCt G (h + 1) sl 0 0 y_Course_store [(2, l0)] M Q := by
  refine zCt.of (by decide +kernel) (Nat.le_of_ble_eq_true rfl) ?_
  refine x_aload_n (zdm d_Course_store_0 0 rfl) rfl (n := 0) rfl ?_
  obtain ⟨g1, H⟩ := H
  refine x_getG (zdm d_Course_store_0 1 rfl) f_Course_22 g1 rfl (by decide) hsl (zs_2 g1).2.1.1 ?_
  refine x_aload_n (zdm d_Course_store_0 2 rfl) rfl (n := 0) rfl ?_
  refine x_getf (zdm d_Course_store_0 3 rfl) f_Course_33 g1 rfl ?_
  refine x_aload_n (zdm d_Course_store_0 4 rfl) rfl (n := 0) rfl ?_
  refine x_getG (zdm d_Course_store_0 5 rfl) f_Course_12 g1 rfl (by decide) hsl (zs_2 g1).2.2.1 ?_
  refine x_getf (zdm d_Course_store_0 6 rfl) f_Course_46 (zs_2 g1).2.2.2 rfl ?_
  obtain ⟨g2, H⟩ := H
  refine x_iast (zdm d_Course_store_0 7 rfl) (zKe (zs_2 g1).2.1.2) g2 ?_
  refine x_aload_n (zdm d_Course_store_0 8 rfl) rfl (n := 0) rfl ?_
  refine x_getG (zdm d_Course_store_0 9 rfl) f_Course_12 g1 rfl (by decide) hsl (zs_2 g1).2.2.1 ?_
  refine x_getG (zdm d_Course_store_0 10 rfl) f_Course_48 (zs_2 g1).2.2.2 rfl (by decide) hsl (zs_4 (zs_2 g1).2.2.2).1 ?_
  refine x_iconst (zdm d_Course_store_0 11 rfl) (zIl rfl) ?_
  refine x_aload_n (zdm d_Course_store_0 12 rfl) rfl (n := 0) rfl ?_
  refine x_getG (zdm d_Course_store_0 13 rfl) f_Course_18 g1 rfl (by decide) hsl (zs_2 g1).1.1 ?_
  refine x_aload_n (zdm d_Course_store_0 14 rfl) rfl (n := 0) rfl ?_
  refine x_getf (zdm d_Course_store_0 15 rfl) f_Course_33 g1 rfl ?_
  refine x_bipush (zdm d_Course_store_0 16 rfl) (by decide) ?_
  obtain ⟨g3, H⟩ := H
  refine x_imul (zdm d_Course_store_0 17 rfl) g3 ?_
  refine x_bipush (zdm d_Course_store_0 18 rfl) (by decide) ?_
  obtain ⟨g4, H⟩ := H
  obtain ⟨g5, H⟩ := H
  refine x_copy (zdm d_Course_store_0 19 rfl) w_Course_49 w_copy_n w_copy_s w_copy_i (zs_4 (zs_2 g1).2.2.2).2 (zKe (zs_2 g1).1.2) (by decide) g4 (by decide) (by decide) g5 (Nat.le_of_ble_eq_true rfl) ?_
  refine x_aload_n (zdm d_Course_store_0 20 rfl) rfl (n := 0) rfl ?_
  refine x_dup (zdm d_Course_store_0 21 rfl) z2n1 ?_
  refine x_getf (zdm d_Course_store_0 22 rfl) f_Course_33 g1 rfl ?_
  refine x_iconst (zdm d_Course_store_0 23 rfl) (zIl rfl) ?_
  obtain ⟨g6, H⟩ := H
  refine x_iadd (zdm d_Course_store_0 24 rfl) g6 ?_
  refine x_putf (zdm d_Course_store_0 25 rfl) f_Course_33 g1 ⟨rfl, trivial⟩ (Or.inl rfl) ?_
  exact x_return (zdm d_Course_store_0 26 rfl) rfl H
set_option maxRecDepth 20000 in
set_option maxHeartbeats 4000000 in
theorem E_Course_told {G : zG} {h sl : Nat} (hsl : 1 ≤ sl) {l0 l1 l2 : Int} {M : zM} {Q : Int → zM → Prop} (H : (l1 < 0 → Q 0 M) ∧ (¬ l1 < 0 → (zK l0 = (2, 0)) ∧ (((M l0 4) ≤ l1 → Q 0 M) ∧ (¬ (M l0 4) ≤ l1 → (l2 < 0 → Q 0 M) ∧ (¬ l2 < 0 → (l2 < 8 → (zI (l1 * 8)) ∧ ((zI ((l1 * 8) + l2)) ∧ ((0 ≤ ((l1 * 8) + l2) ∧ ((l1 * 8) + l2) < (zK (l0 + 3)).2) ∧ (Q (M (l0 + 3) ((l1 * 8) + l2)) M)))) ∧ (¬ l2 < 8 → Q 0 M)))))) : zCt G h sl 0 0 y_Course_told [(2, l0), (0, l1), (0, l2)] M Q := by
  refine zCt.of (by decide +kernel) (Nat.le_of_ble_eq_true rfl) ?_
  refine x_iload_n (zdm d_Course_told_0 0 rfl) rfl (n := 1) rfl ?_
  refine x_iflt (tgt := 22) (zdm d_Course_told_0 1 rfl) (by decide) (fun c => ?_) (fun c => ?_)
  · have H := H.1 c
    refine x_iconst (zdm d_Course_told_0 11 rfl) (zIl rfl) ?_
    exact x_iret (zdm d_Course_told_0 12 rfl) rfl H
  · have H := H.2 c
    refine x_iload_n (zdm d_Course_told_0 2 rfl) rfl (n := 1) rfl ?_
    refine x_aload_n (zdm d_Course_told_0 3 rfl) rfl (n := 0) rfl ?_
    obtain ⟨g1, H⟩ := H
    refine x_getf (zdm d_Course_told_0 4 rfl) f_Course_33 g1 rfl ?_
    refine x_icmpge (tgt := 22) (zdm d_Course_told_0 5 rfl) (by decide) (fun c => ?_) (fun c => ?_)
    · have H := H.1 c
      refine x_iconst (zdm d_Course_told_0 11 rfl) (zIl rfl) ?_
      exact x_iret (zdm d_Course_told_0 12 rfl) rfl H
    · have H := H.2 c
      refine x_iload_n (zdm d_Course_told_0 6 rfl) rfl (n := 2) rfl ?_
      refine x_iflt (tgt := 22) (zdm d_Course_told_0 7 rfl) (by decide) (fun c => ?_) (fun c => ?_)
      · have H := H.1 c
        refine x_iconst (zdm d_Course_told_0 11 rfl) (zIl rfl) ?_
        exact x_iret (zdm d_Course_told_0 12 rfl) rfl H
      · have H := H.2 c
        refine x_iload_n (zdm d_Course_told_0 8 rfl) rfl (n := 2) rfl ?_
        refine x_bipush (zdm d_Course_told_0 9 rfl) (by decide) ?_
        refine x_icmplt (tgt := 24) (zdm d_Course_told_0 10 rfl) (by decide) (fun c => ?_) (fun c => ?_)
        · have H := H.1 c
          refine x_aload_n (zdm d_Course_told_0 13 rfl) rfl (n := 0) rfl ?_
          refine x_getG (zdm d_Course_told_0 14 rfl) f_Course_18 g1 rfl (by decide) hsl (zs_2 g1).1.1 ?_
          refine x_iload_n (zdm d_Course_told_0 15 rfl) rfl (n := 1) rfl ?_
          refine x_bipush (zdm d_Course_told_0 16 rfl) (by decide) ?_
          obtain ⟨g2, H⟩ := H
          refine x_imul (zdm d_Course_told_0 17 rfl) g2 ?_
          refine x_iload_n (zdm d_Course_told_0 18 rfl) rfl (n := 2) rfl ?_
          obtain ⟨g3, H⟩ := H
          refine x_iadd (zdm d_Course_told_0 19 rfl) g3 ?_
          obtain ⟨g4, H⟩ := H
          refine x_iald (zdm d_Course_told_0 20 rfl) (zKe (zs_2 g1).1.2) g4 ?_
          exact x_iret (zdm d_Course_told_0 21 rfl) rfl H
        · have H := H.2 c
          refine x_iconst (zdm d_Course_told_0 11 rfl) (zIl rfl) ?_
          exact x_iret (zdm d_Course_told_0 12 rfl) rfl H
set_option maxRecDepth 20000 in
set_option maxHeartbeats 4000000 in
theorem E_Course_goesUp {G : zG} {h sl : Nat} (hsl : 1 ≤ sl) {l0 l1 l2 : Int} {M : zM} {Q : Int → zM → Prop} (H : (l1 < 0 → Q 0 M) ∧ (¬ l1 < 0 → (zK l0 = (2, 0)) ∧ (((M l0 4) ≤ l1 → Q 0 M) ∧ (¬ (M l0 4) ≤ l1 → (0 ≤ l1 ∧ l1 < (zK (l0 + 4)).2) ∧ ((¬ (zand (zshr (M (l0 + 4) l1) l2) 1) = 1 → Q 0 M) ∧ (¬ (¬ (zand (zshr (M (l0 + 4) l1) l2) 1) = 1) → Q 1 M)))))) : zCt G h sl 0 0 y_Course_goesUp [(2, l0), (0, l1), (0, l2)] M Q := by
  refine zCt.of (by decide +kernel) (Nat.le_of_ble_eq_true rfl) ?_
  refine x_iload_n (zdm d_Course_goesUp_0 0 rfl) rfl (n := 1) rfl ?_
  refine x_iflt (tgt := 30) (zdm d_Course_goesUp_0 1 rfl) (by decide) (fun c => ?_) (fun c => ?_)
  · have H := H.1 c
    refine x_iconst (zdm d_Course_goesUp_0 18 rfl) (zIl rfl) ?_
    exact x_ireturn (zdm d_Course_goesUp_0 19 rfl) (ty := .boolean) rfl (by decide) (Or.inl rfl) H
  · have H := H.2 c
    refine x_iload_n (zdm d_Course_goesUp_0 2 rfl) rfl (n := 1) rfl ?_
    refine x_aload_n (zdm d_Course_goesUp_0 3 rfl) rfl (n := 0) rfl ?_
    obtain ⟨g1, H⟩ := H
    refine x_getf (zdm d_Course_goesUp_0 4 rfl) f_Course_33 g1 rfl ?_
    refine x_icmpge (tgt := 30) (zdm d_Course_goesUp_0 5 rfl) (by decide) (fun c => ?_) (fun c => ?_)
    · have H := H.1 c
      refine x_iconst (zdm d_Course_goesUp_0 18 rfl) (zIl rfl) ?_
      exact x_ireturn (zdm d_Course_goesUp_0 19 rfl) (ty := .boolean) rfl (by decide) (Or.inl rfl) H
    · have H := H.2 c
      refine x_aload_n (zdm d_Course_goesUp_0 6 rfl) rfl (n := 0) rfl ?_
      refine x_getG (zdm d_Course_goesUp_0 7 rfl) f_Course_22 g1 rfl (by decide) hsl (zs_2 g1).2.1.1 ?_
      refine x_iload_n (zdm d_Course_goesUp_0 8 rfl) rfl (n := 1) rfl ?_
      obtain ⟨g2, H⟩ := H
      refine x_iald (zdm d_Course_goesUp_0 9 rfl) (zKe (zs_2 g1).2.1.2) g2 ?_
      refine x_iload_n (zdm d_Course_goesUp_0 10 rfl) rfl (n := 2) rfl ?_
      refine x_ishr (zdm d_Course_goesUp_0 11 rfl) ?_
      refine x_iconst (zdm d_Course_goesUp_0 12 rfl) (zIl rfl) ?_
      refine x_iand (zdm d_Course_goesUp_0 13 rfl) ?_
      refine x_iconst (zdm d_Course_goesUp_0 14 rfl) (zIl rfl) ?_
      refine x_icmpne (tgt := 30) (zdm d_Course_goesUp_0 15 rfl) (by decide) (fun c => ?_) (fun c => ?_)
      · have H := H.1 c
        refine x_iconst (zdm d_Course_goesUp_0 18 rfl) (zIl rfl) ?_
        exact x_ireturn (zdm d_Course_goesUp_0 19 rfl) (ty := .boolean) rfl (by decide) (Or.inl rfl) H
      · have H := H.2 c
        refine x_iconst (zdm d_Course_goesUp_0 16 rfl) (zIl rfl) ?_
        refine x_goto (tgt := 31) (zdm d_Course_goesUp_0 17 rfl) (by decide) ?_
        exact x_ireturn (zdm d_Course_goesUp_0 19 rfl) (ty := .boolean) rfl (by decide) (Or.inr rfl) H
set_option maxRecDepth 20000 in
set_option maxHeartbeats 4000000 in
theorem B_Course_show_8 {G : zG} {h sl : Nat} (hsl : 1 ≤ sl) {u : Nat × Nat × Nat × Nat} {l0 l1 l3 l4 : Int} {M : zM} {Q : Int → zM → Prop} (H : (8 ≤ l4 → Q 0 M) ∧ (¬ 8 ≤ l4 → (zK l3 = (4, 0)) ∧ ((zK l0 = (2, 0)) ∧ (zCt G h sl 0 0 y_Course_told [(2, l0), (0, l1), (0, l4)] M (fun r2 M3 => (0 ≤ l4 ∧ l4 < 8) ∧ ((zI (l4 + 1)) ∧ (zX G (y_Course_show, h + 1, sl) u 8 [(0, (2, l0)), (1, (0, l1)), (3, (2, l3)), (4, (0, (l4 + 1)))] [] (zwr M3 (l3 + 1) l4 r2) Q))))))) : zX G (y_Course_show, h + 1, sl) u 8 [(0, (2, l0)), (1, (0, l1)), (3, (2, l3)), (4, (0, l4))] [] M Q := by
  refine x_iload (zdm d_Course_show_0 5 rfl) (n := 3) rfl ?_
  refine x_bipush (zdm d_Course_show_0 6 rfl) (by decide) ?_
  refine x_icmpge (tgt := 35) (zdm d_Course_show_0 7 rfl) (by decide) (fun c => ?_) (fun c => ?_)
  · have H := H.1 c
    exact x_return (zdm d_Course_show_0 18 rfl) rfl H
  · have H := H.2 c
    refine x_aload_n (zdm d_Course_show_0 8 rfl) rfl (n := 2) rfl ?_
    obtain ⟨g1, H⟩ := H
    refine x_getG (zdm d_Course_show_0 9 rfl) f_Course_48 g1 rfl (by decide) hsl (zs_4 g1).1 ?_
    refine x_iload (zdm d_Course_show_0 10 rfl) (n := 3) rfl ?_
    refine x_aload_n (zdm d_Course_show_0 11 rfl) rfl (n := 0) rfl ?_
    refine x_iload_n (zdm d_Course_show_0 12 rfl) rfl (n := 1) rfl ?_
    refine x_iload (zdm d_Course_show_0 13 rfl) (n := 3) rfl ?_
    obtain ⟨g4, H⟩ := H
    refine x_callVi (n := 2) (ci := 2) (zdm d_Course_show_0 14 rfl) k_Course_58 (As := [(0, l1), (0, l4)]) rfl rfl g4 ⟨_, _, rfl⟩ (Nat.le_of_ble_eq_true rfl) trivial H (fun r2 M3 hr H => ?_)
    obtain ⟨g5, H⟩ := H
    refine x_iast (zdm d_Course_show_0 15 rfl) (zs_4 g1).2 g5 ?_
    obtain ⟨g6, H⟩ := H
    refine x_iinc (zdm d_Course_show_0 16 rfl) (n := 3) rfl g6 (zlt rfl) rfl ?_
    refine x_goto (tgt := 8) (zdm d_Course_show_0 17 rfl) (by decide) ?_
    exact zX.sub [1, 2, 3, 0] rfl H
set_option maxRecDepth 20000 in
set_option maxHeartbeats 4000000 in
theorem E_Course_show {G : zG} {h sl : Nat} (hsl : 1 ≤ sl) {l0 l1 l2 l3 : Int} {M : zM} {Q : Int → zM → Prop} (H : (zK l3 = (4, 0)) ∧ (zX G (y_Course_show, h + 1, sl) (0, 0, 0, 0) 8 [(0, (2, l0)), (1, (0, l1)), (3, (2, l3)), (4, (0, 0))] [] (zwr M l3 1 l2) Q)) : zCt G (h + 1) sl 0 0 y_Course_show [(2, l0), (0, l1), (0, l2), (2, l3)] M Q := by
  refine zCt.of (by decide +kernel) (Nat.le_of_ble_eq_true rfl) ?_
  refine x_aload_n (zdm d_Course_show_0 0 rfl) rfl (n := 3) rfl ?_
  refine x_iload_n (zdm d_Course_show_0 1 rfl) rfl (n := 2) rfl ?_
  obtain ⟨g1, H⟩ := H
  refine x_putf (zdm d_Course_show_0 2 rfl) f_Course_55 g1 ⟨rfl, trivial⟩ (Or.inl rfl) ?_
  refine x_iconst (zdm d_Course_show_0 3 rfl) (zIl rfl) ?_
  refine x_istore (zdm d_Course_show_0 4 rfl) (zlt rfl) rfl ?_
  exact zX.sub [1, 2, 4, 0] rfl H
