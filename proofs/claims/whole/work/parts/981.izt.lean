/-! THE CLASS is made, as far as its own start (by wip/whole/gen/inits.py). -/
def l_Zt : List (Int × Int × Int) := [(1, 16, 1), (1, 15, (-1)), (1, 12, 102), (103, 7, 123), (123, 0, 124), (0, 0, 124), (0, 0, 123), (103, 6, 121), (121, 0, 122), (0, 0, 122), (0, 0, 121), (103, 5, 119), (119, 0, 120), (0, 0, 120), (0, 0, 119), (103, 4, 117), (117, 0, 118), (0, 0, 118), (0, 0, 117), (103, 3, 115), (115, 0, 116), (0, 0, 116), (0, 0, 115), (103, 2, 113), (113, 0, 114), (0, 0, 114), (0, 0, 113), (103, 1, 111), (111, 0, 112), (0, 0, 112), (0, 0, 111), (103, 0, 109), (109, 0, 110), (0, 0, 110), (0, 0, 109), (102, 8, 107), (107, 0, 108), (0, 0, 108), (0, 0, 107), (102, 1, 104), (104, 1, 106), (0, 0, 106), (104, 0, 105), (0, 0, 105), (0, 0, 104), (102, 0, 103), (0, 0, 103), (0, 0, 102), (1, 11, 79), (80, 7, 100), (100, 0, 101), (0, 0, 101), (0, 0, 100), (80, 6, 98), (98, 0, 99), (0, 0, 99), (0, 0, 98), (80, 5, 96), (96, 0, 97), (0, 0, 97), (0, 0, 96), (80, 4, 94), (94, 0, 95), (0, 0, 95), (0, 0, 94), (80, 3, 92), (92, 0, 93), (0, 0, 93), (0, 0, 92), (80, 2, 90), (90, 0, 91), (0, 0, 91), (0, 0, 90), (80, 1, 88), (88, 0, 89), (0, 0, 89), (0, 0, 88), (80, 0, 86), (86, 0, 87), (0, 0, 87), (0, 0, 86), (79, 8, 84), (84, 0, 85), (0, 0, 85), (0, 0, 84), (79, 1, 81), (81, 1, 83), (0, 0, 83), (81, 0, 82), (0, 0, 82), (0, 0, 81), (79, 0, 80), (0, 0, 80), (0, 0, 79), (1, 10, 78), (0, 0, 78), (1, 9, 77), (0, 0, 77), (1, 8, 76), (76, 2, 13), (76, 1, 8), (76, 0, 4), (0, 0, 76), (1, 7, 72), (72, 0, 2), (72, 6, 73), (72, 4, (-1)), (72, 1, 73), (73, 1, 75), (0, 0, 75), (73, 0, 74), (0, 0, 74), (0, 0, 73), (0, 0, 72), (1, 6, 63), (63, 0, 8), (63, 7, 71), (0, 0, 71), (63, 6, 70), (0, 0, 70), (63, 5, 69), (0, 0, 69), (63, 4, 68), (0, 0, 68), (63, 3, 67), (0, 0, 67), (63, 2, 66), (0, 0, 66), (63, 1, 64), (64, 0, 65), (0, 0, 65), (0, 0, 64), (0, 0, 63), (1, 5, 18), (21, 19, 61), (61, 0, 62), (0, 0, 62), (0, 0, 61), (21, 18, 59), (59, 0, 60), (0, 0, 60), (0, 0, 59), (21, 17, 57), (57, 0, 58), (0, 0, 58), (0, 0, 57), (21, 16, 55), (55, 0, 56), (0, 0, 56), (0, 0, 55), (21, 15, 53), (53, 0, 54), (0, 0, 54), (0, 0, 53), (21, 14, 51), (51, 0, 52), (0, 0, 52), (0, 0, 51), (21, 13, 49), (49, 0, 50), (0, 0, 50), (0, 0, 49), (21, 12, 47), (47, 0, 48), (0, 0, 48), (0, 0, 47), (21, 11, 45), (45, 0, 46), (0, 0, 46), (0, 0, 45), (21, 10, 43), (43, 0, 44), (0, 0, 44), (0, 0, 43), (21, 9, 41), (41, 0, 42), (0, 0, 42), (0, 0, 41), (21, 8, 39), (39, 0, 40), (0, 0, 40), (0, 0, 39), (21, 7, 37), (37, 0, 38), (0, 0, 38), (0, 0, 37), (21, 6, 35), (35, 0, 36), (0, 0, 36), (0, 0, 35), (21, 5, 33), (33, 0, 34), (0, 0, 34), (0, 0, 33), (21, 4, 31), (31, 0, 32), (0, 0, 32), (0, 0, 31), (21, 3, 29), (29, 0, 30), (0, 0, 30), (0, 0, 29), (21, 2, 27), (27, 0, 28), (0, 0, 28), (0, 0, 27), (21, 1, 25), (25, 0, 26), (0, 0, 26), (0, 0, 25), (21, 0, 23), (23, 0, 24), (0, 0, 24), (0, 0, 23), (18, 3, 22), (0, 0, 22), (18, 2, 21), (0, 0, 21), (18, 1, 20), (0, 0, 20), (18, 0, 19), (0, 0, 19), (0, 0, 18), (1, 4, 13), (13, 1, 17), (0, 0, 17), (13, 0, 16), (0, 0, 16), (13, 2, 14), (14, 0, 15), (0, 0, 15), (0, 0, 14), (0, 0, 13), (1, 3, 8), (8, 1, 12), (0, 0, 12), (8, 0, 11), (0, 0, 11), (8, 2, 9), (9, 0, 10), (0, 0, 10), (0, 0, 9), (0, 0, 8), (1, 2, 6), (6, 0, 7), (0, 0, 7), (0, 0, 6), (1, 1, 4), (4, 0, 5), (0, 0, 5), (0, 0, 4), (1, 0, 2), (2, 0, 3), (0, 0, 3), (0, 0, 2)]
set_option maxRecDepth 20000 in
set_option maxHeartbeats 4000000 in
theorem I_Zt {G : zG} {h : Nat} {M : zM} {Q : Int → zM → Prop} (hc : M 0 0 = 1) (q : zX G (y_Zt_init, h + 7 + 1, 0) (123, 22585, 123, 22585) 177 [(0, (2, 1))] [] (zvl2 l_Zt M) Q) : zCt G (h + 8) 0 123 22585 y_Zt_init [(2, 1)] M Q := by
  refine zCt.of (by decide +kernel) (Nat.le_of_ble_eq_true rfl) ?_
  refine x_aload_n (zdm d_Zt_init_0 0 rfl) rfl (n := 0) rfl ?_
  refine x_objInit (zdm d_Zt_init_0 1 rfl) ko_Zt wob_i wob_c (by decide) (Nat.le_of_ble_eq_true rfl) ?_
  refine x_aload_n (zdm d_Zt_init_0 2 rfl) rfl (n := 0) rfl ?_
  refine x_new (c := 1) (zdm d_Zt_init_0 3 rfl) nw_Zt_7 hc (c' := 2) (by decide) rfl (Nat.le_of_ble_eq_true rfl) (Nat.le_of_ble_eq_true rfl) ?_
  refine x_dup (zdm d_Zt_init_0 4 rfl) z2n1 ?_
  refine x_callI (h := h + 7) (n := 0) (mc := 1) (ms := 1600) (Q1 := fun _ M' => M' = zvl2 l_Tape_2 _) (zdm d_Zt_init_0 5 rfl) ki_Zt_9 (As := []) rfl rfl (by decide) (Nat.le_of_ble_eq_true rfl) (Nat.le_of_ble_eq_true rfl) (Nat.le_of_ble_eq_true rfl) (I_Tape_2 (h := h + 6) zvs2 rfl) (fun _ _ hM => ?_)
  subst hM
  refine x_putF (zdm d_Zt_init_0 6 rfl) f_Zt_10 rfl ⟨_, _, rfl⟩ rfl ⟨rfl, trivial⟩ rfl ?_
  refine x_aload_n (zdm d_Zt_init_0 7 rfl) rfl (n := 0) rfl ?_
  refine x_new (c := 3) (zdm d_Zt_init_0 8 rfl) nw_Zt_16 (zwo (by decide) (zvl2_at (by decide +kernel))) (c' := 4) (by decide) rfl (Nat.le_of_ble_eq_true rfl) (Nat.le_of_ble_eq_true rfl) ?_
  refine x_dup (zdm d_Zt_init_0 9 rfl) z2n1 ?_
  refine x_callI (h := h + 7) (n := 0) (mc := 1) (ms := 8) (Q1 := fun _ M' => M' = zwr (zwr _ 0 0 5) 4 0 5) (zdm d_Zt_init_0 10 rfl) ki_Zt_18 (As := []) rfl rfl (by decide) (Nat.le_of_ble_eq_true rfl) (Nat.le_of_ble_eq_true rfl) (Nat.le_of_ble_eq_true rfl) (I_Line (h := h + 6) (o := 4) (c := 4) zvs2 rfl rfl rfl) (fun _ _ hM => ?_)
  subst hM
  refine x_putF (zdm d_Zt_init_0 11 rfl) f_Zt_19 rfl ⟨_, _, rfl⟩ rfl ⟨rfl, trivial⟩ rfl ?_
  refine x_aload_n (zdm d_Zt_init_0 12 rfl) rfl (n := 0) rfl ?_
  refine x_new (c := 5) (zdm d_Zt_init_0 13 rfl) nw_Zt_16 (zwo (by decide) (zwo (by decide) zvs2)) (c' := 6) (by decide) rfl (Nat.le_of_ble_eq_true rfl) (Nat.le_of_ble_eq_true rfl) ?_
  refine x_dup (zdm d_Zt_init_0 14 rfl) z2n1 ?_
  refine x_callI (h := h + 7) (n := 0) (mc := 1) (ms := 8) (Q1 := fun _ M' => M' = zwr (zwr _ 0 0 7) 6 0 7) (zdm d_Zt_init_0 15 rfl) ki_Zt_18 (As := []) rfl rfl (by decide) (Nat.le_of_ble_eq_true rfl) (Nat.le_of_ble_eq_true rfl) (Nat.le_of_ble_eq_true rfl) (I_Line (h := h + 6) (o := 6) (c := 6) zvs2 rfl rfl rfl) (fun _ _ hM => ?_)
  subst hM
  refine x_putF (zdm d_Zt_init_0 16 rfl) f_Zt_23 rfl ⟨_, _, rfl⟩ rfl ⟨rfl, trivial⟩ rfl ?_
  refine x_aload_n (zdm d_Zt_init_0 17 rfl) rfl (n := 0) rfl ?_
  refine x_new (c := 7) (zdm d_Zt_init_0 18 rfl) nw_Zt_26 (zwo (by decide) (zwo (by decide) zvs2)) (c' := 8) (by decide) rfl (Nat.le_of_ble_eq_true rfl) (Nat.le_of_ble_eq_true rfl) ?_
  refine x_dup (zdm d_Zt_init_0 19 rfl) z2n1 ?_
  refine x_sipush (zdm d_Zt_init_0 20 rfl) (by decide) ?_
  refine x_callI (h := h + 7) (n := 1) (mc := 4) (ms := 9011) (Q1 := fun _ M' => M' = zvl2 l_Course_8 _) (zdm d_Zt_init_0 21 rfl) ki_Zt_28 (As := [(0, 1000)]) rfl rfl (by decide) (Nat.le_of_ble_eq_true rfl) (Nat.le_of_ble_eq_true rfl) (Nat.le_of_ble_eq_true rfl) (I_Course_8 (h := h + 5) zvs2 rfl) (fun _ _ hM => ?_)
  subst hM
  refine x_putF (zdm d_Zt_init_0 22 rfl) f_Zt_31 rfl ⟨_, _, rfl⟩ rfl ⟨rfl, trivial⟩ rfl ?_
  refine x_aload_n (zdm d_Zt_init_0 23 rfl) rfl (n := 0) rfl ?_
  refine x_new (c := 12) (zdm d_Zt_init_0 24 rfl) nw_Zt_26 (zwo (by decide) (zvl2_at (by decide +kernel))) (c' := 13) (by decide) rfl (Nat.le_of_ble_eq_true rfl) (Nat.le_of_ble_eq_true rfl) ?_
  refine x_dup (zdm d_Zt_init_0 25 rfl) z2n1 ?_
  refine x_sipush (zdm d_Zt_init_0 26 rfl) (by decide) ?_
  refine x_callI (h := h + 7) (n := 1) (mc := 4) (ms := 1820) (Q1 := fun _ M' => M' = zvl2 l_Course_13 _) (zdm d_Zt_init_0 27 rfl) ki_Zt_28 (As := [(0, 201)]) rfl rfl (by decide) (Nat.le_of_ble_eq_true rfl) (Nat.le_of_ble_eq_true rfl) (Nat.le_of_ble_eq_true rfl) (I_Course_13 (h := h + 5) zvs2 rfl) (fun _ _ hM => ?_)
  subst hM
  refine x_putF (zdm d_Zt_init_0 28 rfl) f_Zt_35 rfl ⟨_, _, rfl⟩ rfl ⟨rfl, trivial⟩ rfl ?_
  refine x_aload_n (zdm d_Zt_init_0 29 rfl) rfl (n := 0) rfl ?_
  refine x_new (c := 17) (zdm d_Zt_init_0 30 rfl) nw_Zt_38 (zwo (by decide) (zvl2_at (by decide +kernel))) (c' := 18) (by decide) rfl (Nat.le_of_ble_eq_true rfl) (Nat.le_of_ble_eq_true rfl) ?_
  refine x_dup (zdm d_Zt_init_0 31 rfl) z2n1 ?_
  refine x_callI (h := h + 7) (n := 0) (mc := 44) (ms := 2260) (Q1 := fun _ M' => M' = zvl2 l_History_18 _) (zdm d_Zt_init_0 32 rfl) ki_Zt_40 (As := []) rfl rfl (by decide) (Nat.le_of_ble_eq_true rfl) (Nat.le_of_ble_eq_true rfl) (Nat.le_of_ble_eq_true rfl) (I_History_18 (h := h + 5) zvs2 rfl) (fun _ _ hM => ?_)
  subst hM
  refine x_putF (zdm d_Zt_init_0 33 rfl) f_Zt_41 rfl ⟨_, _, rfl⟩ rfl ⟨rfl, trivial⟩ rfl ?_
  refine x_aload_n (zdm d_Zt_init_0 34 rfl) rfl (n := 0) rfl ?_
  refine x_new (c := 62) (zdm d_Zt_init_0 35 rfl) nw_Zt_45 (zwo (by decide) (zvl2_at (by decide +kernel))) (c' := 63) (by decide) rfl (Nat.le_of_ble_eq_true rfl) (Nat.le_of_ble_eq_true rfl) ?_
  refine x_dup (zdm d_Zt_init_0 36 rfl) z2n1 ?_
  refine x_aload_n (zdm d_Zt_init_0 37 rfl) rfl (n := 0) rfl ?_
  refine x_getV (zdm d_Zt_init_0 38 rfl) f_Zt_31 rfl (t := 2) (v := 8) rfl (zwk (by decide) (zwk (by decide) (zvl2_no (by decide +kernel) (zwk (by decide) (zwk (by decide) (zvl2_no (by decide +kernel) (zwk (by decide) (zwr_s _ _ _ _)))))))) ?_
  refine x_callI (h := h + 7) (n := 1) (mc := 8) (ms := 2447) (Q1 := fun _ M' => M' = zvl2 l_Piece_63 _) (zdm d_Zt_init_0 39 rfl) ki_Zt_47 (As := [(2, 8)]) rfl rfl (by decide) (Nat.le_of_ble_eq_true rfl) (Nat.le_of_ble_eq_true rfl) (Nat.le_of_ble_eq_true rfl) (I_Piece_63 (h := h + 5) zvs2 rfl) (fun _ _ hM => ?_)
  subst hM
  refine x_putF (zdm d_Zt_init_0 40 rfl) f_Zt_50 rfl ⟨_, _, rfl⟩ rfl ⟨rfl, trivial⟩ rfl ?_
  refine x_aload_n (zdm d_Zt_init_0 41 rfl) rfl (n := 0) rfl ?_
  refine x_new (c := 71) (zdm d_Zt_init_0 42 rfl) nw_Zt_54 (zwo (by decide) (zvl2_at (by decide +kernel))) (c' := 72) (by decide) rfl (Nat.le_of_ble_eq_true rfl) (Nat.le_of_ble_eq_true rfl) ?_
  refine x_dup (zdm d_Zt_init_0 43 rfl) z2n1 ?_
  refine x_aload_n (zdm d_Zt_init_0 44 rfl) rfl (n := 0) rfl ?_
  refine x_getV (zdm d_Zt_init_0 45 rfl) f_Zt_10 rfl (t := 2) (v := 2) rfl (zwk (by decide) (zwk (by decide) (zvl2_no (by decide +kernel) (zwk (by decide) (zwk (by decide) (zvl2_no (by decide +kernel) (zwk (by decide) (zwk (by decide) (zvl2_no (by decide +kernel) (zwk (by decide) (zwk (by decide) (zvl2_no (by decide +kernel) (zwk (by decide) (zwk (by decide) (zwk (by decide) (zwk (by decide) (zwk (by decide) (zwk (by decide) (zwk (by decide) (zwk (by decide) (zwk (by decide) (zwr_s _ _ _ _)))))))))))))))))))))) ?_
  refine x_callI (h := h + 7) (n := 1) (mc := 3) (ms := 1667) (Q1 := fun _ M' => M' = zvl2 l_Reader_72 _) (zdm d_Zt_init_0 46 rfl) ki_Zt_56 (As := [(2, 2)]) rfl rfl (by decide) (Nat.le_of_ble_eq_true rfl) (Nat.le_of_ble_eq_true rfl) (Nat.le_of_ble_eq_true rfl) (I_Reader_72 (h := h + 5) zvs2 rfl) (fun _ _ hM => ?_)
  subst hM
  refine x_putF (zdm d_Zt_init_0 47 rfl) f_Zt_59 rfl ⟨_, _, rfl⟩ rfl ⟨rfl, trivial⟩ rfl ?_
  refine x_aload_n (zdm d_Zt_init_0 48 rfl) rfl (n := 0) rfl ?_
  refine x_new (c := 75) (zdm d_Zt_init_0 49 rfl) nw_Zt_63 (zwo (by decide) (zvl2_at (by decide +kernel))) (c' := 76) (by decide) rfl (Nat.le_of_ble_eq_true rfl) (Nat.le_of_ble_eq_true rfl) ?_
  refine x_dup (zdm d_Zt_init_0 50 rfl) z2n1 ?_
  refine x_aload_n (zdm d_Zt_init_0 51 rfl) rfl (n := 0) rfl ?_
  refine x_getV (zdm d_Zt_init_0 52 rfl) f_Zt_19 rfl (t := 2) (v := 4) rfl (zwk (by decide) (zwk (by decide) (zvl2_no (by decide +kernel) (zwk (by decide) (zwk (by decide) (zvl2_no (by decide +kernel) (zwk (by decide) (zwk (by decide) (zvl2_no (by decide +kernel) (zwk (by decide) (zwk (by decide) (zvl2_no (by decide +kernel) (zwk (by decide) (zwk (by decide) (zvl2_no (by decide +kernel) (zwk (by decide) (zwk (by decide) (zwk (by decide) (zwk (by decide) (zwk (by decide) (zwr_s _ _ _ _))))))))))))))))))))) ?_
  refine x_aload_n (zdm d_Zt_init_0 53 rfl) rfl (n := 0) rfl ?_
  refine x_getV (zdm d_Zt_init_0 54 rfl) f_Zt_31 rfl (t := 2) (v := 8) rfl (zwk (by decide) (zwk (by decide) (zvl2_no (by decide +kernel) (zwk (by decide) (zwk (by decide) (zvl2_no (by decide +kernel) (zwk (by decide) (zwk (by decide) (zvl2_no (by decide +kernel) (zwk (by decide) (zwk (by decide) (zvl2_no (by decide +kernel) (zwk (by decide) (zwr_s _ _ _ _)))))))))))))) ?_
  refine x_aload_n (zdm d_Zt_init_0 55 rfl) rfl (n := 0) rfl ?_
  refine x_getV (zdm d_Zt_init_0 56 rfl) f_Zt_35 rfl (t := 2) (v := 13) rfl (zwk (by decide) (zwk (by decide) (zvl2_no (by decide +kernel) (zwk (by decide) (zwk (by decide) (zvl2_no (by decide +kernel) (zwk (by decide) (zwk (by decide) (zvl2_no (by decide +kernel) (zwk (by decide) (zwr_s _ _ _ _))))))))))) ?_
  refine x_callI (h := h + 7) (n := 3) (mc := 0) (ms := 0) (Q1 := fun _ M' => M' = zvl2 l_Question_76 _) (zdm d_Zt_init_0 57 rfl) ki_Zt_65 (As := [(2, 4), (2, 8), (2, 13)]) rfl rfl (by decide) (Nat.le_of_ble_eq_true rfl) (Nat.le_of_ble_eq_true rfl) (Nat.le_of_ble_eq_true rfl) (I_Question_76 (h := h + 5) zvs2 rfl) (fun _ _ hM => ?_)
  subst hM
  refine x_putF (zdm d_Zt_init_0 58 rfl) f_Zt_68 rfl ⟨_, _, rfl⟩ rfl ⟨rfl, trivial⟩ rfl ?_
  refine x_aload_n (zdm d_Zt_init_0 59 rfl) rfl (n := 0) rfl ?_
  refine x_bipush (zdm d_Zt_init_1 0 rfl) (by decide) ?_
  refine x_newaI (c := 76) (zdm d_Zt_init_1 1 rfl) wa_int (zwo (by decide) (zvl2_no (by decide +kernel) zvs2)) (c' := 77) (by decide) rfl (by decide) (Nat.le_of_ble_eq_true rfl) (Nat.le_of_ble_eq_true rfl) ?_
  refine x_putF (zdm d_Zt_init_1 2 rfl) f_Zt_72 rfl ⟨_, _, rfl⟩ rfl ⟨rfl, trivial⟩ rfl ?_
  refine x_aload_n (zdm d_Zt_init_1 3 rfl) rfl (n := 0) rfl ?_
  refine x_bipush (zdm d_Zt_init_1 4 rfl) (by decide) ?_
  refine x_newaI (c := 77) (zdm d_Zt_init_1 5 rfl) wa_int (zwo (by decide) zvs2) (c' := 78) (by decide) rfl (by decide) (Nat.le_of_ble_eq_true rfl) (Nat.le_of_ble_eq_true rfl) ?_
  refine x_putF (zdm d_Zt_init_1 6 rfl) f_Zt_76 rfl ⟨_, _, rfl⟩ rfl ⟨rfl, trivial⟩ rfl ?_
  refine x_aload_n (zdm d_Zt_init_1 7 rfl) rfl (n := 0) rfl ?_
  refine x_new (c := 78) (zdm d_Zt_init_1 8 rfl) nw_Zt_79 (zwo (by decide) zvs2) (c' := 79) (by decide) rfl (Nat.le_of_ble_eq_true rfl) (Nat.le_of_ble_eq_true rfl) ?_
  refine x_dup (zdm d_Zt_init_1 9 rfl) z2n1 ?_
  refine x_callI (h := h + 7) (n := 0) (mc := 22) (ms := 1822) (Q1 := fun _ M' => M' = zvl2 l_Tablet_79 _) (zdm d_Zt_init_1 10 rfl) ki_Zt_81 (As := []) rfl rfl (by decide) (Nat.le_of_ble_eq_true rfl) (Nat.le_of_ble_eq_true rfl) (Nat.le_of_ble_eq_true rfl) (I_Tablet_79 (h := h + 5) zvs2 rfl) (fun _ _ hM => ?_)
  subst hM
  refine x_putf (zdm d_Zt_init_1 11 rfl) f_Zt_82 rfl ⟨rfl, trivial⟩ (Or.inr rfl) ?_
  refine x_aload_n (zdm d_Zt_init_1 12 rfl) rfl (n := 0) rfl ?_
  refine x_new (c := 101) (zdm d_Zt_init_1 13 rfl) nw_Zt_79 (zwo (by decide) (zvl2_at (by decide +kernel))) (c' := 102) (by decide) rfl (Nat.le_of_ble_eq_true rfl) (Nat.le_of_ble_eq_true rfl) ?_
  refine x_dup (zdm d_Zt_init_1 14 rfl) z2n1 ?_
  refine x_callI (h := h + 7) (n := 0) (mc := 22) (ms := 1822) (Q1 := fun _ M' => M' = zvl2 l_Tablet_102 _) (zdm d_Zt_init_1 15 rfl) ki_Zt_81 (As := []) rfl rfl (by decide) (Nat.le_of_ble_eq_true rfl) (Nat.le_of_ble_eq_true rfl) (Nat.le_of_ble_eq_true rfl) (I_Tablet_102 (h := h + 5) zvs2 rfl) (fun _ _ hM => ?_)
  subst hM
  refine x_putf (zdm d_Zt_init_1 16 rfl) f_Zt_86 rfl ⟨rfl, trivial⟩ (Or.inr rfl) ?_
  refine x_aload_n (zdm d_Zt_init_1 17 rfl) rfl (n := 0) rfl ?_
  refine x_iconst (zdm d_Zt_init_1 18 rfl) (zIl rfl) ?_
  refine x_putf (zdm d_Zt_init_1 19 rfl) f_Zt_89 rfl ⟨rfl, trivial⟩ (Or.inr rfl) ?_
  refine x_aload_n (zdm d_Zt_init_1 20 rfl) rfl (n := 0) rfl ?_
  refine x_lconst (zdm d_Zt_init_1 21 rfl) (x := 1) rfl ?_
  refine x_putf (zdm d_Zt_init_1 22 rfl) f_Zt_93 rfl ⟨rfl, trivial⟩ (Or.inr rfl) ?_
  exact q
