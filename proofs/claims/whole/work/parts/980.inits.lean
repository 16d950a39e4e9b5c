/-! CONSTRUCTORS of the class (by wip/whole/gen/inits.py). -/
set_option maxRecDepth 20000 in
set_option maxHeartbeats 4000000 in
theorem I_Line {G : zG} {h : Nat} {o c : Int} {M : zM} {Q : Int → zM → Prop} (hc : M 0 0 = c) (ho : zK o = (4, 0)) (k1 : zK (c + 1) = (100, 8)) (q : Q 0 (zwr (zwr M 0 0 (c + 1)) o 0 (c + 1))) : zCt G (h + 1) 0 1 8 y_Line_init [(2, o)] M Q := by
  have h1 : 1 ≤ o := zK_pos ho (by decide)
  have h0 : o ≠ 0 := by omega
  refine zCt.of (by decide +kernel) (Nat.le_of_ble_eq_true rfl) ?_
  refine x_aload_n (zdm d_Line_init_0 0 rfl) rfl (n := 0) rfl ?_
  refine x_objInit (zdm d_Line_init_0 1 rfl) ko_Line wob_i wob_c h1 (Nat.le_of_ble_eq_true rfl) ?_
  refine x_aload_n (zdm d_Line_init_0 2 rfl) rfl (n := 0) rfl ?_
  refine x_bipush (zdm d_Line_init_0 3 rfl) (by decide) ?_
  refine x_newaI (c := c) (zdm d_Line_init_0 4 rfl) wa_int hc (c' := (c + 1)) (by omega) k1 (by decide) (Nat.le_of_ble_eq_true rfl) (Nat.le_of_ble_eq_true rfl) ?_
  refine x_putF (zdm d_Line_init_0 5 rfl) f_Line_9 rfl ⟨_, _, rfl⟩ ho ⟨rfl, trivial⟩ rfl ?_
  exact x_return (zdm d_Line_init_0 6 rfl) rfl q
set_option maxRecDepth 20000 in
set_option maxHeartbeats 4000000 in
theorem I_Column {G : zG} {h : Nat} {o c : Int} {M : zM} {Q : Int → zM → Prop} (hc : M 0 0 = c) (ho : zK o = (1, 0)) (k1 : zK (c + 1) = (100, 6)) (q : Q 0 (zwr (zwr M 0 0 (c + 1)) o 0 (c + 1))) : zCt G (h + 1) 0 1 6 y_Column_init [(2, o)] M Q := by
  have h1 : 1 ≤ o := zK_pos ho (by decide)
  have h0 : o ≠ 0 := by omega
  refine zCt.of (by decide +kernel) (Nat.le_of_ble_eq_true rfl) ?_
  refine x_aload_n (zdm d_Column_init_0 0 rfl) rfl (n := 0) rfl ?_
  refine x_objInit (zdm d_Column_init_0 1 rfl) ko_Column wob_i wob_c h1 (Nat.le_of_ble_eq_true rfl) ?_
  refine x_aload_n (zdm d_Column_init_0 2 rfl) rfl (n := 0) rfl ?_
  refine x_bipush (zdm d_Column_init_0 3 rfl) (by decide) ?_
  refine x_newaI (c := c) (zdm d_Column_init_0 4 rfl) wa_int hc (c' := (c + 1)) (by omega) k1 (by decide) (Nat.le_of_ble_eq_true rfl) (Nat.le_of_ble_eq_true rfl) ?_
  refine x_putF (zdm d_Column_init_0 5 rfl) f_Column_9 rfl ⟨_, _, rfl⟩ ho ⟨rfl, trivial⟩ rfl ?_
  exact x_return (zdm d_Column_init_0 6 rfl) rfl q
set_option maxRecDepth 20000 in
set_option maxHeartbeats 4000000 in
theorem I_Code {G : zG} {h : Nat} {o c : Int} {M : zM} {Q : Int → zM → Prop} (hc : M 0 0 = c) (ho : zK o = (0, 0)) (k1 : zK (c + 1) = (100, 1600)) (k2 : zK (c + 2) = (100, 64)) (q : Q 0 (zwr (zwr (zwr (zwr M 0 0 (c + 1)) o 0 (c + 1)) 0 0 (c + 2)) o 1 (c + 2))) : zCt G (h + 1) 0 2 1664 y_Code_init [(2, o)] M Q := by
  have h1 : 1 ≤ o := zK_pos ho (by decide)
  have h0 : o ≠ 0 := by omega
  refine zCt.of (by decide +kernel) (Nat.le_of_ble_eq_true rfl) ?_
  refine x_aload_n (zdm d_Code_init_0 0 rfl) rfl (n := 0) rfl ?_
  refine x_objInit (zdm d_Code_init_0 1 rfl) ko_Code wob_i wob_c h1 (Nat.le_of_ble_eq_true rfl) ?_
  refine x_aload_n (zdm d_Code_init_0 2 rfl) rfl (n := 0) rfl ?_
  refine x_sipush (zdm d_Code_init_0 3 rfl) (by decide) ?_
  refine x_newaI (c := c) (zdm d_Code_init_0 4 rfl) wa_int hc (c' := (c + 1)) (by omega) k1 (by decide) (Nat.le_of_ble_eq_true rfl) (Nat.le_of_ble_eq_true rfl) ?_
  refine x_putF (zdm d_Code_init_0 5 rfl) f_Code_11 rfl ⟨_, _, rfl⟩ ho ⟨rfl, trivial⟩ rfl ?_
  refine x_aload_n (zdm d_Code_init_0 6 rfl) rfl (n := 0) rfl ?_
  refine x_bipush (zdm d_Code_init_0 7 rfl) (by decide) ?_
  refine x_newaI (c := (c + 1)) (zdm d_Code_init_0 8 rfl) wa_int (zwo h0 zvs2) (c' := (c + 2)) (by omega) k2 (by decide) (Nat.le_of_ble_eq_true rfl) (Nat.le_of_ble_eq_true rfl) ?_
  refine x_putF (zdm d_Code_init_0 9 rfl) f_Code_17 rfl ⟨_, _, rfl⟩ ho ⟨rfl, trivial⟩ rfl ?_
  exact x_return (zdm d_Code_init_0 10 rfl) rfl q
set_option maxRecDepth 20000 in
set_option maxHeartbeats 4000000 in
theorem I_Scene {G : zG} {h : Nat} {o : Int} {M : zM} {Q : Int → zM → Prop} (h1 : 1 ≤ o) (q : Q 0 M) : zCt G (h + 1) 0 0 0 y_Scene_init [(2, o)] M Q := by
  refine zCt.of (by decide +kernel) (Nat.le_of_ble_eq_true rfl) ?_
  refine x_aload_n (zdm d_Scene_init_0 0 rfl) rfl (n := 0) rfl ?_
  refine x_objInit (zdm d_Scene_init_0 1 rfl) ko_Scene wob_i wob_c h1 (Nat.le_of_ble_eq_true rfl) ?_
  exact x_return (zdm d_Scene_init_0 2 rfl) rfl q
def l_Tape_2 : List (Int × Int × Int) := [(2, 0, 3), (0, 0, 3)]
set_option maxRecDepth 20000 in
set_option maxHeartbeats 4000000 in
theorem I_Tape_2 {G : zG} {h : Nat} {M : zM} {Q : Int → zM → Prop} (hc : M 0 0 = 2) (q : Q 0 (zvl2 l_Tape_2 M)) : zCt G (h + 1) 0 1 1600 y_Tape_init [(2, 2)] M Q := by
  refine zCt.of (by decide +kernel) (Nat.le_of_ble_eq_true rfl) ?_
  refine x_aload_n (zdm d_Tape_init_0 0 rfl) rfl (n := 0) rfl ?_
  refine x_objInit (zdm d_Tape_init_0 1 rfl) ko_Tape wob_i wob_c (by decide) (Nat.le_of_ble_eq_true rfl) ?_
  refine x_aload_n (zdm d_Tape_init_0 2 rfl) rfl (n := 0) rfl ?_
  refine x_sipush (zdm d_Tape_init_0 3 rfl) (by decide) ?_
  refine x_newaI (c := 2) (zdm d_Tape_init_0 4 rfl) wa_int hc (c' := 3) (by decide) rfl (by decide) (Nat.le_of_ble_eq_true rfl) (Nat.le_of_ble_eq_true rfl) ?_
  refine x_putF (zdm d_Tape_init_0 5 rfl) f_Tape_9 rfl ⟨_, _, rfl⟩ rfl ⟨rfl, trivial⟩ rfl ?_
  exact x_return (zdm d_Tape_init_0 6 rfl) rfl q
def l_Course_8 : List (Int × Int × Int) := [(8, 1, 12), (0, 0, 12), (8, 0, 11), (0, 0, 11), (8, 2, 9), (9, 0, 10), (0, 0, 10), (0, 0, 9)]
set_option maxRecDepth 20000 in
set_option maxHeartbeats 4000000 in
theorem I_Course_8 {G : zG} {h : Nat} {M : zM} {Q : Int → zM → Prop} (hc : M 0 0 = 8) (q : Q 0 (zvl2 l_Course_8 M)) : zCt G (h + 2) 0 4 9011 y_Course_init [(2, 8), (0, 1000)] M Q := by
  refine zCt.of (by decide +kernel) (Nat.le_of_ble_eq_true rfl) ?_
  refine x_aload_n (zdm d_Course_init_0 0 rfl) rfl (n := 0) rfl ?_
  refine x_objInit (zdm d_Course_init_0 1 rfl) ko_Course wob_i wob_c (by decide) (Nat.le_of_ble_eq_true rfl) ?_
  refine x_aload_n (zdm d_Course_init_0 2 rfl) rfl (n := 0) rfl ?_
  refine x_new (c := 8) (zdm d_Course_init_0 3 rfl) nw_Course_9 hc (c' := 9) (by decide) rfl (Nat.le_of_ble_eq_true rfl) (Nat.le_of_ble_eq_true rfl) ?_
  refine x_dup (zdm d_Course_init_0 4 rfl) z2n1 ?_
  refine x_callI (h := h + 1) (n := 0) (mc := 1) (ms := 8) (Q1 := fun _ M' => M' = zwr (zwr _ 0 0 10) 9 0 10) (zdm d_Course_init_0 5 rfl) ki_Course_11 (As := []) rfl rfl (by decide) (Nat.le_of_ble_eq_true rfl) (Nat.le_of_ble_eq_true rfl) (Nat.le_of_ble_eq_true rfl) (I_Line (h := h + 0) (o := 9) (c := 9) zvs2 rfl rfl rfl) (fun _ _ hM => ?_)
  subst hM
  refine x_putF (zdm d_Course_init_0 6 rfl) f_Course_12 rfl ⟨_, _, rfl⟩ rfl ⟨rfl, trivial⟩ rfl ?_
  refine x_aload_n (zdm d_Course_init_0 7 rfl) rfl (n := 0) rfl ?_
  refine x_iload_n (zdm d_Course_init_0 8 rfl) rfl (n := 1) rfl ?_
  refine x_bipush (zdm d_Course_init_0 9 rfl) (by decide) ?_
  refine x_imulV (zdm d_Course_init_0 10 rfl) (z := 8000) (by decide) (zIl rfl) ?_
  refine x_newaI (c := 10) (zdm d_Course_init_0 11 rfl) wa_int (zwo (by decide) (zwo (by decide) zvs2)) (c' := 11) (by decide) rfl (by decide) (Nat.le_of_ble_eq_true rfl) (Nat.le_of_ble_eq_true rfl) ?_
  refine x_putF (zdm d_Course_init_0 12 rfl) f_Course_18 rfl ⟨_, _, rfl⟩ rfl ⟨rfl, trivial⟩ rfl ?_
  refine x_aload_n (zdm d_Course_init_0 13 rfl) rfl (n := 0) rfl ?_
  refine x_iload_n (zdm d_Course_init_0 14 rfl) rfl (n := 1) rfl ?_
  refine x_newaI (c := 11) (zdm d_Course_init_0 15 rfl) wa_int (zwo (by decide) zvs2) (c' := 12) (by decide) rfl (by decide) (Nat.le_of_ble_eq_true rfl) (Nat.le_of_ble_eq_true rfl) ?_
  refine x_putF (zdm d_Course_init_0 16 rfl) f_Course_22 rfl ⟨_, _, rfl⟩ rfl ⟨rfl, trivial⟩ rfl ?_
  exact x_return (zdm d_Course_init_0 17 rfl) rfl q
def l_Course_13 : List (Int × Int × Int) := [(13, 1, 17), (0, 0, 17), (13, 0, 16), (0, 0, 16), (13, 2, 14), (14, 0, 15), (0, 0, 15), (0, 0, 14)]
set_option maxRecDepth 20000 in
set_option maxHeartbeats 4000000 in
theorem I_Course_13 {G : zG} {h : Nat} {M : zM} {Q : Int → zM → Prop} (hc : M 0 0 = 13) (q : Q 0 (zvl2 l_Course_13 M)) : zCt G (h + 2) 0 4 1820 y_Course_init [(2, 13), (0, 201)] M Q := by
  refine zCt.of (by decide +kernel) (Nat.le_of_ble_eq_true rfl) ?_
  refine x_aload_n (zdm d_Course_init_0 0 rfl) rfl (n := 0) rfl ?_
  refine x_objInit (zdm d_Course_init_0 1 rfl) ko_Course wob_i wob_c (by decide) (Nat.le_of_ble_eq_true rfl) ?_
  refine x_aload_n (zdm d_Course_init_0 2 rfl) rfl (n := 0) rfl ?_
  refine x_new (c := 13) (zdm d_Course_init_0 3 rfl) nw_Course_9 hc (c' := 14) (by decide) rfl (Nat.le_of_ble_eq_true rfl) (Nat.le_of_ble_eq_true rfl) ?_
  refine x_dup (zdm d_Course_init_0 4 rfl) z2n1 ?_
  refine x_callI (h := h + 1) (n := 0) (mc := 1) (ms := 8) (Q1 := fun _ M' => M' = zwr (zwr _ 0 0 15) 14 0 15) (zdm d_Course_init_0 5 rfl) ki_Course_11 (As := []) rfl rfl (by decide) (Nat.le_of_ble_eq_true rfl) (Nat.le_of_ble_eq_true rfl) (Nat.le_of_ble_eq_true rfl) (I_Line (h := h + 0) (o := 14) (c := 14) zvs2 rfl rfl rfl) (fun _ _ hM => ?_)
  subst hM
  refine x_putF (zdm d_Course_init_0 6 rfl) f_Course_12 rfl ⟨_, _, rfl⟩ rfl ⟨rfl, trivial⟩ rfl ?_
  refine x_aload_n (zdm d_Course_init_0 7 rfl) rfl (n := 0) rfl ?_
  refine x_iload_n (zdm d_Course_init_0 8 rfl) rfl (n := 1) rfl ?_
  refine x_bipush (zdm d_Course_init_0 9 rfl) (by decide) ?_
  refine x_imulV (zdm d_Course_init_0 10 rfl) (z := 1608) (by decide) (zIl rfl) ?_
  refine x_newaI (c := 15) (zdm d_Course_init_0 11 rfl) wa_int (zwo (by decide) (zwo (by decide) zvs2)) (c' := 16) (by decide) rfl (by decide) (Nat.le_of_ble_eq_true rfl) (Nat.le_of_ble_eq_true rfl) ?_
  refine x_putF (zdm d_Course_init_0 12 rfl) f_Course_18 rfl ⟨_, _, rfl⟩ rfl ⟨rfl, trivial⟩ rfl ?_
  refine x_aload_n (zdm d_Course_init_0 13 rfl) rfl (n := 0) rfl ?_
  refine x_iload_n (zdm d_Course_init_0 14 rfl) rfl (n := 1) rfl ?_
  refine x_newaI (c := 16) (zdm d_Course_init_0 15 rfl) wa_int (zwo (by decide) zvs2) (c' := 17) (by decide) rfl (by decide) (Nat.le_of_ble_eq_true rfl) (Nat.le_of_ble_eq_true rfl) ?_
  refine x_putF (zdm d_Course_init_0 16 rfl) f_Course_22 rfl ⟨_, _, rfl⟩ rfl ⟨rfl, trivial⟩ rfl ?_
  exact x_return (zdm d_Course_init_0 17 rfl) rfl q
def l_History_18 : List (Int × Int × Int) := [(21, 19, 61), (61, 0, 62), (0, 0, 62), (0, 0, 61), (21, 18, 59), (59, 0, 60), (0, 0, 60), (0, 0, 59), (21, 17, 57), (57, 0, 58), (0, 0, 58), (0, 0, 57), (21, 16, 55), (55, 0, 56), (0, 0, 56), (0, 0, 55), (21, 15, 53), (53, 0, 54), (0, 0, 54), (0, 0, 53), (21, 14, 51), (51, 0, 52), (0, 0, 52), (0, 0, 51), (21, 13, 49), (49, 0, 50), (0, 0, 50), (0, 0, 49), (21, 12, 47), (47, 0, 48), (0, 0, 48), (0, 0, 47), (21, 11, 45), (45, 0, 46), (0, 0, 46), (0, 0, 45), (21, 10, 43), (43, 0, 44), (0, 0, 44), (0, 0, 43), (21, 9, 41), (41, 0, 42), (0, 0, 42), (0, 0, 41), (21, 8, 39), (39, 0, 40), (0, 0, 40), (0, 0, 39), (21, 7, 37), (37, 0, 38), (0, 0, 38), (0, 0, 37), (21, 6, 35), (35, 0, 36), (0, 0, 36), (0, 0, 35), (21, 5, 33), (33, 0, 34), (0, 0, 34), (0, 0, 33), (21, 4, 31), (31, 0, 32), (0, 0, 32), (0, 0, 31), (21, 3, 29), (29, 0, 30), (0, 0, 30), (0, 0, 29), (21, 2, 27), (27, 0, 28), (0, 0, 28), (0, 0, 27), (21, 1, 25), (25, 0, 26), (0, 0, 26), (0, 0, 25), (21, 0, 23), (23, 0, 24), (0, 0, 24), (0, 0, 23), (18, 3, 22), (0, 0, 22), (18, 2, 21), (0, 0, 21), (18, 1, 20), (0, 0, 20), (18, 0, 19), (0, 0, 19)]
set_option maxRecDepth 20000 in
set_option maxHeartbeats 4000000 in
theorem I_History_18 {G : zG} {h : Nat} {M : zM} {Q : Int → zM → Prop} (hc : M 0 0 = 18) (q : Q 0 (zvl2 l_History_18 M)) : zCt G (h + 2) 0 44 2260 y_History_init [(2, 18)] M Q := by
  refine zCt.of (by decide +kernel) (Nat.le_of_ble_eq_true rfl) ?_
  refine x_aload_n (zdm d_History_init_0 0 rfl) rfl (n := 0) rfl ?_
  refine x_objInit (zdm d_History_init_0 1 rfl) ko_History wob_i wob_c (by decide) (Nat.le_of_ble_eq_true rfl) ?_
  refine x_aload_n (zdm d_History_init_0 2 rfl) rfl (n := 0) rfl ?_
  refine x_sipush (zdm d_History_init_0 3 rfl) (by decide) ?_
  refine x_newaI (c := 18) (zdm d_History_init_0 4 rfl) wa_int hc (c' := 19) (by decide) rfl (by decide) (Nat.le_of_ble_eq_true rfl) (Nat.le_of_ble_eq_true rfl) ?_
  refine x_putF (zdm d_History_init_0 5 rfl) f_History_9 rfl ⟨_, _, rfl⟩ rfl ⟨rfl, trivial⟩ rfl ?_
  refine x_aload_n (zdm d_History_init_0 6 rfl) rfl (n := 0) rfl ?_
  refine x_sipush (zdm d_History_init_0 7 rfl) (by decide) ?_
  refine x_newaI (c := 19) (zdm d_History_init_0 8 rfl) wa_int (zwo (by decide) zvs2) (c' := 20) (by decide) rfl (by decide) (Nat.le_of_ble_eq_true rfl) (Nat.le_of_ble_eq_true rfl) ?_
  refine x_putF (zdm d_History_init_0 9 rfl) f_History_15 rfl ⟨_, _, rfl⟩ rfl ⟨rfl, trivial⟩ rfl ?_
  refine x_aload_n (zdm d_History_init_0 10 rfl) rfl (n := 0) rfl ?_
  refine x_bipush (zdm d_History_init_0 11 rfl) (by decide) ?_
  refine x_anew4 (c := 20) (zdm d_History_init_0 12 rfl) wl_History_18 wo_Line (zwo (by decide) zvs2) (c' := 21) (by decide) rfl (by decide) (Nat.le_of_ble_eq_true rfl) (Nat.le_of_ble_eq_true rfl) ?_
  refine x_putF (zdm d_History_init_0 13 rfl) f_History_20 rfl ⟨_, _, rfl⟩ rfl ⟨rfl, trivial⟩ rfl ?_
  refine x_aload_n (zdm d_History_init_0 14 rfl) rfl (n := 0) rfl ?_
  refine x_bipush (zdm d_History_init_0 15 rfl) (by decide) ?_
  refine x_newaI (c := 21) (zdm d_History_init_0 16 rfl) wa_int (zwo (by decide) zvs2) (c' := 22) (by decide) rfl (by decide) (Nat.le_of_ble_eq_true rfl) (Nat.le_of_ble_eq_true rfl) ?_
  refine x_putF (zdm d_History_init_0 17 rfl) f_History_24 rfl ⟨_, _, rfl⟩ rfl ⟨rfl, trivial⟩ rfl ?_
  refine x_iconst (zdm d_History_init_0 18 rfl) (zIl rfl) ?_
  refine x_istore_n (zdm d_History_init_0 19 rfl) rfl (zlt rfl) rfl ?_
  refine x_iload_n (zdm d_History_init_0 20 rfl) rfl (n := 0) rfl ?_
  refine x_bipush (zdm d_History_init_0 21 rfl) (by decide) ?_
  refine x_icmpgeF (tgt := 66) (zdm d_History_init_0 22 rfl) (by decide) (by decide) ?_
  refine x_aload_n (zdm d_History_init_0 23 rfl) rfl (n := 1) rfl ?_
  refine x_getV (zdm d_History_init_0 24 rfl) f_History_20 rfl (t := 2) (v := 21) rfl (zwk (by decide) (zwk (by decide) (zwr_s _ _ _ _))) ?_
  refine x_iload_n (zdm d_History_init_0 25 rfl) rfl (n := 0) rfl ?_
  refine x_new (c := 22) (zdm d_History_init_0 26 rfl) nw_History_18 (zwo (by decide) zvs2) (c' := 23) (by decide) rfl (Nat.le_of_ble_eq_true rfl) (Nat.le_of_ble_eq_true rfl) ?_
  refine x_dup (zdm d_History_init_0 27 rfl) z2n1 ?_
  refine x_callI (h := h + 1) (n := 0) (mc := 1) (ms := 8) (Q1 := fun _ M' => M' = zwr (zwr _ 0 0 24) 23 0 24) (zdm d_History_init_0 28 rfl) ki_History_27 (As := []) rfl rfl (by decide) (Nat.le_of_ble_eq_true rfl) (Nat.le_of_ble_eq_true rfl) (Nat.le_of_ble_eq_true rfl) (I_Line (h := h + 0) (o := 23) (c := 23) zvs2 rfl rfl rfl) (fun _ _ hM => ?_)
  subst hM
  refine x_aast4 (zdm d_History_init_0 29 rfl) rfl (by decide) rfl ⟨_, _, rfl⟩ rfl ?_
  refine x_iincV (zdm d_History_init_0 30 rfl) (n := 0) rfl (z := 1) (by decide) (zIl rfl) (zlt rfl) rfl ?_
  refine x_goto (tgt := 41) (zdm d_History_init_0 31 rfl) (by decide) ?_
  refine x_iload_n (zdm d_History_init_0 20 rfl) rfl (n := 0) rfl ?_
  refine x_bipush (zdm d_History_init_0 21 rfl) (by decide) ?_
  refine x_icmpgeF (tgt := 66) (zdm d_History_init_0 22 rfl) (by decide) (by decide) ?_
  refine x_aload_n (zdm d_History_init_0 23 rfl) rfl (n := 1) rfl ?_
  refine x_getV (zdm d_History_init_0 24 rfl) f_History_20 rfl (t := 2) (v := 21) rfl (zwk (by decide) (zwk (by decide) (zwk (by decide) (zwk (by decide) (zwk (by decide) (zwk (by decide) (zwr_s _ _ _ _))))))) ?_
  refine x_iload_n (zdm d_History_init_0 25 rfl) rfl (n := 0) rfl ?_
  refine x_new (c := 24) (zdm d_History_init_0 26 rfl) nw_History_18 (zwo (by decide) (zwo (by decide) zvs2)) (c' := 25) (by decide) rfl (Nat.le_of_ble_eq_true rfl) (Nat.le_of_ble_eq_true rfl) ?_
  refine x_dup (zdm d_History_init_0 27 rfl) z2n1 ?_
  refine x_callI (h := h + 1) (n := 0) (mc := 1) (ms := 8) (Q1 := fun _ M' => M' = zwr (zwr _ 0 0 26) 25 0 26) (zdm d_History_init_0 28 rfl) ki_History_27 (As := []) rfl rfl (by decide) (Nat.le_of_ble_eq_true rfl) (Nat.le_of_ble_eq_true rfl) (Nat.le_of_ble_eq_true rfl) (I_Line (h := h + 0) (o := 25) (c := 25) zvs2 rfl rfl rfl) (fun _ _ hM => ?_)
  subst hM
  refine x_aast4 (zdm d_History_init_0 29 rfl) rfl (by decide) rfl ⟨_, _, rfl⟩ rfl ?_
  refine x_iincV (zdm d_History_init_0 30 rfl) (n := 0) rfl (z := 2) (by decide) (zIl rfl) (zlt rfl) rfl ?_
  refine x_goto (tgt := 41) (zdm d_History_init_0 31 rfl) (by decide) ?_
  refine x_iload_n (zdm d_History_init_0 20 rfl) rfl (n := 0) rfl ?_
  refine x_bipush (zdm d_History_init_0 21 rfl) (by decide) ?_
  refine x_icmpgeF (tgt := 66) (zdm d_History_init_0 22 rfl) (by decide) (by decide) ?_
  refine x_aload_n (zdm d_History_init_0 23 rfl) rfl (n := 1) rfl ?_
  refine x_getV (zdm d_History_init_0 24 rfl) f_History_20 rfl (t := 2) (v := 21) rfl (zwk (by decide) (zwk (by decide) (zwk (by decide) (zwk (by decide) (zwk (by decide) (zwk (by decide) (zwk (by decide) (zwk (by decide) (zwk (by decide) (zwk (by decide) (zwr_s _ _ _ _))))))))))) ?_
  refine x_iload_n (zdm d_History_init_0 25 rfl) rfl (n := 0) rfl ?_
  refine x_new (c := 26) (zdm d_History_init_0 26 rfl) nw_History_18 (zwo (by decide) (zwo (by decide) zvs2)) (c' := 27) (by decide) rfl (Nat.le_of_ble_eq_true rfl) (Nat.le_of_ble_eq_true rfl) ?_
  refine x_dup (zdm d_History_init_0 27 rfl) z2n1 ?_
  refine x_callI (h := h + 1) (n := 0) (mc := 1) (ms := 8) (Q1 := fun _ M' => M' = zwr (zwr _ 0 0 28) 27 0 28) (zdm d_History_init_0 28 rfl) ki_History_27 (As := []) rfl rfl (by decide) (Nat.le_of_ble_eq_true rfl) (Nat.le_of_ble_eq_true rfl) (Nat.le_of_ble_eq_true rfl) (I_Line (h := h + 0) (o := 27) (c := 27) zvs2 rfl rfl rfl) (fun _ _ hM => ?_)
  subst hM
  refine x_aast4 (zdm d_History_init_0 29 rfl) rfl (by decide) rfl ⟨_, _, rfl⟩ rfl ?_
  refine x_iincV (zdm d_History_init_0 30 rfl) (n := 0) rfl (z := 3) (by decide) (zIl rfl) (zlt rfl) rfl ?_
  refine x_goto (tgt := 41) (zdm d_History_init_0 31 rfl) (by decide) ?_
  refine x_iload_n (zdm d_History_init_0 20 rfl) rfl (n := 0) rfl ?_
  refine x_bipush (zdm d_History_init_0 21 rfl) (by decide) ?_
  refine x_icmpgeF (tgt := 66) (zdm d_History_init_0 22 rfl) (by decide) (by decide) ?_
  refine x_aload_n (zdm d_History_init_0 23 rfl) rfl (n := 1) rfl ?_
  refine x_getV (zdm d_History_init_0 24 rfl) f_History_20 rfl (t := 2) (v := 21) rfl (zwk (by decide) (zwk (by decide) (zwk (by decide) (zwk (by decide) (zwk (by decide) (zwk (by decide) (zwk (by decide) (zwk (by decide) (zwk (by decide) (zwk (by decide) (zwk (by decide) (zwk (by decide) (zwk (by decide) (zwk (by decide) (zwr_s _ _ _ _))))))))))))))) ?_
  refine x_iload_n (zdm d_History_init_0 25 rfl) rfl (n := 0) rfl ?_
  refine x_new (c := 28) (zdm d_History_init_0 26 rfl) nw_History_18 (zwo (by decide) (zwo (by decide) zvs2)) (c' := 29) (by decide) rfl (Nat.le_of_ble_eq_true rfl) (Nat.le_of_ble_eq_true rfl) ?_
  refine x_dup (zdm d_History_init_0 27 rfl) z2n1 ?_
  refine x_callI (h := h + 1) (n := 0) (mc := 1) (ms := 8) (Q1 := fun _ M' => M' = zwr (zwr _ 0 0 30) 29 0 30) (zdm d_History_init_0 28 rfl) ki_History_27 (As := []) rfl rfl (by decide) (Nat.le_of_ble_eq_true rfl) (Nat.le_of_ble_eq_true rfl) (Nat.le_of_ble_eq_true rfl) (I_Line (h := h + 0) (o := 29) (c := 29) zvs2 rfl rfl rfl) (fun _ _ hM => ?_)
  subst hM
  refine x_aast4 (zdm d_History_init_0 29 rfl) rfl (by decide) rfl ⟨_, _, rfl⟩ rfl ?_
  refine x_iincV (zdm d_History_init_0 30 rfl) (n := 0) rfl (z := 4) (by decide) (zIl rfl) (zlt rfl) rfl ?_
  refine x_goto (tgt := 41) (zdm d_History_init_0 31 rfl) (by decide) ?_
  refine x_iload_n (zdm d_History_init_0 20 rfl) rfl (n := 0) rfl ?_
  refine x_bipush (zdm d_History_init_0 21 rfl) (by decide) ?_
  refine x_icmpgeF (tgt := 66) (zdm d_History_init_0 22 rfl) (by decide) (by decide) ?_
  refine x_aload_n (zdm d_History_init_0 23 rfl) rfl (n := 1) rfl ?_
  refine x_getV (zdm d_History_init_0 24 rfl) f_History_20 rfl (t := 2) (v := 21) rfl (zwk (by decide) (zwk (by decide) (zwk (by decide) (zwk (by decide) (zwk (by decide) (zwk (by decide) (zwk (by decide) (zwk (by decide) (zwk (by decide) (zwk (by decide) (zwk (by decide) (zwk (by decide) (zwk (by decide) (zwk (by decide) (zwk (by decide) (zwk (by decide) (zwk (by decide) (zwk (by decide) (zwr_s _ _ _ _))))))))))))))))))) ?_
  refine x_iload_n (zdm d_History_init_0 25 rfl) rfl (n := 0) rfl ?_
  refine x_new (c := 30) (zdm d_History_init_0 26 rfl) nw_History_18 (zwo (by decide) (zwo (by decide) zvs2)) (c' := 31) (by decide) rfl (Nat.le_of_ble_eq_true rfl) (Nat.le_of_ble_eq_true rfl) ?_
  refine x_dup (zdm d_History_init_0 27 rfl) z2n1 ?_
  refine x_callI (h := h + 1) (n := 0) (mc := 1) (ms := 8) (Q1 := fun _ M' => M' = zwr (zwr _ 0 0 32) 31 0 32) (zdm d_History_init_0 28 rfl) ki_History_27 (As := []) rfl rfl (by decide) (Nat.le_of_ble_eq_true rfl) (Nat.le_of_ble_eq_true rfl) (Nat.le_of_ble_eq_true rfl) (I_Line (h := h + 0) (o := 31) (c := 31) zvs2 rfl rfl rfl) (fun _ _ hM => ?_)
  subst hM
  refine x_aast4 (zdm d_History_init_0 29 rfl) rfl (by decide) rfl ⟨_, _, rfl⟩ rfl ?_
  refine x_iincV (zdm d_History_init_0 30 rfl) (n := 0) rfl (z := 5) (by decide) (zIl rfl) (zlt rfl) rfl ?_
  refine x_goto (tgt := 41) (zdm d_History_init_0 31 rfl) (by decide) ?_
  refine x_iload_n (zdm d_History_init_0 20 rfl) rfl (n := 0) rfl ?_
  refine x_bipush (zdm d_History_init_0 21 rfl) (by decide) ?_
  refine x_icmpgeF (tgt := 66) (zdm d_History_init_0 22 rfl) (by decide) (by decide) ?_
  refine x_aload_n (zdm d_History_init_0 23 rfl) rfl (n := 1) rfl ?_
  refine x_getV (zdm d_History_init_0 24 rfl) f_History_20 rfl (t := 2) (v := 21) rfl (zwk (by decide) (zwk (by decide) (zwk (by decide) (zwk (by decide) (zwk (by decide) (zwk (by decide) (zwk (by decide) (zwk (by decide) (zwk (by decide) (zwk (by decide) (zwk (by decide) (zwk (by decide) (zwk (by decide) (zwk (by decide) (zwk (by decide) (zwk (by decide) (zwk (by decide) (zwk (by decide) (zwk (by decide) (zwk (by decide) (zwk (by decide) (zwk (by decide) (zwr_s _ _ _ _))))))))))))))))))))))) ?_
  refine x_iload_n (zdm d_History_init_0 25 rfl) rfl (n := 0) rfl ?_
  refine x_new (c := 32) (zdm d_History_init_0 26 rfl) nw_History_18 (zwo (by decide) (zwo (by decide) zvs2)) (c' := 33) (by decide) rfl (Nat.le_of_ble_eq_true rfl) (Nat.le_of_ble_eq_true rfl) ?_
  refine x_dup (zdm d_History_init_0 27 rfl) z2n1 ?_
  refine x_callI (h := h + 1) (n := 0) (mc := 1) (ms := 8) (Q1 := fun _ M' => M' = zwr (zwr _ 0 0 34) 33 0 34) (zdm d_History_init_0 28 rfl) ki_History_27 (As := []) rfl rfl (by decide) (Nat.le_of_ble_eq_true rfl) (Nat.le_of_ble_eq_true rfl) (Nat.le_of_ble_eq_true rfl) (I_Line (h := h + 0) (o := 33) (c := 33) zvs2 rfl rfl rfl) (fun _ _ hM => ?_)
  subst hM
  refine x_aast4 (zdm d_History_init_0 29 rfl) rfl (by decide) rfl ⟨_, _, rfl⟩ rfl ?_
  refine x_iincV (zdm d_History_init_0 30 rfl) (n := 0) rfl (z := 6) (by decide) (zIl rfl) (zlt rfl) rfl ?_
  refine x_goto (tgt := 41) (zdm d_History_init_0 31 rfl) (by decide) ?_
  refine x_iload_n (zdm d_History_init_0 20 rfl) rfl (n := 0) rfl ?_
  refine x_bipush (zdm d_History_init_0 21 rfl) (by decide) ?_
  refine x_icmpgeF (tgt := 66) (zdm d_History_init_0 22 rfl) (by decide) (by decide) ?_
  refine x_aload_n (zdm d_History_init_0 23 rfl) rfl (n := 1) rfl ?_
  refine x_getV (zdm d_History_init_0 24 rfl) f_History_20 rfl (t := 2) (v := 21) rfl (zwk (by decide) (zwk (by decide) (zwk (by decide) (zwk (by decide) (zwk (by decide) (zwk (by decide) (zwk (by decide) (zwk (by decide) (zwk (by decide) (zwk (by decide) (zwk (by decide) (zwk (by decide) (zwk (by decide) (zwk (by decide) (zwk (by decide) (zwk (by decide) (zwk (by decide) (zwk (by decide) (zwk (by decide) (zwk (by decide) (zwk (by decide) (zwk (by decide) (zwk (by decide) (zwk (by decide) (zwk (by decide) (zwk (by decide) (zwr_s _ _ _ _))))))))))))))))))))))))))) ?_
  refine x_iload_n (zdm d_History_init_0 25 rfl) rfl (n := 0) rfl ?_
  refine x_new (c := 34) (zdm d_History_init_0 26 rfl) nw_History_18 (zwo (by decide) (zwo (by decide) zvs2)) (c' := 35) (by decide) rfl (Nat.le_of_ble_eq_true rfl) (Nat.le_of_ble_eq_true rfl) ?_
  refine x_dup (zdm d_History_init_0 27 rfl) z2n1 ?_
  refine x_callI (h := h + 1) (n := 0) (mc := 1) (ms := 8) (Q1 := fun _ M' => M' = zwr (zwr _ 0 0 36) 35 0 36) (zdm d_History_init_0 28 rfl) ki_History_27 (As := []) rfl rfl (by decide) (Nat.le_of_ble_eq_true rfl) (Nat.le_of_ble_eq_true rfl) (Nat.le_of_ble_eq_true rfl) (I_Line (h := h + 0) (o := 35) (c := 35) zvs2 rfl rfl rfl) (fun _ _ hM => ?_)
  subst hM
  refine x_aast4 (zdm d_History_init_0 29 rfl) rfl (by decide) rfl ⟨_, _, rfl⟩ rfl ?_
  refine x_iincV (zdm d_History_init_0 30 rfl) (n := 0) rfl (z := 7) (by decide) (zIl rfl) (zlt rfl) rfl ?_
  refine x_goto (tgt := 41) (zdm d_History_init_0 31 rfl) (by decide) ?_
  refine x_iload_n (zdm d_History_init_0 20 rfl) rfl (n := 0) rfl ?_
  refine x_bipush (zdm d_History_init_0 21 rfl) (by decide) ?_
  refine x_icmpgeF (tgt := 66) (zdm d_History_init_0 22 rfl) (by decide) (by decide) ?_
  refine x_aload_n (zdm d_History_init_0 23 rfl) rfl (n := 1) rfl ?_
  refine x_getV (zdm d_History_init_0 24 rfl) f_History_20 rfl (t := 2) (v := 21) rfl (zwk (by decide) (zwk (by decide) (zwk (by decide) (zwk (by decide) (zwk (by decide) (zwk (by decide) (zwk (by decide) (zwk (by decide) (zwk (by decide) (zwk (by decide) (zwk (by decide) (zwk (by decide) (zwk (by decide) (zwk (by decide) (zwk (by decide) (zwk (by decide) (zwk (by decide) (zwk (by decide) (zwk (by decide) (zwk (by decide) (zwk (by decide) (zwk (by decide) (zwk (by decide) (zwk (by decide) (zwk (by decide) (zwk (by decide) (zwk (by decide) (zwk (by decide) (zwk (by decide) (zwk (by decide) (zwr_s _ _ _ _))))))))))))))))))))))))))))))) ?_
  refine x_iload_n (zdm d_History_init_0 25 rfl) rfl (n := 0) rfl ?_
  refine x_new (c := 36) (zdm d_History_init_0 26 rfl) nw_History_18 (zwo (by decide) (zwo (by decide) zvs2)) (c' := 37) (by decide) rfl (Nat.le_of_ble_eq_true rfl) (Nat.le_of_ble_eq_true rfl) ?_
  refine x_dup (zdm d_History_init_0 27 rfl) z2n1 ?_
  refine x_callI (h := h + 1) (n := 0) (mc := 1) (ms := 8) (Q1 := fun _ M' => M' = zwr (zwr _ 0 0 38) 37 0 38) (zdm d_History_init_0 28 rfl) ki_History_27 (As := []) rfl rfl (by decide) (Nat.le_of_ble_eq_true rfl) (Nat.le_of_ble_eq_true rfl) (Nat.le_of_ble_eq_true rfl) (I_Line (h := h + 0) (o := 37) (c := 37) zvs2 rfl rfl rfl) (fun _ _ hM => ?_)
  subst hM
  refine x_aast4 (zdm d_History_init_0 29 rfl) rfl (by decide) rfl ⟨_, _, rfl⟩ rfl ?_
  refine x_iincV (zdm d_History_init_0 30 rfl) (n := 0) rfl (z := 8) (by decide) (zIl rfl) (zlt rfl) rfl ?_
  refine x_goto (tgt := 41) (zdm d_History_init_0 31 rfl) (by decide) ?_
  refine x_iload_n (zdm d_History_init_0 20 rfl) rfl (n := 0) rfl ?_
  refine x_bipush (zdm d_History_init_0 21 rfl) (by decide) ?_
  refine x_icmpgeF (tgt := 66) (zdm d_History_init_0 22 rfl) (by decide) (by decide) ?_
  refine x_aload_n (zdm d_History_init_0 23 rfl) rfl (n := 1) rfl ?_
  refine x_getV (zdm d_History_init_0 24 rfl) f_History_20 rfl (t := 2) (v := 21) rfl (zwk (by decide) (zwk (by decide) (zwk (by decide) (zwk (by decide) (zwk (by decide) (zwk (by decide) (zwk (by decide) (zwk (by decide) (zwk (by decide) (zwk (by decide) (zwk (by decide) (zwk (by decide) (zwk (by decide) (zwk (by decide) (zwk (by decide) (zwk (by decide) (zwk (by decide) (zwk (by decide) (zwk (by decide) (zwk (by decide) (zwk (by decide) (zwk (by decide) (zwk (by decide) (zwk (by decide) (zwk (by decide) (zwk (by decide) (zwk (by decide) (zwk (by decide) (zwk (by decide) (zwk (by decide) (zwk (by decide) (zwk (by decide) (zwk (by decide) (zwk (by decide) (zwr_s _ _ _ _))))))))))))))))))))))))))))))))))) ?_
  refine x_iload_n (zdm d_History_init_0 25 rfl) rfl (n := 0) rfl ?_
  refine x_new (c := 38) (zdm d_History_init_0 26 rfl) nw_History_18 (zwo (by decide) (zwo (by decide) zvs2)) (c' := 39) (by decide) rfl (Nat.le_of_ble_eq_true rfl) (Nat.le_of_ble_eq_true rfl) ?_
  refine x_dup (zdm d_History_init_0 27 rfl) z2n1 ?_
  refine x_callI (h := h + 1) (n := 0) (mc := 1) (ms := 8) (Q1 := fun _ M' => M' = zwr (zwr _ 0 0 40) 39 0 40) (zdm d_History_init_0 28 rfl) ki_History_27 (As := []) rfl rfl (by decide) (Nat.le_of_ble_eq_true rfl) (Nat.le_of_ble_eq_true rfl) (Nat.le_of_ble_eq_true rfl) (I_Line (h := h + 0) (o := 39) (c := 39) zvs2 rfl rfl rfl) (fun _ _ hM => ?_)
  subst hM
  refine x_aast4 (zdm d_History_init_0 29 rfl) rfl (by decide) rfl ⟨_, _, rfl⟩ rfl ?_
  refine x_iincV (zdm d_History_init_0 30 rfl) (n := 0) rfl (z := 9) (by decide) (zIl rfl) (zlt rfl) rfl ?_
  refine x_goto (tgt := 41) (zdm d_History_init_0 31 rfl) (by decide) ?_
  refine x_iload_n (zdm d_History_init_0 20 rfl) rfl (n := 0) rfl ?_
  refine x_bipush (zdm d_History_init_0 21 rfl) (by decide) ?_
  refine x_icmpgeF (tgt := 66) (zdm d_History_init_0 22 rfl) (by decide) (by decide) ?_
  refine x_aload_n (zdm d_History_init_0 23 rfl) rfl (n := 1) rfl ?_
  refine x_getV (zdm d_History_init_0 24 rfl) f_History_20 rfl (t := 2) (v := 21) rfl (zwk (by decide) (zwk (by decide) (zwk (by decide) (zwk (by decide) (zwk (by decide) (zwk (by decide) (zwk (by decide) (zwk (by decide) (zwk (by decide) (zwk (by decide) (zwk (by decide) (zwk (by decide) (zwk (by decide) (zwk (by decide) (zwk (by decide) (zwk (by decide) (zwk (by decide) (zwk (by decide) (zwk (by decide) (zwk (by decide) (zwk (by decide) (zwk (by decide) (zwk (by decide) (zwk (by decide) (zwk (by decide) (zwk (by decide) (zwk (by decide) (zwk (by decide) (zwk (by decide) (zwk (by decide) (zwk (by decide) (zwk (by decide) (zwk (by decide) (zwk (by decide) (zwk (by decide) (zwk (by decide) (zwk (by decide) (zwk (by decide) (zwr_s _ _ _ _))))))))))))))))))))))))))))))))))))))) ?_
  refine x_iload_n (zdm d_History_init_0 25 rfl) rfl (n := 0) rfl ?_
  refine x_new (c := 40) (zdm d_History_init_0 26 rfl) nw_History_18 (zwo (by decide) (zwo (by decide) zvs2)) (c' := 41) (by decide) rfl (Nat.le_of_ble_eq_true rfl) (Nat.le_of_ble_eq_true rfl) ?_
  refine x_dup (zdm d_History_init_0 27 rfl) z2n1 ?_
  refine x_callI (h := h + 1) (n := 0) (mc := 1) (ms := 8) (Q1 := fun _ M' => M' = zwr (zwr _ 0 0 42) 41 0 42) (zdm d_History_init_0 28 rfl) ki_History_27 (As := []) rfl rfl (by decide) (Nat.le_of_ble_eq_true rfl) (Nat.le_of_ble_eq_true rfl) (Nat.le_of_ble_eq_true rfl) (I_Line (h := h + 0) (o := 41) (c := 41) zvs2 rfl rfl rfl) (fun _ _ hM => ?_)
  subst hM
  refine x_aast4 (zdm d_History_init_0 29 rfl) rfl (by decide) rfl ⟨_, _, rfl⟩ rfl ?_
  refine x_iincV (zdm d_History_init_0 30 rfl) (n := 0) rfl (z := 10) (by decide) (zIl rfl) (zlt rfl) rfl ?_
  refine x_goto (tgt := 41) (zdm d_History_init_0 31 rfl) (by decide) ?_
  refine x_iload_n (zdm d_History_init_0 20 rfl) rfl (n := 0) rfl ?_
  refine x_bipush (zdm d_History_init_0 21 rfl) (by decide) ?_
  refine x_icmpgeF (tgt := 66) (zdm d_History_init_0 22 rfl) (by decide) (by decide) ?_
  refine x_aload_n (zdm d_History_init_0 23 rfl) rfl (n := 1) rfl ?_
  refine x_getV (zdm d_History_init_0 24 rfl) f_History_20 rfl (t := 2) (v := 21) rfl (zwk (by decide) (zwk (by decide) (zwk (by decide) (zwk (by decide) (zwk (by decide) (zwk (by decide) (zwk (by decide) (zwk (by decide) (zwk (by decide) (zwk (by decide) (zwk (by decide) (zwk (by decide) (zwk (by decide) (zwk (by decide) (zwk (by decide) (zwk (by decide) (zwk (by decide) (zwk (by decide) (zwk (by decide) (zwk (by decide) (zwk (by decide) (zwk (by decide) (zwk (by decide) (zwk (by decide) (zwk (by decide) (zwk (by decide) (zwk (by decide) (zwk (by decide) (zwk (by decide) (zwk (by decide) (zwk (by decide) (zwk (by decide) (zwk (by decide) (zwk (by decide) (zwk (by decide) (zwk (by decide) (zwk (by decide) (zwk (by decide) (zwk (by decide) (zwk (by decide) (zwk (by decide) (zwk (by decide) (zwr_s _ _ _ _))))))))))))))))))))))))))))))))))))))))))) ?_
  refine x_iload_n (zdm d_History_init_0 25 rfl) rfl (n := 0) rfl ?_
  refine x_new (c := 42) (zdm d_History_init_0 26 rfl) nw_History_18 (zwo (by decide) (zwo (by decide) zvs2)) (c' := 43) (by decide) rfl (Nat.le_of_ble_eq_true rfl) (Nat.le_of_ble_eq_true rfl) ?_
  refine x_dup (zdm d_History_init_0 27 rfl) z2n1 ?_
  refine x_callI (h := h + 1) (n := 0) (mc := 1) (ms := 8) (Q1 := fun _ M' => M' = zwr (zwr _ 0 0 44) 43 0 44) (zdm d_History_init_0 28 rfl) ki_History_27 (As := []) rfl rfl (by decide) (Nat.le_of_ble_eq_true rfl) (Nat.le_of_ble_eq_true rfl) (Nat.le_of_ble_eq_true rfl) (I_Line (h := h + 0) (o := 43) (c := 43) zvs2 rfl rfl rfl) (fun _ _ hM => ?_)
  subst hM
  refine x_aast4 (zdm d_History_init_0 29 rfl) rfl (by decide) rfl ⟨_, _, rfl⟩ rfl ?_
  refine x_iincV (zdm d_History_init_0 30 rfl) (n := 0) rfl (z := 11) (by decide) (zIl rfl) (zlt rfl) rfl ?_
  refine x_goto (tgt := 41) (zdm d_History_init_0 31 rfl) (by decide) ?_
  refine x_iload_n (zdm d_History_init_0 20 rfl) rfl (n := 0) rfl ?_
  refine x_bipush (zdm d_History_init_0 21 rfl) (by decide) ?_
  refine x_icmpgeF (tgt := 66) (zdm d_History_init_0 22 rfl) (by decide) (by decide) ?_
  refine x_aload_n (zdm d_History_init_0 23 rfl) rfl (n := 1) rfl ?_
  refine x_getV (zdm d_History_init_0 24 rfl) f_History_20 rfl (t := 2) (v := 21) rfl (zwk (by decide) (zwk (by decide) (zwk (by decide) (zwk (by decide) (zwk (by decide) (zwk (by decide) (zwk (by decide) (zwk (by decide) (zwk (by decide) (zwk (by decide) (zwk (by decide) (zwk (by decide) (zwk (by decide) (zwk (by decide) (zwk (by decide) (zwk (by decide) (zwk (by decide) (zwk (by decide) (zwk (by decide) (zwk (by decide) (zwk (by decide) (zwk (by decide) (zwk (by decide) (zwk (by decide) (zwk (by decide) (zwk (by decide) (zwk (by decide) (zwk (by decide) (zwk (by decide) (zwk (by decide) (zwk (by decide) (zwk (by decide) (zwk (by decide) (zwk (by decide) (zwk (by decide) (zwk (by decide) (zwk (by decide) (zwk (by decide) (zwk (by decide) (zwk (by decide) (zwk (by decide) (zwk (by decide) (zwk (by decide) (zwk (by decide) (zwk (by decide) (zwk (by decide) (zwr_s _ _ _ _))))))))))))))))))))))))))))))))))))))))))))))) ?_
  refine x_iload_n (zdm d_History_init_0 25 rfl) rfl (n := 0) rfl ?_
  refine x_new (c := 44) (zdm d_History_init_0 26 rfl) nw_History_18 (zwo (by decide) (zwo (by decide) zvs2)) (c' := 45) (by decide) rfl (Nat.le_of_ble_eq_true rfl) (Nat.le_of_ble_eq_true rfl) ?_
  refine x_dup (zdm d_History_init_0 27 rfl) z2n1 ?_
  refine x_callI (h := h + 1) (n := 0) (mc := 1) (ms := 8) (Q1 := fun _ M' => M' = zwr (zwr _ 0 0 46) 45 0 46) (zdm d_History_init_0 28 rfl) ki_History_27 (As := []) rfl rfl (by decide) (Nat.le_of_ble_eq_true rfl) (Nat.le_of_ble_eq_true rfl) (Nat.le_of_ble_eq_true rfl) (I_Line (h := h + 0) (o := 45) (c := 45) zvs2 rfl rfl rfl) (fun _ _ hM => ?_)
  subst hM
  refine x_aast4 (zdm d_History_init_0 29 rfl) rfl (by decide) rfl ⟨_, _, rfl⟩ rfl ?_
  refine x_iincV (zdm d_History_init_0 30 rfl) (n := 0) rfl (z := 12) (by decide) (zIl rfl) (zlt rfl) rfl ?_
  refine x_goto (tgt := 41) (zdm d_History_init_0 31 rfl) (by decide) ?_
  refine x_iload_n (zdm d_History_init_0 20 rfl) rfl (n := 0) rfl ?_
  refine x_bipush (zdm d_History_init_0 21 rfl) (by decide) ?_
  refine x_icmpgeF (tgt := 66) (zdm d_History_init_0 22 rfl) (by decide) (by decide) ?_
  refine x_aload_n (zdm d_History_init_0 23 rfl) rfl (n := 1) rfl ?_
  refine x_getV (zdm d_History_init_0 24 rfl) f_History_20 rfl (t := 2) (v := 21) rfl (zwk (by decide) (zwk (by decide) (zwk (by decide) (zwk (by decide) (zwk (by decide) (zwk (by decide) (zwk (by decide) (zwk (by decide) (zwk (by decide) (zwk (by decide) (zwk (by decide) (zwk (by decide) (zwk (by decide) (zwk (by decide) (zwk (by decide) (zwk (by decide) (zwk (by decide) (zwk (by decide) (zwk (by decide) (zwk (by decide) (zwk (by decide) (zwk (by decide) (zwk (by decide) (zwk (by decide) (zwk (by decide) (zwk (by decide) (zwk (by decide) (zwk (by decide) (zwk (by decide) (zwk (by decide) (zwk (by decide) (zwk (by decide) (zwk (by decide) (zwk (by decide) (zwk (by decide) (zwk (by decide) (zwk (by decide) (zwk (by decide) (zwk (by decide) (zwk (by decide) (zwk (by decide) (zwk (by decide) (zwk (by decide) (zwk (by decide) (zwk (by decide) (zwk (by decide) (zwk (by decide) (zwk (by decide) (zwk (by decide) (zwk (by decide) (zwr_s _ _ _ _))))))))))))))))))))))))))))))))))))))))))))))))))) ?_
  refine x_iload_n (zdm d_History_init_0 25 rfl) rfl (n := 0) rfl ?_
  refine x_new (c := 46) (zdm d_History_init_0 26 rfl) nw_History_18 (zwo (by decide) (zwo (by decide) zvs2)) (c' := 47) (by decide) rfl (Nat.le_of_ble_eq_true rfl) (Nat.le_of_ble_eq_true rfl) ?_
  refine x_dup (zdm d_History_init_0 27 rfl) z2n1 ?_
  refine x_callI (h := h + 1) (n := 0) (mc := 1) (ms := 8) (Q1 := fun _ M' => M' = zwr (zwr _ 0 0 48) 47 0 48) (zdm d_History_init_0 28 rfl) ki_History_27 (As := []) rfl rfl (by decide) (Nat.le_of_ble_eq_true rfl) (Nat.le_of_ble_eq_true rfl) (Nat.le_of_ble_eq_true rfl) (I_Line (h := h + 0) (o := 47) (c := 47) zvs2 rfl rfl rfl) (fun _ _ hM => ?_)
  subst hM
  refine x_aast4 (zdm d_History_init_0 29 rfl) rfl (by decide) rfl ⟨_, _, rfl⟩ rfl ?_
  refine x_iincV (zdm d_History_init_0 30 rfl) (n := 0) rfl (z := 13) (by decide) (zIl rfl) (zlt rfl) rfl ?_
  refine x_goto (tgt := 41) (zdm d_History_init_0 31 rfl) (by decide) ?_
  refine x_iload_n (zdm d_History_init_0 20 rfl) rfl (n := 0) rfl ?_
  refine x_bipush (zdm d_History_init_0 21 rfl) (by decide) ?_
  refine x_icmpgeF (tgt := 66) (zdm d_History_init_0 22 rfl) (by decide) (by decide) ?_
  refine x_aload_n (zdm d_History_init_0 23 rfl) rfl (n := 1) rfl ?_
  refine x_getV (zdm d_History_init_0 24 rfl) f_History_20 rfl (t := 2) (v := 21) rfl (zwk (by decide) (zwk (by decide) (zwk (by decide) (zwk (by decide) (zwk (by decide) (zwk (by decide) (zwk (by decide) (zwk (by decide) (zwk (by decide) (zwk (by decide) (zwk (by decide) (zwk (by decide) (zwk (by decide) (zwk (by decide) (zwk (by decide) (zwk (by decide) (zwk (by decide) (zwk (by decide) (zwk (by decide) (zwk (by decide) (zwk (by decide) (zwk (by decide) (zwk (by decide) (zwk (by decide) (zwk (by decide) (zwk (by decide) (zwk (by decide) (zwk (by decide) (zwk (by decide) (zwk (by decide) (zwk (by decide) (zwk (by decide) (zwk (by decide) (zwk (by decide) (zwk (by decide) (zwk (by decide) (zwk (by decide) (zwk (by decide) (zwk (by decide) (zwk (by decide) (zwk (by decide) (zwk (by decide) (zwk (by decide) (zwk (by decide) (zwk (by decide) (zwk (by decide) (zwk (by decide) (zwk (by decide) (zwk (by decide) (zwk (by decide) (zwk (by decide) (zwk (by decide) (zwk (by decide) (zwk (by decide) (zwr_s _ _ _ _))))))))))))))))))))))))))))))))))))))))))))))))))))))) ?_
  refine x_iload_n (zdm d_History_init_0 25 rfl) rfl (n := 0) rfl ?_
  refine x_new (c := 48) (zdm d_History_init_0 26 rfl) nw_History_18 (zwo (by decide) (zwo (by decide) zvs2)) (c' := 49) (by decide) rfl (Nat.le_of_ble_eq_true rfl) (Nat.le_of_ble_eq_true rfl) ?_
  refine x_dup (zdm d_History_init_0 27 rfl) z2n1 ?_
  refine x_callI (h := h + 1) (n := 0) (mc := 1) (ms := 8) (Q1 := fun _ M' => M' = zwr (zwr _ 0 0 50) 49 0 50) (zdm d_History_init_0 28 rfl) ki_History_27 (As := []) rfl rfl (by decide) (Nat.le_of_ble_eq_true rfl) (Nat.le_of_ble_eq_true rfl) (Nat.le_of_ble_eq_true rfl) (I_Line (h := h + 0) (o := 49) (c := 49) zvs2 rfl rfl rfl) (fun _ _ hM => ?_)
  subst hM
  refine x_aast4 (zdm d_History_init_0 29 rfl) rfl (by decide) rfl ⟨_, _, rfl⟩ rfl ?_
  refine x_iincV (zdm d_History_init_0 30 rfl) (n := 0) rfl (z := 14) (by decide) (zIl rfl) (zlt rfl) rfl ?_
  refine x_goto (tgt := 41) (zdm d_History_init_0 31 rfl) (by decide) ?_
  refine x_iload_n (zdm d_History_init_0 20 rfl) rfl (n := 0) rfl ?_
  refine x_bipush (zdm d_History_init_0 21 rfl) (by decide) ?_
  refine x_icmpgeF (tgt := 66) (zdm d_History_init_0 22 rfl) (by decide) (by decide) ?_
  refine x_aload_n (zdm d_History_init_0 23 rfl) rfl (n := 1) rfl ?_
  refine x_getV (zdm d_History_init_0 24 rfl) f_History_20 rfl (t := 2) (v := 21) rfl (zwk (by decide) (zwk (by decide) (zwk (by decide) (zwk (by decide) (zwk (by decide) (zwk (by decide) (zwk (by decide) (zwk (by decide) (zwk (by decide) (zwk (by decide) (zwk (by decide) (zwk (by decide) (zwk (by decide) (zwk (by decide) (zwk (by decide) (zwk (by decide) (zwk (by decide) (zwk (by decide) (zwk (by decide) (zwk (by decide) (zwk (by decide) (zwk (by decide) (zwk (by decide) (zwk (by decide) (zwk (by decide) (zwk (by decide) (zwk (by decide) (zwk (by decide) (zwk (by decide) (zwk (by decide) (zwk (by decide) (zwk (by decide) (zwk (by decide) (zwk (by decide) (zwk (by decide) (zwk (by decide) (zwk (by decide) (zwk (by decide) (zwk (by decide) (zwk (by decide) (zwk (by decide) (zwk (by decide) (zwk (by decide) (zwk (by decide) (zwk (by decide) (zwk (by decide) (zwk (by decide) (zwk (by decide) (zwk (by decide) (zwk (by decide) (zwk (by decide) (zwk (by decide) (zwk (by decide) (zwk (by decide) (zwk (by decide) (zwk (by decide) (zwk (by decide) (zwk (by decide) (zwr_s _ _ _ _))))))))))))))))))))))))))))))))))))))))))))))))))))))))))) ?_
  refine x_iload_n (zdm d_History_init_0 25 rfl) rfl (n := 0) rfl ?_
  refine x_new (c := 50) (zdm d_History_init_0 26 rfl) nw_History_18 (zwo (by decide) (zwo (by decide) zvs2)) (c' := 51) (by decide) rfl (Nat.le_of_ble_eq_true rfl) (Nat.le_of_ble_eq_true rfl) ?_
  refine x_dup (zdm d_History_init_0 27 rfl) z2n1 ?_
  refine x_callI (h := h + 1) (n := 0) (mc := 1) (ms := 8) (Q1 := fun _ M' => M' = zwr (zwr _ 0 0 52) 51 0 52) (zdm d_History_init_0 28 rfl) ki_History_27 (As := []) rfl rfl (by decide) (Nat.le_of_ble_eq_true rfl) (Nat.le_of_ble_eq_true rfl) (Nat.le_of_ble_eq_true rfl) (I_Line (h := h + 0) (o := 51) (c := 51) zvs2 rfl rfl rfl) (fun _ _ hM => ?_)
  subst hM
  refine x_aast4 (zdm d_History_init_0 29 rfl) rfl (by decide) rfl ⟨_, _, rfl⟩ rfl ?_
  refine x_iincV (zdm d_History_init_0 30 rfl) (n := 0) rfl (z := 15) (by decide) (zIl rfl) (zlt rfl) rfl ?_
  refine x_goto (tgt := 41) (zdm d_History_init_0 31 rfl) (by decide) ?_
  refine x_iload_n (zdm d_History_init_0 20 rfl) rfl (n := 0) rfl ?_
  refine x_bipush (zdm d_History_init_0 21 rfl) (by decide) ?_
  refine x_icmpgeF (tgt := 66) (zdm d_History_init_0 22 rfl) (by decide) (by decide) ?_
  refine x_aload_n (zdm d_History_init_0 23 rfl) rfl (n := 1) rfl ?_
  refine x_getV (zdm d_History_init_0 24 rfl) f_History_20 rfl (t := 2) (v := 21) rfl (zwk (by decide) (zwk (by decide) (zwk (by decide) (zwk (by decide) (zwk (by decide) (zwk (by decide) (zwk (by decide) (zwk (by decide) (zwk (by decide) (zwk (by decide) (zwk (by decide) (zwk (by decide) (zwk (by decide) (zwk (by decide) (zwk (by decide) (zwk (by decide) (zwk (by decide) (zwk (by decide) (zwk (by decide) (zwk (by decide) (zwk (by decide) (zwk (by decide) (zwk (by decide) (zwk (by decide) (zwk (by decide) (zwk (by decide) (zwk (by decide) (zwk (by decide) (zwk (by decide) (zwk (by decide) (zwk (by decide) (zwk (by decide) (zwk (by decide) (zwk (by decide) (zwk (by decide) (zwk (by decide) (zwk (by decide) (zwk (by decide) (zwk (by decide) (zwk (by decide) (zwk (by decide) (zwk (by decide) (zwk (by decide) (zwk (by decide) (zwk (by decide) (zwk (by decide) (zwk (by decide) (zwk (by decide) (zwk (by decide) (zwk (by decide) (zwk (by decide) (zwk (by decide) (zwk (by decide) (zwk (by decide) (zwk (by decide) (zwk (by decide) (zwk (by decide) (zwk (by decide) (zwk (by decide) (zwk (by decide) (zwk (by decide) (zwk (by decide) (zwr_s _ _ _ _))))))))))))))))))))))))))))))))))))))))))))))))))))))))))))))) ?_
  refine x_iload_n (zdm d_History_init_0 25 rfl) rfl (n := 0) rfl ?_
  refine x_new (c := 52) (zdm d_History_init_0 26 rfl) nw_History_18 (zwo (by decide) (zwo (by decide) zvs2)) (c' := 53) (by decide) rfl (Nat.le_of_ble_eq_true rfl) (Nat.le_of_ble_eq_true rfl) ?_
  refine x_dup (zdm d_History_init_0 27 rfl) z2n1 ?_
  refine x_callI (h := h + 1) (n := 0) (mc := 1) (ms := 8) (Q1 := fun _ M' => M' = zwr (zwr _ 0 0 54) 53 0 54) (zdm d_History_init_0 28 rfl) ki_History_27 (As := []) rfl rfl (by decide) (Nat.le_of_ble_eq_true rfl) (Nat.le_of_ble_eq_true rfl) (Nat.le_of_ble_eq_true rfl) (I_Line (h := h + 0) (o := 53) (c := 53) zvs2 rfl rfl rfl) (fun _ _ hM => ?_)
  subst hM
  refine x_aast4 (zdm d_History_init_0 29 rfl) rfl (by decide) rfl ⟨_, _, rfl⟩ rfl ?_
  refine x_iincV (zdm d_History_init_0 30 rfl) (n := 0) rfl (z := 16) (by decide) (zIl rfl) (zlt rfl) rfl ?_
  refine x_goto (tgt := 41) (zdm d_History_init_0 31 rfl) (by decide) ?_
  refine x_iload_n (zdm d_History_init_0 20 rfl) rfl (n := 0) rfl ?_
  refine x_bipush (zdm d_History_init_0 21 rfl) (by decide) ?_
  refine x_icmpgeF (tgt := 66) (zdm d_History_init_0 22 rfl) (by decide) (by decide) ?_
  refine x_aload_n (zdm d_History_init_0 23 rfl) rfl (n := 1) rfl ?_
  refine x_getV (zdm d_History_init_0 24 rfl) f_History_20 rfl (t := 2) (v := 21) rfl (zwk (by decide) (zwk (by decide) (zwk (by decide) (zwk (by decide) (zwk (by decide) (zwk (by decide) (zwk (by decide) (zwk (by decide) (zwk (by decide) (zwk (by decide) (zwk (by decide) (zwk (by decide) (zwk (by decide) (zwk (by decide) (zwk (by decide) (zwk (by decide) (zwk (by decide) (zwk (by decide) (zwk (by decide) (zwk (by decide) (zwk (by decide) (zwk (by decide) (zwk (by decide) (zwk (by decide) (zwk (by decide) (zwk (by decide) (zwk (by decide) (zwk (by decide) (zwk (by decide) (zwk (by decide) (zwk (by decide) (zwk (by decide) (zwk (by decide) (zwk (by decide) (zwk (by decide) (zwk (by decide) (zwk (by decide) (zwk (by decide) (zwk (by decide) (zwk (by decide) (zwk (by decide) (zwk (by decide) (zwk (by decide) (zwk (by decide) (zwk (by decide) (zwk (by decide) (zwk (by decide) (zwk (by decide) (zwk (by decide) (zwk (by decide) (zwk (by decide) (zwk (by decide) (zwk (by decide) (zwk (by decide) (zwk (by decide) (zwk (by decide) (zwk (by decide) (zwk (by decide) (zwk (by decide) (zwk (by decide) (zwk (by decide) (zwk (by decide) (zwk (by decide) (zwk (by decide) (zwk (by decide) (zwk (by decide) (zwr_s _ _ _ _))))))))))))))))))))))))))))))))))))))))))))))))))))))))))))))))))) ?_
  refine x_iload_n (zdm d_History_init_0 25 rfl) rfl (n := 0) rfl ?_
  refine x_new (c := 54) (zdm d_History_init_0 26 rfl) nw_History_18 (zwo (by decide) (zwo (by decide) zvs2)) (c' := 55) (by decide) rfl (Nat.le_of_ble_eq_true rfl) (Nat.le_of_ble_eq_true rfl) ?_
  refine x_dup (zdm d_History_init_0 27 rfl) z2n1 ?_
  refine x_callI (h := h + 1) (n := 0) (mc := 1) (ms := 8) (Q1 := fun _ M' => M' = zwr (zwr _ 0 0 56) 55 0 56) (zdm d_History_init_0 28 rfl) ki_History_27 (As := []) rfl rfl (by decide) (Nat.le_of_ble_eq_true rfl) (Nat.le_of_ble_eq_true rfl) (Nat.le_of_ble_eq_true rfl) (I_Line (h := h + 0) (o := 55) (c := 55) zvs2 rfl rfl rfl) (fun _ _ hM => ?_)
  subst hM
  refine x_aast4 (zdm d_History_init_0 29 rfl) rfl (by decide) rfl ⟨_, _, rfl⟩ rfl ?_
  refine x_iincV (zdm d_History_init_0 30 rfl) (n := 0) rfl (z := 17) (by decide) (zIl rfl) (zlt rfl) rfl ?_
  refine x_goto (tgt := 41) (zdm d_History_init_0 31 rfl) (by decide) ?_
  refine x_iload_n (zdm d_History_init_0 20 rfl) rfl (n := 0) rfl ?_
  refine x_bipush (zdm d_History_init_0 21 rfl) (by decide) ?_
  refine x_icmpgeF (tgt := 66) (zdm d_History_init_0 22 rfl) (by decide) (by decide) ?_
  refine x_aload_n (zdm d_History_init_0 23 rfl) rfl (n := 1) rfl ?_
  refine x_getV (zdm d_History_init_0 24 rfl) f_History_20 rfl (t := 2) (v := 21) rfl (zwk (by decide) (zwk (by decide) (zwk (by decide) (zwk (by decide) (zwk (by decide) (zwk (by decide) (zwk (by decide) (zwk (by decide) (zwk (by decide) (zwk (by decide) (zwk (by decide) (zwk (by decide) (zwk (by decide) (zwk (by decide) (zwk (by decide) (zwk (by decide) (zwk (by decide) (zwk (by decide) (zwk (by decide) (zwk (by decide) (zwk (by decide) (zwk (by decide) (zwk (by decide) (zwk (by decide) (zwk (by decide) (zwk (by decide) (zwk (by decide) (zwk (by decide) (zwk (by decide) (zwk (by decide) (zwk (by decide) (zwk (by decide) (zwk (by decide) (zwk (by decide) (zwk (by decide) (zwk (by decide) (zwk (by decide) (zwk (by decide) (zwk (by decide) (zwk (by decide) (zwk (by decide) (zwk (by decide) (zwk (by decide) (zwk (by decide) (zwk (by decide) (zwk (by decide) (zwk (by decide) (zwk (by decide) (zwk (by decide) (zwk (by decide) (zwk (by decide) (zwk (by decide) (zwk (by decide) (zwk (by decide) (zwk (by decide) (zwk (by decide) (zwk (by decide) (zwk (by decide) (zwk (by decide) (zwk (by decide) (zwk (by decide) (zwk (by decide) (zwk (by decide) (zwk (by decide) (zwk (by decide) (zwk (by decide) (zwk (by decide) (zwk (by decide) (zwk (by decide) (zwk (by decide) (zwr_s _ _ _ _))))))))))))))))))))))))))))))))))))))))))))))))))))))))))))))))))))))) ?_
  refine x_iload_n (zdm d_History_init_0 25 rfl) rfl (n := 0) rfl ?_
  refine x_new (c := 56) (zdm d_History_init_0 26 rfl) nw_History_18 (zwo (by decide) (zwo (by decide) zvs2)) (c' := 57) (by decide) rfl (Nat.le_of_ble_eq_true rfl) (Nat.le_of_ble_eq_true rfl) ?_
  refine x_dup (zdm d_History_init_0 27 rfl) z2n1 ?_
  refine x_callI (h := h + 1) (n := 0) (mc := 1) (ms := 8) (Q1 := fun _ M' => M' = zwr (zwr _ 0 0 58) 57 0 58) (zdm d_History_init_0 28 rfl) ki_History_27 (As := []) rfl rfl (by decide) (Nat.le_of_ble_eq_true rfl) (Nat.le_of_ble_eq_true rfl) (Nat.le_of_ble_eq_true rfl) (I_Line (h := h + 0) (o := 57) (c := 57) zvs2 rfl rfl rfl) (fun _ _ hM => ?_)
  subst hM
  refine x_aast4 (zdm d_History_init_0 29 rfl) rfl (by decide) rfl ⟨_, _, rfl⟩ rfl ?_
  refine x_iincV (zdm d_History_init_0 30 rfl) (n := 0) rfl (z := 18) (by decide) (zIl rfl) (zlt rfl) rfl ?_
  refine x_goto (tgt := 41) (zdm d_History_init_0 31 rfl) (by decide) ?_
  refine x_iload_n (zdm d_History_init_0 20 rfl) rfl (n := 0) rfl ?_
  refine x_bipush (zdm d_History_init_0 21 rfl) (by decide) ?_
  refine x_icmpgeF (tgt := 66) (zdm d_History_init_0 22 rfl) (by decide) (by decide) ?_
  refine x_aload_n (zdm d_History_init_0 23 rfl) rfl (n := 1) rfl ?_
  refine x_getV (zdm d_History_init_0 24 rfl) f_History_20 rfl (t := 2) (v := 21) rfl (zwk (by decide) (zwk (by decide) (zwk (by decide) (zwk (by decide) (zwk (by decide) (zwk (by decide) (zwk (by decide) (zwk (by decide) (zwk (by decide) (zwk (by decide) (zwk (by decide) (zwk (by decide) (zwk (by decide) (zwk (by decide) (zwk (by decide) (zwk (by decide) (zwk (by decide) (zwk (by decide) (zwk (by decide) (zwk (by decide) (zwk (by decide) (zwk (by decide) (zwk (by decide) (zwk (by decide) (zwk (by decide) (zwk (by decide) (zwk (by decide) (zwk (by decide) (zwk (by decide) (zwk (by decide) (zwk (by decide) (zwk (by decide) (zwk (by decide) (zwk (by decide) (zwk (by decide) (zwk (by decide) (zwk (by decide) (zwk (by decide) (zwk (by decide) (zwk (by decide) (zwk (by decide) (zwk (by decide) (zwk (by decide) (zwk (by decide) (zwk (by decide) (zwk (by decide) (zwk (by decide) (zwk (by decide) (zwk (by decide) (zwk (by decide) (zwk (by decide) (zwk (by decide) (zwk (by decide) (zwk (by decide) (zwk (by decide) (zwk (by decide) (zwk (by decide) (zwk (by decide) (zwk (by decide) (zwk (by decide) (zwk (by decide) (zwk (by decide) (zwk (by decide) (zwk (by decide) (zwk (by decide) (zwk (by decide) (zwk (by decide) (zwk (by decide) (zwk (by decide) (zwk (by decide) (zwk (by decide) (zwk (by decide) (zwk (by decide) (zwk (by decide) (zwr_s _ _ _ _))))))))))))))))))))))))))))))))))))))))))))))))))))))))))))))))))))))))))) ?_
  refine x_iload_n (zdm d_History_init_0 25 rfl) rfl (n := 0) rfl ?_
  refine x_new (c := 58) (zdm d_History_init_0 26 rfl) nw_History_18 (zwo (by decide) (zwo (by decide) zvs2)) (c' := 59) (by decide) rfl (Nat.le_of_ble_eq_true rfl) (Nat.le_of_ble_eq_true rfl) ?_
  refine x_dup (zdm d_History_init_0 27 rfl) z2n1 ?_
  refine x_callI (h := h + 1) (n := 0) (mc := 1) (ms := 8) (Q1 := fun _ M' => M' = zwr (zwr _ 0 0 60) 59 0 60) (zdm d_History_init_0 28 rfl) ki_History_27 (As := []) rfl rfl (by decide) (Nat.le_of_ble_eq_true rfl) (Nat.le_of_ble_eq_true rfl) (Nat.le_of_ble_eq_true rfl) (I_Line (h := h + 0) (o := 59) (c := 59) zvs2 rfl rfl rfl) (fun _ _ hM => ?_)
  subst hM
  refine x_aast4 (zdm d_History_init_0 29 rfl) rfl (by decide) rfl ⟨_, _, rfl⟩ rfl ?_
  refine x_iincV (zdm d_History_init_0 30 rfl) (n := 0) rfl (z := 19) (by decide) (zIl rfl) (zlt rfl) rfl ?_
  refine x_goto (tgt := 41) (zdm d_History_init_0 31 rfl) (by decide) ?_
  refine x_iload_n (zdm d_History_init_0 20 rfl) rfl (n := 0) rfl ?_
  refine x_bipush (zdm d_History_init_0 21 rfl) (by decide) ?_
  refine x_icmpgeF (tgt := 66) (zdm d_History_init_0 22 rfl) (by decide) (by decide) ?_
  refine x_aload_n (zdm d_History_init_0 23 rfl) rfl (n := 1) rfl ?_
  refine x_getV (zdm d_History_init_0 24 rfl) f_History_20 rfl (t := 2) (v := 21) rfl (zwk (by decide) (zwk (by decide) (zwk (by decide) (zwk (by decide) (zwk (by decide) (zwk (by decide) (zwk (by decide) (zwk (by decide) (zwk (by decide) (zwk (by decide) (zwk (by decide) (zwk (by decide) (zwk (by decide) (zwk (by decide) (zwk (by decide) (zwk (by decide) (zwk (by decide) (zwk (by decide) (zwk (by decide) (zwk (by decide) (zwk (by decide) (zwk (by decide) (zwk (by decide) (zwk (by decide) (zwk (by decide) (zwk (by decide) (zwk (by decide) (zwk (by decide) (zwk (by decide) (zwk (by decide) (zwk (by decide) (zwk (by decide) (zwk (by decide) (zwk (by decide) (zwk (by decide) (zwk (by decide) (zwk (by decide) (zwk (by decide) (zwk (by decide) (zwk (by decide) (zwk (by decide) (zwk (by decide) (zwk (by decide) (zwk (by decide) (zwk (by decide) (zwk (by decide) (zwk (by decide) (zwk (by decide) (zwk (by decide) (zwk (by decide) (zwk (by decide) (zwk (by decide) (zwk (by decide) (zwk (by decide) (zwk (by decide) (zwk (by decide) (zwk (by decide) (zwk (by decide) (zwk (by decide) (zwk (by decide) (zwk (by decide) (zwk (by decide) (zwk (by decide) (zwk (by decide) (zwk (by decide) (zwk (by decide) (zwk (by decide) (zwk (by decide) (zwk (by decide) (zwk (by decide) (zwk (by decide) (zwk (by decide) (zwk (by decide) (zwk (by decide) (zwk (by decide) (zwk (by decide) (zwk (by decide) (zwk (by decide) (zwr_s _ _ _ _))))))))))))))))))))))))))))))))))))))))))))))))))))))))))))))))))))))))))))))) ?_
  refine x_iload_n (zdm d_History_init_0 25 rfl) rfl (n := 0) rfl ?_
  refine x_new (c := 60) (zdm d_History_init_0 26 rfl) nw_History_18 (zwo (by decide) (zwo (by decide) zvs2)) (c' := 61) (by decide) rfl (Nat.le_of_ble_eq_true rfl) (Nat.le_of_ble_eq_true rfl) ?_
  refine x_dup (zdm d_History_init_0 27 rfl) z2n1 ?_
  refine x_callI (h := h + 1) (n := 0) (mc := 1) (ms := 8) (Q1 := fun _ M' => M' = zwr (zwr _ 0 0 62) 61 0 62) (zdm d_History_init_0 28 rfl) ki_History_27 (As := []) rfl rfl (by decide) (Nat.le_of_ble_eq_true rfl) (Nat.le_of_ble_eq_true rfl) (Nat.le_of_ble_eq_true rfl) (I_Line (h := h + 0) (o := 61) (c := 61) zvs2 rfl rfl rfl) (fun _ _ hM => ?_)
  subst hM
  refine x_aast4 (zdm d_History_init_0 29 rfl) rfl (by decide) rfl ⟨_, _, rfl⟩ rfl ?_
  refine x_iincV (zdm d_History_init_0 30 rfl) (n := 0) rfl (z := 20) (by decide) (zIl rfl) (zlt rfl) rfl ?_
  refine x_goto (tgt := 41) (zdm d_History_init_0 31 rfl) (by decide) ?_
  refine x_iload_n (zdm d_History_init_0 20 rfl) rfl (n := 0) rfl ?_
  refine x_bipush (zdm d_History_init_0 21 rfl) (by decide) ?_
  refine x_icmpgeT (tgt := 66) (zdm d_History_init_0 22 rfl) (by decide) (by decide) ?_
  exact x_return (zdm d_History_init_0 32 rfl) rfl q
def l_Piece_63 : List (Int × Int × Int) := [(63, 0, 8), (63, 7, 71), (0, 0, 71), (63, 6, 70), (0, 0, 70), (63, 5, 69), (0, 0, 69), (63, 4, 68), (0, 0, 68), (63, 3, 67), (0, 0, 67), (63, 2, 66), (0, 0, 66), (63, 1, 64), (64, 0, 65), (0, 0, 65), (0, 0, 64)]
set_option maxRecDepth 20000 in
set_option maxHeartbeats 4000000 in
theorem I_Piece_63 {G : zG} {h : Nat} {M : zM} {Q : Int → zM → Prop} (hc : M 0 0 = 63) (q : Q 0 (zvl2 l_Piece_63 M)) : zCt G (h + 2) 0 8 2447 y_Piece_init [(2, 63), (2, 8)] M Q := by
  refine zCt.of (by decide +kernel) (Nat.le_of_ble_eq_true rfl) ?_
  refine x_aload_n (zdm d_Piece_init_0 0 rfl) rfl (n := 0) rfl ?_
  refine x_objInit (zdm d_Piece_init_0 1 rfl) ko_Piece wob_i wob_c (by decide) (Nat.le_of_ble_eq_true rfl) ?_
  refine x_aload_n (zdm d_Piece_init_0 2 rfl) rfl (n := 0) rfl ?_
  refine x_new (c := 63) (zdm d_Piece_init_0 3 rfl) nw_Piece_11 hc (c' := 64) (by decide) rfl (Nat.le_of_ble_eq_true rfl) (Nat.le_of_ble_eq_true rfl) ?_
  refine x_dup (zdm d_Piece_init_0 4 rfl) z2n1 ?_
  refine x_callI (h := h + 1) (n := 0) (mc := 1) (ms := 8) (Q1 := fun _ M' => M' = zwr (zwr _ 0 0 65) 64 0 65) (zdm d_Piece_init_0 5 rfl) ki_Piece_13 (As := []) rfl rfl (by decide) (Nat.le_of_ble_eq_true rfl) (Nat.le_of_ble_eq_true rfl) (Nat.le_of_ble_eq_true rfl) (I_Line (h := h + 0) (o := 64) (c := 64) zvs2 rfl rfl rfl) (fun _ _ hM => ?_)
  subst hM
  refine x_putF (zdm d_Piece_init_0 6 rfl) f_Piece_14 rfl ⟨_, _, rfl⟩ rfl ⟨rfl, trivial⟩ rfl ?_
  refine x_aload_n (zdm d_Piece_init_0 7 rfl) rfl (n := 0) rfl ?_
  refine x_bipush (zdm d_Piece_init_0 8 rfl) (by decide) ?_
  refine x_newaI (c := 65) (zdm d_Piece_init_0 9 rfl) wa_int (zwo (by decide) (zwo (by decide) zvs2)) (c' := 66) (by decide) rfl (by decide) (Nat.le_of_ble_eq_true rfl) (Nat.le_of_ble_eq_true rfl) ?_
  refine x_putF (zdm d_Piece_init_0 10 rfl) f_Piece_18 rfl ⟨_, _, rfl⟩ rfl ⟨rfl, trivial⟩ rfl ?_
  refine x_aload_n (zdm d_Piece_init_0 11 rfl) rfl (n := 0) rfl ?_
  refine x_bipush (zdm d_Piece_init_0 12 rfl) (by decide) ?_
  refine x_newaI (c := 66) (zdm d_Piece_init_0 13 rfl) wa_int (zwo (by decide) zvs2) (c' := 67) (by decide) rfl (by decide) (Nat.le_of_ble_eq_true rfl) (Nat.le_of_ble_eq_true rfl) ?_
  refine x_putF (zdm d_Piece_init_0 14 rfl) f_Piece_22 rfl ⟨_, _, rfl⟩ rfl ⟨rfl, trivial⟩ rfl ?_
  refine x_aload_n (zdm d_Piece_init_0 15 rfl) rfl (n := 0) rfl ?_
  refine x_bipush (zdm d_Piece_init_0 16 rfl) (by decide) ?_
  refine x_newaI (c := 67) (zdm d_Piece_init_0 17 rfl) wa_int (zwo (by decide) zvs2) (c' := 68) (by decide) rfl (by decide) (Nat.le_of_ble_eq_true rfl) (Nat.le_of_ble_eq_true rfl) ?_
  refine x_putF (zdm d_Piece_init_0 18 rfl) f_Piece_25 rfl ⟨_, _, rfl⟩ rfl ⟨rfl, trivial⟩ rfl ?_
  refine x_aload_n (zdm d_Piece_init_0 19 rfl) rfl (n := 0) rfl ?_
  refine x_sipush (zdm d_Piece_init_0 20 rfl) (by decide) ?_
  refine x_newaI (c := 68) (zdm d_Piece_init_0 21 rfl) wa_int (zwo (by decide) zvs2) (c' := 69) (by decide) rfl (by decide) (Nat.le_of_ble_eq_true rfl) (Nat.le_of_ble_eq_true rfl) ?_
  refine x_putF (zdm d_Piece_init_0 22 rfl) f_Piece_28 rfl ⟨_, _, rfl⟩ rfl ⟨rfl, trivial⟩ rfl ?_
  refine x_aload_n (zdm d_Piece_init_0 23 rfl) rfl (n := 0) rfl ?_
  refine x_sipush (zdm d_Piece_init_0 24 rfl) (by decide) ?_
  refine x_newaI (c := 69) (zdm d_Piece_init_0 25 rfl) wa_int (zwo (by decide) zvs2) (c' := 70) (by decide) rfl (by decide) (Nat.le_of_ble_eq_true rfl) (Nat.le_of_ble_eq_true rfl) ?_
  refine x_putF (zdm d_Piece_init_0 26 rfl) f_Piece_31 rfl ⟨_, _, rfl⟩ rfl ⟨rfl, trivial⟩ rfl ?_
  refine x_aload_n (zdm d_Piece_init_0 27 rfl) rfl (n := 0) rfl ?_
  refine x_sipush (zdm d_Piece_init_0 28 rfl) (by decide) ?_
  refine x_newaI (c := 70) (zdm d_Piece_init_0 29 rfl) wa_int (zwo (by decide) zvs2) (c' := 71) (by decide) rfl (by decide) (Nat.le_of_ble_eq_true rfl) (Nat.le_of_ble_eq_true rfl) ?_
  refine x_putF (zdm d_Piece_init_0 30 rfl) f_Piece_34 rfl ⟨_, _, rfl⟩ rfl ⟨rfl, trivial⟩ rfl ?_
  refine x_aload_n (zdm d_Piece_init_0 31 rfl) rfl (n := 0) rfl ?_
  refine x_aload_n (zdm d_Piece_init_0 32 rfl) rfl (n := 1) rfl ?_
  refine x_putF (zdm d_Piece_init_0 33 rfl) f_Piece_37 rfl ⟨_, _, rfl⟩ rfl ⟨rfl, trivial⟩ rfl ?_
  exact x_return (zdm d_Piece_init_0 34 rfl) rfl q
def l_Reader_72 : List (Int × Int × Int) := [(72, 0, 2), (72, 6, 73), (72, 4, (-1)), (72, 1, 73), (73, 1, 75), (0, 0, 75), (73, 0, 74), (0, 0, 74), (0, 0, 73)]
set_option maxRecDepth 20000 in
set_option maxHeartbeats 4000000 in
theorem I_Reader_72 {G : zG} {h : Nat} {M : zM} {Q : Int → zM → Prop} (hc : M 0 0 = 72) (q : Q 0 (zvl2 l_Reader_72 M)) : zCt G (h + 2) 0 3 1667 y_Reader_init [(2, 72), (2, 2)] M Q := by
  refine zCt.of (by decide +kernel) (Nat.le_of_ble_eq_true rfl) ?_
  refine x_aload_n (zdm d_Reader_init_0 0 rfl) rfl (n := 0) rfl ?_
  refine x_objInit (zdm d_Reader_init_0 1 rfl) ko_Reader wob_i wob_c (by decide) (Nat.le_of_ble_eq_true rfl) ?_
  refine x_aload_n (zdm d_Reader_init_0 2 rfl) rfl (n := 0) rfl ?_
  refine x_new (c := 72) (zdm d_Reader_init_0 3 rfl) nw_Reader_9 hc (c' := 73) (by decide) rfl (Nat.le_of_ble_eq_true rfl) (Nat.le_of_ble_eq_true rfl) ?_
  refine x_dup (zdm d_Reader_init_0 4 rfl) z2n1 ?_
  refine x_callI (h := h + 1) (n := 0) (mc := 2) (ms := 1664) (Q1 := fun _ M' => M' = zwr (zwr (zwr (zwr _ 0 0 74) 73 0 74) 0 0 75) 73 1 75) (zdm d_Reader_init_0 5 rfl) ki_Reader_11 (As := []) rfl rfl (by decide) (Nat.le_of_ble_eq_true rfl) (Nat.le_of_ble_eq_true rfl) (Nat.le_of_ble_eq_true rfl) (I_Code (h := h + 0) (o := 73) (c := 73) zvs2 rfl rfl rfl rfl) (fun _ _ hM => ?_)
  subst hM
  refine x_putF (zdm d_Reader_init_0 6 rfl) f_Reader_12 rfl ⟨_, _, rfl⟩ rfl ⟨rfl, trivial⟩ rfl ?_
  refine x_aload_n (zdm d_Reader_init_0 7 rfl) rfl (n := 0) rfl ?_
  refine x_iconst (zdm d_Reader_init_0 8 rfl) (zIl rfl) ?_
  refine x_putf (zdm d_Reader_init_0 9 rfl) f_Reader_18 rfl ⟨rfl, trivial⟩ (Or.inr rfl) ?_
  refine x_aload_n (zdm d_Reader_init_0 10 rfl) rfl (n := 0) rfl ?_
  refine x_aload_n (zdm d_Reader_init_0 11 rfl) rfl (n := 0) rfl ?_
  refine x_getV (zdm d_Reader_init_0 12 rfl) f_Reader_12 rfl (t := 2) (v := 73) rfl (zwk (by decide) (zwr_s _ _ _ _)) ?_
  refine x_putf (zdm d_Reader_init_0 13 rfl) f_Reader_22 rfl ⟨rfl, trivial⟩ (Or.inr rfl) ?_
  refine x_aload_n (zdm d_Reader_init_0 14 rfl) rfl (n := 0) rfl ?_
  refine x_aload_n (zdm d_Reader_init_0 15 rfl) rfl (n := 1) rfl ?_
  refine x_putF (zdm d_Reader_init_0 16 rfl) f_Reader_25 rfl ⟨_, _, rfl⟩ rfl ⟨rfl, trivial⟩ rfl ?_
  exact x_return (zdm d_Reader_init_0 17 rfl) rfl q
def l_Question_76 : List (Int × Int × Int) := [(76, 2, 13), (76, 1, 8), (76, 0, 4)]
set_option maxRecDepth 20000 in
set_option maxHeartbeats 4000000 in
theorem I_Question_76 {G : zG} {h : Nat} {M : zM} {Q : Int → zM → Prop} (hc : M 0 0 = 76) (q : Q 0 (zvl2 l_Question_76 M)) : zCt G (h + 2) 0 0 0 y_Question_init [(2, 76), (2, 4), (2, 8), (2, 13)] M Q := by
  refine zCt.of (by decide +kernel) (Nat.le_of_ble_eq_true rfl) ?_
  refine x_aload_n (zdm d_Question_init_0 0 rfl) rfl (n := 0) rfl ?_
  refine x_callI (h := h + 1) (n := 0) (mc := 0) (ms := 0) (Q1 := fun _ M' => M' = _) (zdm d_Question_init_0 1 rfl) ki_Question_3 (As := []) rfl rfl (by decide) (Nat.le_of_ble_eq_true rfl) (Nat.le_of_ble_eq_true rfl) (Nat.le_of_ble_eq_true rfl) (I_Scene (h := h + 0) (o := 76) (by decide) rfl) (fun _ _ hM => ?_)
  subst hM
  refine x_aload_n (zdm d_Question_init_0 2 rfl) rfl (n := 0) rfl ?_
  refine x_aload_n (zdm d_Question_init_0 3 rfl) rfl (n := 1) rfl ?_
  refine x_putF (zdm d_Question_init_0 4 rfl) f_Question_9 rfl ⟨_, _, rfl⟩ rfl ⟨rfl, trivial⟩ rfl ?_
  refine x_aload_n (zdm d_Question_init_0 5 rfl) rfl (n := 0) rfl ?_
  refine x_aload_n (zdm d_Question_init_0 6 rfl) rfl (n := 2) rfl ?_
  refine x_putF (zdm d_Question_init_0 7 rfl) f_Question_15 rfl ⟨_, _, rfl⟩ rfl ⟨rfl, trivial⟩ rfl ?_
  refine x_aload_n (zdm d_Question_init_0 8 rfl) rfl (n := 0) rfl ?_
  refine x_aload_n (zdm d_Question_init_0 9 rfl) rfl (n := 3) rfl ?_
  refine x_putF (zdm d_Question_init_0 10 rfl) f_Question_19 rfl ⟨_, _, rfl⟩ rfl ⟨rfl, trivial⟩ rfl ?_
  exact x_return (zdm d_Question_init_0 11 rfl) rfl q
def l_Tablet_79 : List (Int × Int × Int) := [(80, 7, 100), (100, 0, 101), (0, 0, 101), (0, 0, 100), (80, 6, 98), (98, 0, 99), (0, 0, 99), (0, 0, 98), (80, 5, 96), (96, 0, 97), (0, 0, 97), (0, 0, 96), (80, 4, 94), (94, 0, 95), (0, 0, 95), (0, 0, 94), (80, 3, 92), (92, 0, 93), (0, 0, 93), (0, 0, 92), (80, 2, 90), (90, 0, 91), (0, 0, 91), (0, 0, 90), (80, 1, 88), (88, 0, 89), (0, 0, 89), (0, 0, 88), (80, 0, 86), (86, 0, 87), (0, 0, 87), (0, 0, 86), (79, 8, 84), (84, 0, 85), (0, 0, 85), (0, 0, 84), (79, 1, 81), (81, 1, 83), (0, 0, 83), (81, 0, 82), (0, 0, 82), (0, 0, 81), (79, 0, 80), (0, 0, 80)]
set_option maxRecDepth 20000 in
set_option maxHeartbeats 4000000 in
theorem I_Tablet_79 {G : zG} {h : Nat} {M : zM} {Q : Int → zM → Prop} (hc : M 0 0 = 79) (q : Q 0 (zvl2 l_Tablet_79 M)) : zCt G (h + 2) 0 22 1822 y_Tablet_init [(2, 79)] M Q := by
  refine zCt.of (by decide +kernel) (Nat.le_of_ble_eq_true rfl) ?_
  refine x_aload_n (zdm d_Tablet_init_0 0 rfl) rfl (n := 0) rfl ?_
  refine x_callI (h := h + 1) (n := 0) (mc := 0) (ms := 0) (Q1 := fun _ M' => M' = _) (zdm d_Tablet_init_0 1 rfl) ki_Tablet_3 (As := []) rfl rfl (by decide) (Nat.le_of_ble_eq_true rfl) (Nat.le_of_ble_eq_true rfl) (Nat.le_of_ble_eq_true rfl) (I_Scene (h := h + 0) (o := 79) (by decide) rfl) (fun _ _ hM => ?_)
  subst hM
  refine x_aload_n (zdm d_Tablet_init_0 2 rfl) rfl (n := 0) rfl ?_
  refine x_bipush (zdm d_Tablet_init_0 3 rfl) (by decide) ?_
  refine x_anew5 (c := 79) (zdm d_Tablet_init_0 4 rfl) wl_Tablet_9 wo_Column hc (c' := 80) (by decide) rfl (by decide) (Nat.le_of_ble_eq_true rfl) (Nat.le_of_ble_eq_true rfl) ?_
  refine x_putF (zdm d_Tablet_init_0 5 rfl) f_Tablet_11 rfl ⟨_, _, rfl⟩ rfl ⟨rfl, trivial⟩ rfl ?_
  refine x_aload_n (zdm d_Tablet_init_0 6 rfl) rfl (n := 0) rfl ?_
  refine x_new (c := 80) (zdm d_Tablet_init_0 7 rfl) nw_Tablet_17 (zwo (by decide) zvs2) (c' := 81) (by decide) rfl (Nat.le_of_ble_eq_true rfl) (Nat.le_of_ble_eq_true rfl) ?_
  refine x_dup (zdm d_Tablet_init_0 8 rfl) z2n1 ?_
  refine x_callI (h := h + 1) (n := 0) (mc := 2) (ms := 1664) (Q1 := fun _ M' => M' = zwr (zwr (zwr (zwr _ 0 0 82) 81 0 82) 0 0 83) 81 1 83) (zdm d_Tablet_init_0 9 rfl) ki_Tablet_19 (As := []) rfl rfl (by decide) (Nat.le_of_ble_eq_true rfl) (Nat.le_of_ble_eq_true rfl) (Nat.le_of_ble_eq_true rfl) (I_Code (h := h + 0) (o := 81) (c := 81) zvs2 rfl rfl rfl rfl) (fun _ _ hM => ?_)
  subst hM
  refine x_putF (zdm d_Tablet_init_0 10 rfl) f_Tablet_20 rfl ⟨_, _, rfl⟩ rfl ⟨rfl, trivial⟩ rfl ?_
  refine x_aload_n (zdm d_Tablet_init_0 11 rfl) rfl (n := 0) rfl ?_
  refine x_new (c := 83) (zdm d_Tablet_init_0 12 rfl) nw_Tablet_24 (zwo (by decide) (zwo (by decide) zvs2)) (c' := 84) (by decide) rfl (Nat.le_of_ble_eq_true rfl) (Nat.le_of_ble_eq_true rfl) ?_
  refine x_dup (zdm d_Tablet_init_0 13 rfl) z2n1 ?_
  refine x_callI (h := h + 1) (n := 0) (mc := 1) (ms := 8) (Q1 := fun _ M' => M' = zwr (zwr _ 0 0 85) 84 0 85) (zdm d_Tablet_init_0 14 rfl) ki_Tablet_26 (As := []) rfl rfl (by decide) (Nat.le_of_ble_eq_true rfl) (Nat.le_of_ble_eq_true rfl) (Nat.le_of_ble_eq_true rfl) (I_Line (h := h + 0) (o := 84) (c := 84) zvs2 rfl rfl rfl) (fun _ _ hM => ?_)
  subst hM
  refine x_putf (zdm d_Tablet_init_0 15 rfl) f_Tablet_27 rfl ⟨rfl, trivial⟩ (Or.inr rfl) ?_
  refine x_iconst (zdm d_Tablet_init_0 16 rfl) (zIl rfl) ?_
  refine x_istore_n (zdm d_Tablet_init_0 17 rfl) rfl (zlt rfl) rfl ?_
  refine x_iload_n (zdm d_Tablet_init_0 18 rfl) rfl (n := 0) rfl ?_
  refine x_bipush (zdm d_Tablet_init_0 19 rfl) (by decide) ?_
  refine x_icmpgeF (tgt := 62) (zdm d_Tablet_init_0 20 rfl) (by decide) (by decide) ?_
  refine x_aload_n (zdm d_Tablet_init_0 21 rfl) rfl (n := 1) rfl ?_
  refine x_getV (zdm d_Tablet_init_0 22 rfl) f_Tablet_11 rfl (t := 2) (v := 80) rfl (zwk (by decide) (zwk (by decide) (zwk (by decide) (zwk (by decide) (zwk (by decide) (zwk (by decide) (zwk (by decide) (zwk (by decide) (zwk (by decide) (zwk (by decide) (zwr_s _ _ _ _))))))))))) ?_
  refine x_iload_n (zdm d_Tablet_init_0 23 rfl) rfl (n := 0) rfl ?_
  refine x_new (c := 85) (zdm d_Tablet_init_0 24 rfl) nw_Tablet_9 (zwo (by decide) (zwo (by decide) zvs2)) (c' := 86) (by decide) rfl (Nat.le_of_ble_eq_true rfl) (Nat.le_of_ble_eq_true rfl) ?_
  refine x_dup (zdm d_Tablet_init_0 25 rfl) z2n1 ?_
  refine x_callI (h := h + 1) (n := 0) (mc := 1) (ms := 6) (Q1 := fun _ M' => M' = zwr (zwr _ 0 0 87) 86 0 87) (zdm d_Tablet_init_0 26 rfl) ki_Tablet_31 (As := []) rfl rfl (by decide) (Nat.le_of_ble_eq_true rfl) (Nat.le_of_ble_eq_true rfl) (Nat.le_of_ble_eq_true rfl) (I_Column (h := h + 0) (o := 86) (c := 86) zvs2 rfl rfl rfl) (fun _ _ hM => ?_)
  subst hM
  refine x_aast5 (zdm d_Tablet_init_0 27 rfl) rfl (by decide) rfl ⟨_, _, rfl⟩ rfl ?_
  refine x_iincV (zdm d_Tablet_init_0 28 rfl) (n := 0) rfl (z := 1) (by decide) (zIl rfl) (zlt rfl) rfl ?_
  refine x_goto (tgt := 37) (zdm d_Tablet_init_0 29 rfl) (by decide) ?_
  refine x_iload_n (zdm d_Tablet_init_0 18 rfl) rfl (n := 0) rfl ?_
  refine x_bipush (zdm d_Tablet_init_0 19 rfl) (by decide) ?_
  refine x_icmpgeF (tgt := 62) (zdm d_Tablet_init_0 20 rfl) (by decide) (by decide) ?_
  refine x_aload_n (zdm d_Tablet_init_0 21 rfl) rfl (n := 1) rfl ?_
  refine x_getV (zdm d_Tablet_init_0 22 rfl) f_Tablet_11 rfl (t := 2) (v := 80) rfl (zwk (by decide) (zwk (by decide) (zwk (by decide) (zwk (by decide) (zwk (by decide) (zwk (by decide) (zwk (by decide) (zwk (by decide) (zwk (by decide) (zwk (by decide) (zwk (by decide) (zwk (by decide) (zwk (by decide) (zwk (by decide) (zwr_s _ _ _ _))))))))))))))) ?_
  refine x_iload_n (zdm d_Tablet_init_0 23 rfl) rfl (n := 0) rfl ?_
  refine x_new (c := 87) (zdm d_Tablet_init_0 24 rfl) nw_Tablet_9 (zwo (by decide) (zwo (by decide) zvs2)) (c' := 88) (by decide) rfl (Nat.le_of_ble_eq_true rfl) (Nat.le_of_ble_eq_true rfl) ?_
  refine x_dup (zdm d_Tablet_init_0 25 rfl) z2n1 ?_
  refine x_callI (h := h + 1) (n := 0) (mc := 1) (ms := 6) (Q1 := fun _ M' => M' = zwr (zwr _ 0 0 89) 88 0 89) (zdm d_Tablet_init_0 26 rfl) ki_Tablet_31 (As := []) rfl rfl (by decide) (Nat.le_of_ble_eq_true rfl) (Nat.le_of_ble_eq_true rfl) (Nat.le_of_ble_eq_true rfl) (I_Column (h := h + 0) (o := 88) (c := 88) zvs2 rfl rfl rfl) (fun _ _ hM => ?_)
  subst hM
  refine x_aast5 (zdm d_Tablet_init_0 27 rfl) rfl (by decide) rfl ⟨_, _, rfl⟩ rfl ?_
  refine x_iincV (zdm d_Tablet_init_0 28 rfl) (n := 0) rfl (z := 2) (by decide) (zIl rfl) (zlt rfl) rfl ?_
  refine x_goto (tgt := 37) (zdm d_Tablet_init_0 29 rfl) (by decide) ?_
  refine x_iload_n (zdm d_Tablet_init_0 18 rfl) rfl (n := 0) rfl ?_
  refine x_bipush (zdm d_Tablet_init_0 19 rfl) (by decide) ?_
  refine x_icmpgeF (tgt := 62) (zdm d_Tablet_init_0 20 rfl) (by decide) (by decide) ?_
  refine x_aload_n (zdm d_Tablet_init_0 21 rfl) rfl (n := 1) rfl ?_
  refine x_getV (zdm d_Tablet_init_0 22 rfl) f_Tablet_11 rfl (t := 2) (v := 80) rfl (zwk (by decide) (zwk (by decide) (zwk (by decide) (zwk (by decide) (zwk (by decide) (zwk (by decide) (zwk (by decide) (zwk (by decide) (zwk (by decide) (zwk (by decide) (zwk (by decide) (zwk (by decide) (zwk (by decide) (zwk (by decide) (zwk (by decide) (zwk (by decide) (zwk (by decide) (zwk (by decide) (zwr_s _ _ _ _))))))))))))))))))) ?_
  refine x_iload_n (zdm d_Tablet_init_0 23 rfl) rfl (n := 0) rfl ?_
  refine x_new (c := 89) (zdm d_Tablet_init_0 24 rfl) nw_Tablet_9 (zwo (by decide) (zwo (by decide) zvs2)) (c' := 90) (by decide) rfl (Nat.le_of_ble_eq_true rfl) (Nat.le_of_ble_eq_true rfl) ?_
  refine x_dup (zdm d_Tablet_init_0 25 rfl) z2n1 ?_
  refine x_callI (h := h + 1) (n := 0) (mc := 1) (ms := 6) (Q1 := fun _ M' => M' = zwr (zwr _ 0 0 91) 90 0 91) (zdm d_Tablet_init_0 26 rfl) ki_Tablet_31 (As := []) rfl rfl (by decide) (Nat.le_of_ble_eq_true rfl) (Nat.le_of_ble_eq_true rfl) (Nat.le_of_ble_eq_true rfl) (I_Column (h := h + 0) (o := 90) (c := 90) zvs2 rfl rfl rfl) (fun _ _ hM => ?_)
  subst hM
  refine x_aast5 (zdm d_Tablet_init_0 27 rfl) rfl (by decide) rfl ⟨_, _, rfl⟩ rfl ?_
  refine x_iincV (zdm d_Tablet_init_0 28 rfl) (n := 0) rfl (z := 3) (by decide) (zIl rfl) (zlt rfl) rfl ?_
  refine x_goto (tgt := 37) (zdm d_Tablet_init_0 29 rfl) (by decide) ?_
  refine x_iload_n (zdm d_Tablet_init_0 18 rfl) rfl (n := 0) rfl ?_
  refine x_bipush (zdm d_Tablet_init_0 19 rfl) (by decide) ?_
  refine x_icmpgeF (tgt := 62) (zdm d_Tablet_init_0 20 rfl) (by decide) (by decide) ?_
  refine x_aload_n (zdm d_Tablet_init_0 21 rfl) rfl (n := 1) rfl ?_
  refine x_getV (zdm d_Tablet_init_0 22 rfl) f_Tablet_11 rfl (t := 2) (v := 80) rfl (zwk (by decide) (zwk (by decide) (zwk (by decide) (zwk (by decide) (zwk (by decide) (zwk (by decide) (zwk (by decide) (zwk (by decide) (zwk (by decide) (zwk (by decide) (zwk (by decide) (zwk (by decide) (zwk (by decide) (zwk (by decide) (zwk (by decide) (zwk (by decide) (zwk (by decide) (zwk (by decide) (zwk (by decide) (zwk (by decide) (zwk (by decide) (zwk (by decide) (zwr_s _ _ _ _))))))))))))))))))))))) ?_
  refine x_iload_n (zdm d_Tablet_init_0 23 rfl) rfl (n := 0) rfl ?_
  refine x_new (c := 91) (zdm d_Tablet_init_0 24 rfl) nw_Tablet_9 (zwo (by decide) (zwo (by decide) zvs2)) (c' := 92) (by decide) rfl (Nat.le_of_ble_eq_true rfl) (Nat.le_of_ble_eq_true rfl) ?_
  refine x_dup (zdm d_Tablet_init_0 25 rfl) z2n1 ?_
  refine x_callI (h := h + 1) (n := 0) (mc := 1) (ms := 6) (Q1 := fun _ M' => M' = zwr (zwr _ 0 0 93) 92 0 93) (zdm d_Tablet_init_0 26 rfl) ki_Tablet_31 (As := []) rfl rfl (by decide) (Nat.le_of_ble_eq_true rfl) (Nat.le_of_ble_eq_true rfl) (Nat.le_of_ble_eq_true rfl) (I_Column (h := h + 0) (o := 92) (c := 92) zvs2 rfl rfl rfl) (fun _ _ hM => ?_)
  subst hM
  refine x_aast5 (zdm d_Tablet_init_0 27 rfl) rfl (by decide) rfl ⟨_, _, rfl⟩ rfl ?_
  refine x_iincV (zdm d_Tablet_init_0 28 rfl) (n := 0) rfl (z := 4) (by decide) (zIl rfl) (zlt rfl) rfl ?_
  refine x_goto (tgt := 37) (zdm d_Tablet_init_0 29 rfl) (by decide) ?_
  refine x_iload_n (zdm d_Tablet_init_0 18 rfl) rfl (n := 0) rfl ?_
  refine x_bipush (zdm d_Tablet_init_0 19 rfl) (by decide) ?_
  refine x_icmpgeF (tgt := 62) (zdm d_Tablet_init_0 20 rfl) (by decide) (by decide) ?_
  refine x_aload_n (zdm d_Tablet_init_0 21 rfl) rfl (n := 1) rfl ?_
  refine x_getV (zdm d_Tablet_init_0 22 rfl) f_Tablet_11 rfl (t := 2) (v := 80) rfl (zwk (by decide) (zwk (by decide) (zwk (by decide) (zwk (by decide) (zwk (by decide) (zwk (by decide) (zwk (by decide) (zwk (by decide) (zwk (by decide) (zwk (by decide) (zwk (by decide) (zwk (by decide) (zwk (by decide) (zwk (by decide) (zwk (by decide) (zwk (by decide) (zwk (by decide) (zwk (by decide) (zwk (by decide) (zwk (by decide) (zwk (by decide) (zwk (by decide) (zwk (by decide) (zwk (by decide) (zwk (by decide) (zwk (by decide) (zwr_s _ _ _ _))))))))))))))))))))))))))) ?_
  refine x_iload_n (zdm d_Tablet_init_0 23 rfl) rfl (n := 0) rfl ?_
  refine x_new (c := 93) (zdm d_Tablet_init_0 24 rfl) nw_Tablet_9 (zwo (by decide) (zwo (by decide) zvs2)) (c' := 94) (by decide) rfl (Nat.le_of_ble_eq_true rfl) (Nat.le_of_ble_eq_true rfl) ?_
  refine x_dup (zdm d_Tablet_init_0 25 rfl) z2n1 ?_
  refine x_callI (h := h + 1) (n := 0) (mc := 1) (ms := 6) (Q1 := fun _ M' => M' = zwr (zwr _ 0 0 95) 94 0 95) (zdm d_Tablet_init_0 26 rfl) ki_Tablet_31 (As := []) rfl rfl (by decide) (Nat.le_of_ble_eq_true rfl) (Nat.le_of_ble_eq_true rfl) (Nat.le_of_ble_eq_true rfl) (I_Column (h := h + 0) (o := 94) (c := 94) zvs2 rfl rfl rfl) (fun _ _ hM => ?_)
  subst hM
  refine x_aast5 (zdm d_Tablet_init_0 27 rfl) rfl (by decide) rfl ⟨_, _, rfl⟩ rfl ?_
  refine x_iincV (zdm d_Tablet_init_0 28 rfl) (n := 0) rfl (z := 5) (by decide) (zIl rfl) (zlt rfl) rfl ?_
  refine x_goto (tgt := 37) (zdm d_Tablet_init_0 29 rfl) (by decide) ?_
  refine x_iload_n (zdm d_Tablet_init_0 18 rfl) rfl (n := 0) rfl ?_
  refine x_bipush (zdm d_Tablet_init_0 19 rfl) (by decide) ?_
  refine x_icmpgeF (tgt := 62) (zdm d_Tablet_init_0 20 rfl) (by decide) (by decide) ?_
  refine x_aload_n (zdm d_Tablet_init_0 21 rfl) rfl (n := 1) rfl ?_
  refine x_getV (zdm d_Tablet_init_0 22 rfl) f_Tablet_11 rfl (t := 2) (v := 80) rfl (zwk (by decide) (zwk (by decide) (zwk (by decide) (zwk (by decide) (zwk (by decide) (zwk (by decide) (zwk (by decide) (zwk (by decide) (zwk (by decide) (zwk (by decide) (zwk (by decide) (zwk (by decide) (zwk (by decide) (zwk (by decide) (zwk (by decide) (zwk (by decide) (zwk (by decide) (zwk (by decide) (zwk (by decide) (zwk (by decide) (zwk (by decide) (zwk (by decide) (zwk (by decide) (zwk (by decide) (zwk (by decide) (zwk (by decide) (zwk (by decide) (zwk (by decide) (zwk (by decide) (zwk (by decide) (zwr_s _ _ _ _))))))))))))))))))))))))))))))) ?_
  refine x_iload_n (zdm d_Tablet_init_0 23 rfl) rfl (n := 0) rfl ?_
  refine x_new (c := 95) (zdm d_Tablet_init_0 24 rfl) nw_Tablet_9 (zwo (by decide) (zwo (by decide) zvs2)) (c' := 96) (by decide) rfl (Nat.le_of_ble_eq_true rfl) (Nat.le_of_ble_eq_true rfl) ?_
  refine x_dup (zdm d_Tablet_init_0 25 rfl) z2n1 ?_
  refine x_callI (h := h + 1) (n := 0) (mc := 1) (ms := 6) (Q1 := fun _ M' => M' = zwr (zwr _ 0 0 97) 96 0 97) (zdm d_Tablet_init_0 26 rfl) ki_Tablet_31 (As := []) rfl rfl (by decide) (Nat.le_of_ble_eq_true rfl) (Nat.le_of_ble_eq_true rfl) (Nat.le_of_ble_eq_true rfl) (I_Column (h := h + 0) (o := 96) (c := 96) zvs2 rfl rfl rfl) (fun _ _ hM => ?_)
  subst hM
  refine x_aast5 (zdm d_Tablet_init_0 27 rfl) rfl (by decide) rfl ⟨_, _, rfl⟩ rfl ?_
  refine x_iincV (zdm d_Tablet_init_0 28 rfl) (n := 0) rfl (z := 6) (by decide) (zIl rfl) (zlt rfl) rfl ?_
  refine x_goto (tgt := 37) (zdm d_Tablet_init_0 29 rfl) (by decide) ?_
  refine x_iload_n (zdm d_Tablet_init_0 18 rfl) rfl (n := 0) rfl ?_
  refine x_bipush (zdm d_Tablet_init_0 19 rfl) (by decide) ?_
  refine x_icmpgeF (tgt := 62) (zdm d_Tablet_init_0 20 rfl) (by decide) (by decide) ?_
  refine x_aload_n (zdm d_Tablet_init_0 21 rfl) rfl (n := 1) rfl ?_
  refine x_getV (zdm d_Tablet_init_0 22 rfl) f_Tablet_11 rfl (t := 2) (v := 80) rfl (zwk (by decide) (zwk (by decide) (zwk (by decide) (zwk (by decide) (zwk (by decide) (zwk (by decide) (zwk (by decide) (zwk (by decide) (zwk (by decide) (zwk (by decide) (zwk (by decide) (zwk (by decide) (zwk (by decide) (zwk (by decide) (zwk (by decide) (zwk (by decide) (zwk (by decide) (zwk (by decide) (zwk (by decide) (zwk (by decide) (zwk (by decide) (zwk (by decide) (zwk (by decide) (zwk (by decide) (zwk (by decide) (zwk (by decide) (zwk (by decide) (zwk (by decide) (zwk (by decide) (zwk (by decide) (zwk (by decide) (zwk (by decide) (zwk (by decide) (zwk (by decide) (zwr_s _ _ _ _))))))))))))))))))))))))))))))))))) ?_
  refine x_iload_n (zdm d_Tablet_init_0 23 rfl) rfl (n := 0) rfl ?_
  refine x_new (c := 97) (zdm d_Tablet_init_0 24 rfl) nw_Tablet_9 (zwo (by decide) (zwo (by decide) zvs2)) (c' := 98) (by decide) rfl (Nat.le_of_ble_eq_true rfl) (Nat.le_of_ble_eq_true rfl) ?_
  refine x_dup (zdm d_Tablet_init_0 25 rfl) z2n1 ?_
  refine x_callI (h := h + 1) (n := 0) (mc := 1) (ms := 6) (Q1 := fun _ M' => M' = zwr (zwr _ 0 0 99) 98 0 99) (zdm d_Tablet_init_0 26 rfl) ki_Tablet_31 (As := []) rfl rfl (by decide) (Nat.le_of_ble_eq_true rfl) (Nat.le_of_ble_eq_true rfl) (Nat.le_of_ble_eq_true rfl) (I_Column (h := h + 0) (o := 98) (c := 98) zvs2 rfl rfl rfl) (fun _ _ hM => ?_)
  subst hM
  refine x_aast5 (zdm d_Tablet_init_0 27 rfl) rfl (by decide) rfl ⟨_, _, rfl⟩ rfl ?_
  refine x_iincV (zdm d_Tablet_init_0 28 rfl) (n := 0) rfl (z := 7) (by decide) (zIl rfl) (zlt rfl) rfl ?_
  refine x_goto (tgt := 37) (zdm d_Tablet_init_0 29 rfl) (by decide) ?_
  refine x_iload_n (zdm d_Tablet_init_0 18 rfl) rfl (n := 0) rfl ?_
  refine x_bipush (zdm d_Tablet_init_0 19 rfl) (by decide) ?_
  refine x_icmpgeF (tgt := 62) (zdm d_Tablet_init_0 20 rfl) (by decide) (by decide) ?_
  refine x_aload_n (zdm d_Tablet_init_0 21 rfl) rfl (n := 1) rfl ?_
  refine x_getV (zdm d_Tablet_init_0 22 rfl) f_Tablet_11 rfl (t := 2) (v := 80) rfl (zwk (by decide) (zwk (by decide) (zwk (by decide) (zwk (by decide) (zwk (by decide) (zwk (by decide) (zwk (by decide) (zwk (by decide) (zwk (by decide) (zwk (by decide) (zwk (by decide) (zwk (by decide) (zwk (by decide) (zwk (by decide) (zwk (by decide) (zwk (by decide) (zwk (by decide) (zwk (by decide) (zwk (by decide) (zwk (by decide) (zwk (by decide) (zwk (by decide) (zwk (by decide) (zwk (by decide) (zwk (by decide) (zwk (by decide) (zwk (by decide) (zwk (by decide) (zwk (by decide) (zwk (by decide) (zwk (by decide) (zwk (by decide) (zwk (by decide) (zwk (by decide) (zwk (by decide) (zwk (by decide) (zwk (by decide) (zwk (by decide) (zwr_s _ _ _ _))))))))))))))))))))))))))))))))))))))) ?_
  refine x_iload_n (zdm d_Tablet_init_0 23 rfl) rfl (n := 0) rfl ?_
  refine x_new (c := 99) (zdm d_Tablet_init_0 24 rfl) nw_Tablet_9 (zwo (by decide) (zwo (by decide) zvs2)) (c' := 100) (by decide) rfl (Nat.le_of_ble_eq_true rfl) (Nat.le_of_ble_eq_true rfl) ?_
  refine x_dup (zdm d_Tablet_init_0 25 rfl) z2n1 ?_
  refine x_callI (h := h + 1) (n := 0) (mc := 1) (ms := 6) (Q1 := fun _ M' => M' = zwr (zwr _ 0 0 101) 100 0 101) (zdm d_Tablet_init_0 26 rfl) ki_Tablet_31 (As := []) rfl rfl (by decide) (Nat.le_of_ble_eq_true rfl) (Nat.le_of_ble_eq_true rfl) (Nat.le_of_ble_eq_true rfl) (I_Column (h := h + 0) (o := 100) (c := 100) zvs2 rfl rfl rfl) (fun _ _ hM => ?_)
  subst hM
  refine x_aast5 (zdm d_Tablet_init_0 27 rfl) rfl (by decide) rfl ⟨_, _, rfl⟩ rfl ?_
  refine x_iincV (zdm d_Tablet_init_0 28 rfl) (n := 0) rfl (z := 8) (by decide) (zIl rfl) (zlt rfl) rfl ?_
  refine x_goto (tgt := 37) (zdm d_Tablet_init_0 29 rfl) (by decide) ?_
  refine x_iload_n (zdm d_Tablet_init_0 18 rfl) rfl (n := 0) rfl ?_
  refine x_bipush (zdm d_Tablet_init_0 19 rfl) (by decide) ?_
  refine x_icmpgeT (tgt := 62) (zdm d_Tablet_init_0 20 rfl) (by decide) (by decide) ?_
  exact x_return (zdm d_Tablet_init_0 30 rfl) rfl q
def l_Tablet_102 : List (Int × Int × Int) := [(103, 7, 123), (123, 0, 124), (0, 0, 124), (0, 0, 123), (103, 6, 121), (121, 0, 122), (0, 0, 122), (0, 0, 121), (103, 5, 119), (119, 0, 120), (0, 0, 120), (0, 0, 119), (103, 4, 117), (117, 0, 118), (0, 0, 118), (0, 0, 117), (103, 3, 115), (115, 0, 116), (0, 0, 116), (0, 0, 115), (103, 2, 113), (113, 0, 114), (0, 0, 114), (0, 0, 113), (103, 1, 111), (111, 0, 112), (0, 0, 112), (0, 0, 111), (103, 0, 109), (109, 0, 110), (0, 0, 110), (0, 0, 109), (102, 8, 107), (107, 0, 108), (0, 0, 108), (0, 0, 107), (102, 1, 104), (104, 1, 106), (0, 0, 106), (104, 0, 105), (0, 0, 105), (0, 0, 104), (102, 0, 103), (0, 0, 103)]
set_option maxRecDepth 20000 in
set_option maxHeartbeats 4000000 in
theorem I_Tablet_102 {G : zG} {h : Nat} {M : zM} {Q : Int → zM → Prop} (hc : M 0 0 = 102) (q : Q 0 (zvl2 l_Tablet_102 M)) : zCt G (h + 2) 0 22 1822 y_Tablet_init [(2, 102)] M Q := by
  refine zCt.of (by decide +kernel) (Nat.le_of_ble_eq_true rfl) ?_
  refine x_aload_n (zdm d_Tablet_init_0 0 rfl) rfl (n := 0) rfl ?_
  refine x_callI (h := h + 1) (n := 0) (mc := 0) (ms := 0) (Q1 := fun _ M' => M' = _) (zdm d_Tablet_init_0 1 rfl) ki_Tablet_3 (As := []) rfl rfl (by decide) (Nat.le_of_ble_eq_true rfl) (Nat.le_of_ble_eq_true rfl) (Nat.le_of_ble_eq_true rfl) (I_Scene (h := h + 0) (o := 102) (by decide) rfl) (fun _ _ hM => ?_)
  subst hM
  refine x_aload_n (zdm d_Tablet_init_0 2 rfl) rfl (n := 0) rfl ?_
  refine x_bipush (zdm d_Tablet_init_0 3 rfl) (by decide) ?_
  refine x_anew5 (c := 102) (zdm d_Tablet_init_0 4 rfl) wl_Tablet_9 wo_Column hc (c' := 103) (by decide) rfl (by decide) (Nat.le_of_ble_eq_true rfl) (Nat.le_of_ble_eq_true rfl) ?_
  refine x_putF (zdm d_Tablet_init_0 5 rfl) f_Tablet_11 rfl ⟨_, _, rfl⟩ rfl ⟨rfl, trivial⟩ rfl ?_
  refine x_aload_n (zdm d_Tablet_init_0 6 rfl) rfl (n := 0) rfl ?_
  refine x_new (c := 103) (zdm d_Tablet_init_0 7 rfl) nw_Tablet_17 (zwo (by decide) zvs2) (c' := 104) (by decide) rfl (Nat.le_of_ble_eq_true rfl) (Nat.le_of_ble_eq_true rfl) ?_
  refine x_dup (zdm d_Tablet_init_0 8 rfl) z2n1 ?_
  refine x_callI (h := h + 1) (n := 0) (mc := 2) (ms := 1664) (Q1 := fun _ M' => M' = zwr (zwr (zwr (zwr _ 0 0 105) 104 0 105) 0 0 106) 104 1 106) (zdm d_Tablet_init_0 9 rfl) ki_Tablet_19 (As := []) rfl rfl (by decide) (Nat.le_of_ble_eq_true rfl) (Nat.le_of_ble_eq_true rfl) (Nat.le_of_ble_eq_true rfl) (I_Code (h := h + 0) (o := 104) (c := 104) zvs2 rfl rfl rfl rfl) (fun _ _ hM => ?_)
  subst hM
  refine x_putF (zdm d_Tablet_init_0 10 rfl) f_Tablet_20 rfl ⟨_, _, rfl⟩ rfl ⟨rfl, trivial⟩ rfl ?_
  refine x_aload_n (zdm d_Tablet_init_0 11 rfl) rfl (n := 0) rfl ?_
  refine x_new (c := 106) (zdm d_Tablet_init_0 12 rfl) nw_Tablet_24 (zwo (by decide) (zwo (by decide) zvs2)) (c' := 107) (by decide) rfl (Nat.le_of_ble_eq_true rfl) (Nat.le_of_ble_eq_true rfl) ?_
  refine x_dup (zdm d_Tablet_init_0 13 rfl) z2n1 ?_
  refine x_callI (h := h + 1) (n := 0) (mc := 1) (ms := 8) (Q1 := fun _ M' => M' = zwr (zwr _ 0 0 108) 107 0 108) (zdm d_Tablet_init_0 14 rfl) ki_Tablet_26 (As := []) rfl rfl (by decide) (Nat.le_of_ble_eq_true rfl) (Nat.le_of_ble_eq_true rfl) (Nat.le_of_ble_eq_true rfl) (I_Line (h := h + 0) (o := 107) (c := 107) zvs2 rfl rfl rfl) (fun _ _ hM => ?_)
  subst hM
  refine x_putf (zdm d_Tablet_init_0 15 rfl) f_Tablet_27 rfl ⟨rfl, trivial⟩ (Or.inr rfl) ?_
  refine x_iconst (zdm d_Tablet_init_0 16 rfl) (zIl rfl) ?_
  refine x_istore_n (zdm d_Tablet_init_0 17 rfl) rfl (zlt rfl) rfl ?_
  refine x_iload_n (zdm d_Tablet_init_0 18 rfl) rfl (n := 0) rfl ?_
  refine x_bipush (zdm d_Tablet_init_0 19 rfl) (by decide) ?_
  refine x_icmpgeF (tgt := 62) (zdm d_Tablet_init_0 20 rfl) (by decide) (by decide) ?_
  refine x_aload_n (zdm d_Tablet_init_0 21 rfl) rfl (n := 1) rfl ?_
  refine x_getV (zdm d_Tablet_init_0 22 rfl) f_Tablet_11 rfl (t := 2) (v := 103) rfl (zwk (by decide) (zwk (by decide) (zwk (by decide) (zwk (by decide) (zwk (by decide) (zwk (by decide) (zwk (by decide) (zwk (by decide) (zwk (by decide) (zwk (by decide) (zwr_s _ _ _ _))))))))))) ?_
  refine x_iload_n (zdm d_Tablet_init_0 23 rfl) rfl (n := 0) rfl ?_
  refine x_new (c := 108) (zdm d_Tablet_init_0 24 rfl) nw_Tablet_9 (zwo (by decide) (zwo (by decide) zvs2)) (c' := 109) (by decide) rfl (Nat.le_of_ble_eq_true rfl) (Nat.le_of_ble_eq_true rfl) ?_
  refine x_dup (zdm d_Tablet_init_0 25 rfl) z2n1 ?_
  refine x_callI (h := h + 1) (n := 0) (mc := 1) (ms := 6) (Q1 := fun _ M' => M' = zwr (zwr _ 0 0 110) 109 0 110) (zdm d_Tablet_init_0 26 rfl) ki_Tablet_31 (As := []) rfl rfl (by decide) (Nat.le_of_ble_eq_true rfl) (Nat.le_of_ble_eq_true rfl) (Nat.le_of_ble_eq_true rfl) (I_Column (h := h + 0) (o := 109) (c := 109) zvs2 rfl rfl rfl) (fun _ _ hM => ?_)
  subst hM
  refine x_aast5 (zdm d_Tablet_init_0 27 rfl) rfl (by decide) rfl ⟨_, _, rfl⟩ rfl ?_
  refine x_iincV (zdm d_Tablet_init_0 28 rfl) (n := 0) rfl (z := 1) (by decide) (zIl rfl) (zlt rfl) rfl ?_
  refine x_goto (tgt := 37) (zdm d_Tablet_init_0 29 rfl) (by decide) ?_
  refine x_iload_n (zdm d_Tablet_init_0 18 rfl) rfl (n := 0) rfl ?_
  refine x_bipush (zdm d_Tablet_init_0 19 rfl) (by decide) ?_
  refine x_icmpgeF (tgt := 62) (zdm d_Tablet_init_0 20 rfl) (by decide) (by decide) ?_
  refine x_aload_n (zdm d_Tablet_init_0 21 rfl) rfl (n := 1) rfl ?_
  refine x_getV (zdm d_Tablet_init_0 22 rfl) f_Tablet_11 rfl (t := 2) (v := 103) rfl (zwk (by decide) (zwk (by decide) (zwk (by decide) (zwk (by decide) (zwk (by decide) (zwk (by decide) (zwk (by decide) (zwk (by decide) (zwk (by decide) (zwk (by decide) (zwk (by decide) (zwk (by decide) (zwk (by decide) (zwk (by decide) (zwr_s _ _ _ _))))))))))))))) ?_
  refine x_iload_n (zdm d_Tablet_init_0 23 rfl) rfl (n := 0) rfl ?_
  refine x_new (c := 110) (zdm d_Tablet_init_0 24 rfl) nw_Tablet_9 (zwo (by decide) (zwo (by decide) zvs2)) (c' := 111) (by decide) rfl (Nat.le_of_ble_eq_true rfl) (Nat.le_of_ble_eq_true rfl) ?_
  refine x_dup (zdm d_Tablet_init_0 25 rfl) z2n1 ?_
  refine x_callI (h := h + 1) (n := 0) (mc := 1) (ms := 6) (Q1 := fun _ M' => M' = zwr (zwr _ 0 0 112) 111 0 112) (zdm d_Tablet_init_0 26 rfl) ki_Tablet_31 (As := []) rfl rfl (by decide) (Nat.le_of_ble_eq_true rfl) (Nat.le_of_ble_eq_true rfl) (Nat.le_of_ble_eq_true rfl) (I_Column (h := h + 0) (o := 111) (c := 111) zvs2 rfl rfl rfl) (fun _ _ hM => ?_)
  subst hM
  refine x_aast5 (zdm d_Tablet_init_0 27 rfl) rfl (by decide) rfl ⟨_, _, rfl⟩ rfl ?_
  refine x_iincV (zdm d_Tablet_init_0 28 rfl) (n := 0) rfl (z := 2) (by decide) (zIl rfl) (zlt rfl) rfl ?_
  refine x_goto (tgt := 37) (zdm d_Tablet_init_0 29 rfl) (by decide) ?_
  refine x_iload_n (zdm d_Tablet_init_0 18 rfl) rfl (n := 0) rfl ?_
  refine x_bipush (zdm d_Tablet_init_0 19 rfl) (by decide) ?_
  refine x_icmpgeF (tgt := 62) (zdm d_Tablet_init_0 20 rfl) (by decide) (by decide) ?_
  refine x_aload_n (zdm d_Tablet_init_0 21 rfl) rfl (n := 1) rfl ?_
  refine x_getV (zdm d_Tablet_init_0 22 rfl) f_Tablet_11 rfl (t := 2) (v := 103) rfl (zwk (by decide) (zwk (by decide) (zwk (by decide) (zwk (by decide) (zwk (by decide) (zwk (by decide) (zwk (by decide) (zwk (by decide) (zwk (by decide) (zwk (by decide) (zwk (by decide) (zwk (by decide) (zwk (by decide) (zwk (by decide) (zwk (by decide) (zwk (by decide) (zwk (by decide) (zwk (by decide) (zwr_s _ _ _ _))))))))))))))))))) ?_
  refine x_iload_n (zdm d_Tablet_init_0 23 rfl) rfl (n := 0) rfl ?_
  refine x_new (c := 112) (zdm d_Tablet_init_0 24 rfl) nw_Tablet_9 (zwo (by decide) (zwo (by decide) zvs2)) (c' := 113) (by decide) rfl (Nat.le_of_ble_eq_true rfl) (Nat.le_of_ble_eq_true rfl) ?_
  refine x_dup (zdm d_Tablet_init_0 25 rfl) z2n1 ?_
  refine x_callI (h := h + 1) (n := 0) (mc := 1) (ms := 6) (Q1 := fun _ M' => M' = zwr (zwr _ 0 0 114) 113 0 114) (zdm d_Tablet_init_0 26 rfl) ki_Tablet_31 (As := []) rfl rfl (by decide) (Nat.le_of_ble_eq_true rfl) (Nat.le_of_ble_eq_true rfl) (Nat.le_of_ble_eq_true rfl) (I_Column (h := h + 0) (o := 113) (c := 113) zvs2 rfl rfl rfl) (fun _ _ hM => ?_)
  subst hM
  refine x_aast5 (zdm d_Tablet_init_0 27 rfl) rfl (by decide) rfl ⟨_, _, rfl⟩ rfl ?_
  refine x_iincV (zdm d_Tablet_init_0 28 rfl) (n := 0) rfl (z := 3) (by decide) (zIl rfl) (zlt rfl) rfl ?_
  refine x_goto (tgt := 37) (zdm d_Tablet_init_0 29 rfl) (by decide) ?_
  refine x_iload_n (zdm d_Tablet_init_0 18 rfl) rfl (n := 0) rfl ?_
  refine x_bipush (zdm d_Tablet_init_0 19 rfl) (by decide) ?_
  refine x_icmpgeF (tgt := 62) (zdm d_Tablet_init_0 20 rfl) (by decide) (by decide) ?_
  refine x_aload_n (zdm d_Tablet_init_0 21 rfl) rfl (n := 1) rfl ?_
  refine x_getV (zdm d_Tablet_init_0 22 rfl) f_Tablet_11 rfl (t := 2) (v := 103) rfl (zwk (by decide) (zwk (by decide) (zwk (by decide) (zwk (by decide) (zwk (by decide) (zwk (by decide) (zwk (by decide) (zwk (by decide) (zwk (by decide) (zwk (by decide) (zwk (by decide) (zwk (by decide) (zwk (by decide) (zwk (by decide) (zwk (by decide) (zwk (by decide) (zwk (by decide) (zwk (by decide) (zwk (by decide) (zwk (by decide) (zwk (by decide) (zwk (by decide) (zwr_s _ _ _ _))))))))))))))))))))))) ?_
  refine x_iload_n (zdm d_Tablet_init_0 23 rfl) rfl (n := 0) rfl ?_
  refine x_new (c := 114) (zdm d_Tablet_init_0 24 rfl) nw_Tablet_9 (zwo (by decide) (zwo (by decide) zvs2)) (c' := 115) (by decide) rfl (Nat.le_of_ble_eq_true rfl) (Nat.le_of_ble_eq_true rfl) ?_
  refine x_dup (zdm d_Tablet_init_0 25 rfl) z2n1 ?_
  refine x_callI (h := h + 1) (n := 0) (mc := 1) (ms := 6) (Q1 := fun _ M' => M' = zwr (zwr _ 0 0 116) 115 0 116) (zdm d_Tablet_init_0 26 rfl) ki_Tablet_31 (As := []) rfl rfl (by decide) (Nat.le_of_ble_eq_true rfl) (Nat.le_of_ble_eq_true rfl) (Nat.le_of_ble_eq_true rfl) (I_Column (h := h + 0) (o := 115) (c := 115) zvs2 rfl rfl rfl) (fun _ _ hM => ?_)
  subst hM
  refine x_aast5 (zdm d_Tablet_init_0 27 rfl) rfl (by decide) rfl ⟨_, _, rfl⟩ rfl ?_
  refine x_iincV (zdm d_Tablet_init_0 28 rfl) (n := 0) rfl (z := 4) (by decide) (zIl rfl) (zlt rfl) rfl ?_
  refine x_goto (tgt := 37) (zdm d_Tablet_init_0 29 rfl) (by decide) ?_
  refine x_iload_n (zdm d_Tablet_init_0 18 rfl) rfl (n := 0) rfl ?_
  refine x_bipush (zdm d_Tablet_init_0 19 rfl) (by decide) ?_
  refine x_icmpgeF (tgt := 62) (zdm d_Tablet_init_0 20 rfl) (by decide) (by decide) ?_
  refine x_aload_n (zdm d_Tablet_init_0 21 rfl) rfl (n := 1) rfl ?_
  refine x_getV (zdm d_Tablet_init_0 22 rfl) f_Tablet_11 rfl (t := 2) (v := 103) rfl (zwk (by decide) (zwk (by decide) (zwk (by decide) (zwk (by decide) (zwk (by decide) (zwk (by decide) (zwk (by decide) (zwk (by decide) (zwk (by decide) (zwk (by decide) (zwk (by decide) (zwk (by decide) (zwk (by decide) (zwk (by decide) (zwk (by decide) (zwk (by decide) (zwk (by decide) (zwk (by decide) (zwk (by decide) (zwk (by decide) (zwk (by decide) (zwk (by decide) (zwk (by decide) (zwk (by decide) (zwk (by decide) (zwk (by decide) (zwr_s _ _ _ _))))))))))))))))))))))))))) ?_
  refine x_iload_n (zdm d_Tablet_init_0 23 rfl) rfl (n := 0) rfl ?_
  refine x_new (c := 116) (zdm d_Tablet_init_0 24 rfl) nw_Tablet_9 (zwo (by decide) (zwo (by decide) zvs2)) (c' := 117) (by decide) rfl (Nat.le_of_ble_eq_true rfl) (Nat.le_of_ble_eq_true rfl) ?_
  refine x_dup (zdm d_Tablet_init_0 25 rfl) z2n1 ?_
  refine x_callI (h := h + 1) (n := 0) (mc := 1) (ms := 6) (Q1 := fun _ M' => M' = zwr (zwr _ 0 0 118) 117 0 118) (zdm d_Tablet_init_0 26 rfl) ki_Tablet_31 (As := []) rfl rfl (by decide) (Nat.le_of_ble_eq_true rfl) (Nat.le_of_ble_eq_true rfl) (Nat.le_of_ble_eq_true rfl) (I_Column (h := h + 0) (o := 117) (c := 117) zvs2 rfl rfl rfl) (fun _ _ hM => ?_)
  subst hM
  refine x_aast5 (zdm d_Tablet_init_0 27 rfl) rfl (by decide) rfl ⟨_, _, rfl⟩ rfl ?_
  refine x_iincV (zdm d_Tablet_init_0 28 rfl) (n := 0) rfl (z := 5) (by decide) (zIl rfl) (zlt rfl) rfl ?_
  refine x_goto (tgt := 37) (zdm d_Tablet_init_0 29 rfl) (by decide) ?_
  refine x_iload_n (zdm d_Tablet_init_0 18 rfl) rfl (n := 0) rfl ?_
  refine x_bipush (zdm d_Tablet_init_0 19 rfl) (by decide) ?_
  refine x_icmpgeF (tgt := 62) (zdm d_Tablet_init_0 20 rfl) (by decide) (by decide) ?_
  refine x_aload_n (zdm d_Tablet_init_0 21 rfl) rfl (n := 1) rfl ?_
  refine x_getV (zdm d_Tablet_init_0 22 rfl) f_Tablet_11 rfl (t := 2) (v := 103) rfl (zwk (by decide) (zwk (by decide) (zwk (by decide) (zwk (by decide) (zwk (by decide) (zwk (by decide) (zwk (by decide) (zwk (by decide) (zwk (by decide) (zwk (by decide) (zwk (by decide) (zwk (by decide) (zwk (by decide) (zwk (by decide) (zwk (by decide) (zwk (by decide) (zwk (by decide) (zwk (by decide) (zwk (by decide) (zwk (by decide) (zwk (by decide) (zwk (by decide) (zwk (by decide) (zwk (by decide) (zwk (by decide) (zwk (by decide) (zwk (by decide) (zwk (by decide) (zwk (by decide) (zwk (by decide) (zwr_s _ _ _ _))))))))))))))))))))))))))))))) ?_
  refine x_iload_n (zdm d_Tablet_init_0 23 rfl) rfl (n := 0) rfl ?_
  refine x_new (c := 118) (zdm d_Tablet_init_0 24 rfl) nw_Tablet_9 (zwo (by decide) (zwo (by decide) zvs2)) (c' := 119) (by decide) rfl (Nat.le_of_ble_eq_true rfl) (Nat.le_of_ble_eq_true rfl) ?_
  refine x_dup (zdm d_Tablet_init_0 25 rfl) z2n1 ?_
  refine x_callI (h := h + 1) (n := 0) (mc := 1) (ms := 6) (Q1 := fun _ M' => M' = zwr (zwr _ 0 0 120) 119 0 120) (zdm d_Tablet_init_0 26 rfl) ki_Tablet_31 (As := []) rfl rfl (by decide) (Nat.le_of_ble_eq_true rfl) (Nat.le_of_ble_eq_true rfl) (Nat.le_of_ble_eq_true rfl) (I_Column (h := h + 0) (o := 119) (c := 119) zvs2 rfl rfl rfl) (fun _ _ hM => ?_)
  subst hM
  refine x_aast5 (zdm d_Tablet_init_0 27 rfl) rfl (by decide) rfl ⟨_, _, rfl⟩ rfl ?_
  refine x_iincV (zdm d_Tablet_init_0 28 rfl) (n := 0) rfl (z := 6) (by decide) (zIl rfl) (zlt rfl) rfl ?_
  refine x_goto (tgt := 37) (zdm d_Tablet_init_0 29 rfl) (by decide) ?_
  refine x_iload_n (zdm d_Tablet_init_0 18 rfl) rfl (n := 0) rfl ?_
  refine x_bipush (zdm d_Tablet_init_0 19 rfl) (by decide) ?_
  refine x_icmpgeF (tgt := 62) (zdm d_Tablet_init_0 20 rfl) (by decide) (by decide) ?_
  refine x_aload_n (zdm d_Tablet_init_0 21 rfl) rfl (n := 1) rfl ?_
  refine x_getV (zdm d_Tablet_init_0 22 rfl) f_Tablet_11 rfl (t := 2) (v := 103) rfl (zwk (by decide) (zwk (by decide) (zwk (by decide) (zwk (by decide) (zwk (by decide) (zwk (by decide) (zwk (by decide) (zwk (by decide) (zwk (by decide) (zwk (by decide) (zwk (by decide) (zwk (by decide) (zwk (by decide) (zwk (by decide) (zwk (by decide) (zwk (by decide) (zwk (by decide) (zwk (by decide) (zwk (by decide) (zwk (by decide) (zwk (by decide) (zwk (by decide) (zwk (by decide) (zwk (by decide) (zwk (by decide) (zwk (by decide) (zwk (by decide) (zwk (by decide) (zwk (by decide) (zwk (by decide) (zwk (by decide) (zwk (by decide) (zwk (by decide) (zwk (by decide) (zwr_s _ _ _ _))))))))))))))))))))))))))))))))))) ?_
  refine x_iload_n (zdm d_Tablet_init_0 23 rfl) rfl (n := 0) rfl ?_
  refine x_new (c := 120) (zdm d_Tablet_init_0 24 rfl) nw_Tablet_9 (zwo (by decide) (zwo (by decide) zvs2)) (c' := 121) (by decide) rfl (Nat.le_of_ble_eq_true rfl) (Nat.le_of_ble_eq_true rfl) ?_
  refine x_dup (zdm d_Tablet_init_0 25 rfl) z2n1 ?_
  refine x_callI (h := h + 1) (n := 0) (mc := 1) (ms := 6) (Q1 := fun _ M' => M' = zwr (zwr _ 0 0 122) 121 0 122) (zdm d_Tablet_init_0 26 rfl) ki_Tablet_31 (As := []) rfl rfl (by decide) (Nat.le_of_ble_eq_true rfl) (Nat.le_of_ble_eq_true rfl) (Nat.le_of_ble_eq_true rfl) (I_Column (h := h + 0) (o := 121) (c := 121) zvs2 rfl rfl rfl) (fun _ _ hM => ?_)
  subst hM
  refine x_aast5 (zdm d_Tablet_init_0 27 rfl) rfl (by decide) rfl ⟨_, _, rfl⟩ rfl ?_
  refine x_iincV (zdm d_Tablet_init_0 28 rfl) (n := 0) rfl (z := 7) (by decide) (zIl rfl) (zlt rfl) rfl ?_
  refine x_goto (tgt := 37) (zdm d_Tablet_init_0 29 rfl) (by decide) ?_
  refine x_iload_n (zdm d_Tablet_init_0 18 rfl) rfl (n := 0) rfl ?_
  refine x_bipush (zdm d_Tablet_init_0 19 rfl) (by decide) ?_
  refine x_icmpgeF (tgt := 62) (zdm d_Tablet_init_0 20 rfl) (by decide) (by decide) ?_
  refine x_aload_n (zdm d_Tablet_init_0 21 rfl) rfl (n := 1) rfl ?_
  refine x_getV (zdm d_Tablet_init_0 22 rfl) f_Tablet_11 rfl (t := 2) (v := 103) rfl (zwk (by decide) (zwk (by decide) (zwk (by decide) (zwk (by decide) (zwk (by decide) (zwk (by decide) (zwk (by decide) (zwk (by decide) (zwk (by decide) (zwk (by decide) (zwk (by decide) (zwk (by decide) (zwk (by decide) (zwk (by decide) (zwk (by decide) (zwk (by decide) (zwk (by decide) (zwk (by decide) (zwk (by decide) (zwk (by decide) (zwk (by decide) (zwk (by decide) (zwk (by decide) (zwk (by decide) (zwk (by decide) (zwk (by decide) (zwk (by decide) (zwk (by decide) (zwk (by decide) (zwk (by decide) (zwk (by decide) (zwk (by decide) (zwk (by decide) (zwk (by decide) (zwk (by decide) (zwk (by decide) (zwk (by decide) (zwk (by decide) (zwr_s _ _ _ _))))))))))))))))))))))))))))))))))))))) ?_
  refine x_iload_n (zdm d_Tablet_init_0 23 rfl) rfl (n := 0) rfl ?_
  refine x_new (c := 122) (zdm d_Tablet_init_0 24 rfl) nw_Tablet_9 (zwo (by decide) (zwo (by decide) zvs2)) (c' := 123) (by decide) rfl (Nat.le_of_ble_eq_true rfl) (Nat.le_of_ble_eq_true rfl) ?_
  refine x_dup (zdm d_Tablet_init_0 25 rfl) z2n1 ?_
  refine x_callI (h := h + 1) (n := 0) (mc := 1) (ms := 6) (Q1 := fun _ M' => M' = zwr (zwr _ 0 0 124) 123 0 124) (zdm d_Tablet_init_0 26 rfl) ki_Tablet_31 (As := []) rfl rfl (by decide) (Nat.le_of_ble_eq_true rfl) (Nat.le_of_ble_eq_true rfl) (Nat.le_of_ble_eq_true rfl) (I_Column (h := h + 0) (o := 123) (c := 123) zvs2 rfl rfl rfl) (fun _ _ hM => ?_)
  subst hM
  refine x_aast5 (zdm d_Tablet_init_0 27 rfl) rfl (by decide) rfl ⟨_, _, rfl⟩ rfl ?_
  refine x_iincV (zdm d_Tablet_init_0 28 rfl) (n := 0) rfl (z := 8) (by decide) (zIl rfl) (zlt rfl) rfl ?_
  refine x_goto (tgt := 37) (zdm d_Tablet_init_0 29 rfl) (by decide) ?_
  refine x_iload_n (zdm d_Tablet_init_0 18 rfl) rfl (n := 0) rfl ?_
  refine x_bipush (zdm d_Tablet_init_0 19 rfl) (by decide) ?_
  refine x_icmpgeT (tgt := 62) (zdm d_Tablet_init_0 20 rfl) (by decide) (by decide) ?_
  exact x_return (zdm d_Tablet_init_0 30 rfl) rfl q
