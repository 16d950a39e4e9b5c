set_option maxRecDepth 20000 in
set_option maxHeartbeats 4000000 in
theorem E_History_forget {G : zG} {h sl : Nat} (hsl : 1 ≤ sl) {M : zM} {Q : Int → zM → Prop} (H : Q 0 (zwr (zwr M 18 4 0) 18 6 0)) : zCt G h sl 0 0 y_History_forget [(2, 18)] M Q := by
  refine zCt.of (by decide +kernel) (Nat.le_of_ble_eq_true rfl) ?_
  refine x_aload_n (zdm d_History_forget_0 0 rfl) rfl (n := 0) rfl ?_
  refine x_iconst (zdm d_History_forget_0 1 rfl) (zIl rfl) ?_
  refine x_putf (zdm d_History_forget_0 2 rfl) f_History_28 rfl ⟨rfl, trivial⟩ (Or.inl rfl) ?_
  refine x_aload_n (zdm d_History_forget_0 3 rfl) rfl (n := 0) rfl ?_
  refine x_iconst (zdm d_History_forget_0 4 rfl) (zIl rfl) ?_
  refine x_putf (zdm d_History_forget_0 5 rfl) f_History_32 rfl ⟨rfl, trivial⟩ (Or.inl rfl) ?_
  exact x_return (zdm d_History_forget_0 6 rfl) rfl H
set_option maxRecDepth 20000 in
set_option maxHeartbeats 4000000 in
theorem E_History_keep {G : zG} {h sl : Nat} (hsl : 1 ≤ sl) {l1 l2 : Int} {M : zM} {Q : Int → zM → Prop} (H : (1000 ≤ (M 18 4) → Q 0 M) ∧ (¬ 1000 ≤ (M 18 4) → (0 ≤ (M 18 4) ∧ (M 18 4) < 1000) ∧ ((0 ≤ ((zwr M 19 (M 18 4) l1) 18 4) ∧ ((zwr M 19 (M 18 4) l1) 18 4) < 1000) ∧ ((zI (((zwr (zwr M 19 (M 18 4) l1) 20 ((zwr M 19 (M 18 4) l1) 18 4) l2) 18 4) + 1)) ∧ (Q 0 (zwr (zwr (zwr M 19 (M 18 4) l1) 20 ((zwr M 19 (M 18 4) l1) 18 4) l2) 18 4 (((zwr (zwr M 19 (M 18 4) l1) 20 ((zwr M 19 (M 18 4) l1) 18 4) l2) 18 4) + 1))))))) : zCt G h sl 0 0 y_History_keep [(2, 18), (0, l1), (0, l2)] M Q := by
  refine zCt.of (by decide +kernel) (Nat.le_of_ble_eq_true rfl) ?_
  refine x_aload_n (zdm d_History_keep_0 0 rfl) rfl (n := 0) rfl ?_
  refine x_getf (zdm d_History_keep_0 1 rfl) f_History_28 rfl rfl ?_
  refine x_aload_n (zdm d_History_keep_0 2 rfl) rfl (n := 0) rfl ?_
  refine x_getG (zdm d_History_keep_0 3 rfl) f_History_9 rfl rfl (by decide) hsl rfl ?_
  refine x_alen0 (zdm d_History_keep_0 4 rfl) rfl (by decide) ?_
  refine x_icmpge (tgt := 42) (zdm d_History_keep_0 5 rfl) (by decide) (fun c => ?_) (fun c => ?_)
  · have H := H.1 c
    exact x_return (zdm d_History_keep_0 24 rfl) rfl H
  · have H := H.2 c
    refine x_aload_n (zdm d_History_keep_0 6 rfl) rfl (n := 0) rfl ?_
    refine x_getG (zdm d_History_keep_0 7 rfl) f_History_9 rfl rfl (by decide) hsl rfl ?_
    refine x_aload_n (zdm d_History_keep_0 8 rfl) rfl (n := 0) rfl ?_
    refine x_getf (zdm d_History_keep_0 9 rfl) f_History_28 rfl rfl ?_
    refine x_iload_n (zdm d_History_keep_0 10 rfl) rfl (n := 1) rfl ?_
    obtain ⟨g1, H⟩ := H
    refine x_iast (zdm d_History_keep_0 11 rfl) rfl g1 ?_
    refine x_aload_n (zdm d_History_keep_0 12 rfl) rfl (n := 0) rfl ?_
    refine x_getG (zdm d_History_keep_0 13 rfl) f_History_15 rfl rfl (by decide) hsl rfl ?_
    refine x_aload_n (zdm d_History_keep_0 14 rfl) rfl (n := 0) rfl ?_
    refine x_getf (zdm d_History_keep_0 15 rfl) f_History_28 rfl rfl ?_
    refine x_iload_n (zdm d_History_keep_0 16 rfl) rfl (n := 2) rfl ?_
    obtain ⟨g2, H⟩ := H
    refine x_iast (zdm d_History_keep_0 17 rfl) rfl g2 ?_
    refine x_aload_n (zdm d_History_keep_0 18 rfl) rfl (n := 0) rfl ?_
    refine x_dup (zdm d_History_keep_0 19 rfl) z2n1 ?_
    refine x_getf (zdm d_History_keep_0 20 rfl) f_History_28 rfl rfl ?_
    refine x_iconst (zdm d_History_keep_0 21 rfl) (zIl rfl) ?_
    obtain ⟨g3, H⟩ := H
    refine x_iadd (zdm d_History_keep_0 22 rfl) g3 ?_
    refine x_putf (zdm d_History_keep_0 23 rfl) f_History_28 rfl ⟨rfl, trivial⟩ (Or.inl rfl) ?_
    exact x_return (zdm d_History_keep_0 24 rfl) rfl H
set_option maxRecDepth 20000 in
set_option maxHeartbeats 4000000 in
theorem E_History_keptTold {G : zG} {h sl : Nat} (hsl : 1 ≤ sl) {M : zM} {Q : Int → zM → Prop} (H : zCt G h sl 0 0 y_Jm_min_III [(0, 40), (0, (M 18 4))] M (fun r1 M2 => Q r1 M2)) : zCt G (h + 1) sl 0 0 y_History_keptTold [(2, 18)] M Q := by
  refine zCt.of (by decide +kernel) (Nat.le_of_ble_eq_true rfl) ?_
  refine x_bipush (zdm d_History_keptTold_0 0 rfl) (by decide) ?_
  refine x_aload_n (zdm d_History_keptTold_0 1 rfl) rfl (n := 0) rfl ?_
  refine x_getf (zdm d_History_keptTold_0 2 rfl) f_History_28 rfl rfl ?_
  refine x_callSi (n := 2) (zdm d_History_keptTold_0 3 rfl) k_History_35 (As := [(0, 40), (0, (M 18 4))]) rfl rfl (Nat.le_of_ble_eq_true rfl) trivial H (fun r1 M2 hr H => ?_)
  exact x_iret (zdm d_History_keptTold_0 4 rfl) rfl H
set_option maxRecDepth 20000 in
set_option maxHeartbeats 4000000 in
theorem E_History_keptLine {G : zG} {h sl : Nat} (hsl : 1 ≤ sl) {l1 : Int} {M : zM} {Q : Int → zM → Prop} (H : zCt G h sl 0 0 y_History_keptTold [(2, 18)] M (fun r1 M2 => (zI ((M 18 4) - r1)) ∧ ((zI (((M 18 4) - r1) + l1)) ∧ ((0 ≤ (((M 18 4) - r1) + l1) ∧ (((M 18 4) - r1) + l1) < 1000) ∧ (Q (M2 19 (((M 18 4) - r1) + l1)) M2))))) : zCt G (h + 1) sl 0 0 y_History_keptLine [(2, 18), (0, l1)] M Q := by
  refine zCt.of (by decide +kernel) (Nat.le_of_ble_eq_true rfl) ?_
  refine x_aload_n (zdm d_History_keptLine_0 0 rfl) rfl (n := 0) rfl ?_
  refine x_getG (zdm d_History_keptLine_0 1 rfl) f_History_9 rfl rfl (by decide) hsl rfl ?_
  refine x_aload_n (zdm d_History_keptLine_0 2 rfl) rfl (n := 0) rfl ?_
  refine x_getf (zdm d_History_keptLine_0 3 rfl) f_History_28 rfl rfl ?_
  refine x_aload_n (zdm d_History_keptLine_0 4 rfl) rfl (n := 0) rfl ?_
  refine x_callVi (n := 0) (ci := 3) (zdm d_History_keptLine_0 5 rfl) k_History_41 (As := []) rfl rfl rfl ⟨_, _, rfl⟩ (Nat.le_of_ble_eq_true rfl) trivial H (fun r1 M2 hr H => ?_)
  obtain ⟨g3, H⟩ := H
  refine x_isub (zdm d_History_keptLine_0 6 rfl) g3 ?_
  refine x_iload_n (zdm d_History_keptLine_0 7 rfl) rfl (n := 1) rfl ?_
  obtain ⟨g4, H⟩ := H
  refine x_iadd (zdm d_History_keptLine_0 8 rfl) g4 ?_
  obtain ⟨g5, H⟩ := H
  refine x_iald (zdm d_History_keptLine_0 9 rfl) rfl g5 ?_
  exact x_iret (zdm d_History_keptLine_0 10 rfl) rfl H
set_option maxRecDepth 20000 in
set_option maxHeartbeats 4000000 in
theorem E_History_keptUntrue {G : zG} {h sl : Nat} (hsl : 1 ≤ sl) {l1 : Int} {M : zM} {Q : Int → zM → Prop} (H : zCt G h sl 0 0 y_History_keptTold [(2, 18)] M (fun r1 M2 => (zI ((M 18 4) - r1)) ∧ ((zI (((M 18 4) - r1) + l1)) ∧ ((0 ≤ (((M 18 4) - r1) + l1) ∧ (((M 18 4) - r1) + l1) < 1000) ∧ (Q (M2 20 (((M 18 4) - r1) + l1)) M2))))) : zCt G (h + 1) sl 0 0 y_History_keptUntrue [(2, 18), (0, l1)] M Q := by
  refine zCt.of (by decide +kernel) (Nat.le_of_ble_eq_true rfl) ?_
  refine x_aload_n (zdm d_History_keptUntrue_0 0 rfl) rfl (n := 0) rfl ?_
  refine x_getG (zdm d_History_keptUntrue_0 1 rfl) f_History_15 rfl rfl (by decide) hsl rfl ?_
  refine x_aload_n (zdm d_History_keptUntrue_0 2 rfl) rfl (n := 0) rfl ?_
  refine x_getf (zdm d_History_keptUntrue_0 3 rfl) f_History_28 rfl rfl ?_
  refine x_aload_n (zdm d_History_keptUntrue_0 4 rfl) rfl (n := 0) rfl ?_
  refine x_callVi (n := 0) (ci := 3) (zdm d_History_keptUntrue_0 5 rfl) k_History_41 (As := []) rfl rfl rfl ⟨_, _, rfl⟩ (Nat.le_of_ble_eq_true rfl) trivial H (fun r1 M2 hr H => ?_)
  obtain ⟨g3, H⟩ := H
  refine x_isub (zdm d_History_keptUntrue_0 6 rfl) g3 ?_
  refine x_iload_n (zdm d_History_keptUntrue_0 7 rfl) rfl (n := 1) rfl ?_
  obtain ⟨g4, H⟩ := H
  refine x_iadd (zdm d_History_keptUntrue_0 8 rfl) g4 ?_
  obtain ⟨g5, H⟩ := H
  refine x_iald (zdm d_History_keptUntrue_0 9 rfl) rfl g5 ?_
  exact x_iret (zdm d_History_keptUntrue_0 10 rfl) rfl H
set_option maxRecDepth 20000 in
set_option maxHeartbeats 4000000 in
theorem E_History_remember {G : zG} {h sl : Nat} (hsl : 1 ≤ sl) {l1 : Int} {M : zM} {Q : Int → zM → Prop} (H : (zI ((M 18 5) + 1)) ∧ ((0 ≤ ((zwr M 18 5 (Int.tmod ((M 18 5) + 1) 20)) 18 5) ∧ ((zwr M 18 5 (Int.tmod ((M 18 5) + 1) 20)) 18 5) < 20) ∧ (zCt G h sl 0 0 y_Line_copy [(2, (23 + 2 * ((zwr M 18 5 (Int.tmod ((M 18 5) + 1) 20)) 18 5))), (2, l1)] (zwr M 18 5 (Int.tmod ((M 18 5) + 1) 20)) (fun r3 M4 => (0 ≤ (M4 18 5) ∧ (M4 18 5) < 20) ∧ ((zI (((zwr M4 22 (M4 18 5) (M4 18 4)) 18 6) + 1)) ∧ (zCt G h sl 0 0 y_Jm_min_III [(0, 20), (0, (((zwr M4 22 (M4 18 5) (M4 18 4)) 18 6) + 1))] (zwr M4 22 (M4 18 5) (M4 18 4)) (fun r7 M8 => Q 0 (zwr M8 18 6 r7)))))))) : zCt G (h + 1) sl 0 0 y_History_remember [(2, 18), (2, l1)] M Q := by
  refine zCt.of (by decide +kernel) (Nat.le_of_ble_eq_true rfl) ?_
  refine x_aload_n (zdm d_History_remember_0 0 rfl) rfl (n := 0) rfl ?_
  refine x_aload_n (zdm d_History_remember_0 1 rfl) rfl (n := 0) rfl ?_
  refine x_getf (zdm d_History_remember_0 2 rfl) f_History_45 rfl rfl ?_
  refine x_iconst (zdm d_History_remember_0 3 rfl) (zIl rfl) ?_
  obtain ⟨g1, H⟩ := H
  refine x_iadd (zdm d_History_remember_0 4 rfl) g1 ?_
  refine x_bipush (zdm d_History_remember_0 5 rfl) (by decide) ?_
  refine x_irem (zdm d_History_remember_0 6 rfl) (by decide) ?_
  refine x_putf (zdm d_History_remember_0 7 rfl) f_History_45 rfl ⟨rfl, trivial⟩ (Or.inl rfl) ?_
  refine x_aload_n (zdm d_History_remember_0 8 rfl) rfl (n := 0) rfl ?_
  refine x_getG (zdm d_History_remember_0 9 rfl) f_History_20 rfl rfl (by decide) hsl rfl ?_
  refine x_aload_n (zdm d_History_remember_0 10 rfl) rfl (n := 0) rfl ?_
  refine x_getf (zdm d_History_remember_0 11 rfl) f_History_45 rfl rfl ?_
  obtain ⟨g2, H⟩ := H
  refine x_aald4G (zdm d_History_remember_0 12 rfl) rfl g2 hsl (zs_past g2.1 g2.2).1 ?_
  refine x_aload_n (zdm d_History_remember_0 13 rfl) rfl (n := 1) rfl ?_
  refine x_callVv (n := 1) (ci := 4) (zdm d_History_remember_0 14 rfl) k_History_48 (As := [(2, l1)]) rfl rfl (zs_past g2.1 g2.2).2 ⟨_, _, rfl⟩ (Nat.le_of_ble_eq_true rfl) rfl H (fun r3 M4 hr H => ?_)
  refine x_aload_n (zdm d_History_remember_0 15 rfl) rfl (n := 0) rfl ?_
  refine x_getG (zdm d_History_remember_0 16 rfl) f_History_24 rfl rfl (by decide) hsl rfl ?_
  refine x_aload_n (zdm d_History_remember_0 17 rfl) rfl (n := 0) rfl ?_
  refine x_getf (zdm d_History_remember_0 18 rfl) f_History_45 rfl rfl ?_
  refine x_aload_n (zdm d_History_remember_0 19 rfl) rfl (n := 0) rfl ?_
  refine x_getf (zdm d_History_remember_0 20 rfl) f_History_28 rfl rfl ?_
  obtain ⟨g5, H⟩ := H
  refine x_iast (zdm d_History_remember_0 21 rfl) rfl g5 ?_
  refine x_aload_n (zdm d_History_remember_0 22 rfl) rfl (n := 0) rfl ?_
  refine x_bipush (zdm d_History_remember_0 23 rfl) (by decide) ?_
  refine x_aload_n (zdm d_History_remember_0 24 rfl) rfl (n := 0) rfl ?_
  refine x_getf (zdm d_History_remember_0 25 rfl) f_History_32 rfl rfl ?_
  refine x_iconst (zdm d_History_remember_0 26 rfl) (zIl rfl) ?_
  obtain ⟨g6, H⟩ := H
  refine x_iadd (zdm d_History_remember_0 27 rfl) g6 ?_
  refine x_callSi (n := 2) (zdm d_History_remember_0 28 rfl) k_History_35 (As := [(0, 20), (0, (((zwr M4 22 (M4 18 5) (M4 18 4)) 18 6) + 1))]) rfl rfl (Nat.le_of_ble_eq_true rfl) trivial H (fun r7 M8 hr H => ?_)
  refine x_putf (zdm d_History_remember_0 29 rfl) f_History_32 rfl ⟨rfl, trivial⟩ (Or.inl rfl) ?_
  exact x_return (zdm d_History_remember_0 30 rfl) rfl H
set_option maxRecDepth 20000 in
set_option maxHeartbeats 4000000 in
theorem E_History_goBack {G : zG} {h sl : Nat} (hsl : 1 ≤ sl) {l1 : Int} {M : zM} {Q : Int → zM → Prop} (H : (¬ (M 18 6) = 0 → (0 ≤ (M 18 5) ∧ (M 18 5) < 20) ∧ ((zK l1 = (4, 0)) ∧ (zCt G h sl 0 0 y_Line_copy [(2, l1), (2, (23 + 2 * (M 18 5)))] M (fun r2 M3 => (0 ≤ (M3 18 5) ∧ (M3 18 5) < 20) ∧ ((zI (((zwr M3 18 4 (M3 22 (M3 18 5))) 18 5) + 20)) ∧ ((zI ((((zwr M3 18 4 (M3 22 (M3 18 5))) 18 5) + 20) - 1)) ∧ ((zI (((zwr (zwr M3 18 4 (M3 22 (M3 18 5))) 18 5 (Int.tmod ((((zwr M3 18 4 (M3 22 (M3 18 5))) 18 5) + 20) - 1) 20)) 18 6) - 1)) ∧ (Q 1 (zwr (zwr (zwr M3 18 4 (M3 22 (M3 18 5))) 18 5 (Int.tmod ((((zwr M3 18 4 (M3 22 (M3 18 5))) 18 5) + 20) - 1) 20)) 18 6 (((zwr (zwr M3 18 4 (M3 22 (M3 18 5))) 18 5 (Int.tmod ((((zwr M3 18 4 (M3 22 (M3 18 5))) 18 5) + 20) - 1) 20)) 18 6) - 1)))))))))) ∧ (¬ (¬ (M 18 6) = 0) → Q 0 M)) : zCt G (h + 1) sl 0 0 y_History_goBack [(2, 18), (2, l1)] M Q := by
  refine zCt.of (by decide +kernel) (Nat.le_of_ble_eq_true rfl) ?_
  refine x_aload_n (zdm d_History_goBack_0 0 rfl) rfl (n := 0) rfl ?_
  refine x_getf (zdm d_History_goBack_0 1 rfl) f_History_32 rfl rfl ?_
  refine x_ifne (tgt := 9) (zdm d_History_goBack_0 2 rfl) (by decide) (fun c => ?_) (fun c => ?_)
  · have H := H.1 c
    refine x_aload_n (zdm d_History_goBack_0 5 rfl) rfl (n := 1) rfl ?_
    refine x_aload_n (zdm d_History_goBack_0 6 rfl) rfl (n := 0) rfl ?_
    refine x_getG (zdm d_History_goBack_0 7 rfl) f_History_20 rfl rfl (by decide) hsl rfl ?_
    refine x_aload_n (zdm d_History_goBack_0 8 rfl) rfl (n := 0) rfl ?_
    refine x_getf (zdm d_History_goBack_0 9 rfl) f_History_45 rfl rfl ?_
    obtain ⟨g1, H⟩ := H
    refine x_aald4G (zdm d_History_goBack_0 10 rfl) rfl g1 hsl (zs_past g1.1 g1.2).1 ?_
    obtain ⟨g4, H⟩ := H
    refine x_callVv (n := 1) (ci := 4) (zdm d_History_goBack_0 11 rfl) k_History_48 (As := [(2, (23 + 2 * (M 18 5)))]) rfl rfl g4 ⟨_, _, rfl⟩ (Nat.le_of_ble_eq_true rfl) rfl H (fun r2 M3 hr H => ?_)
    refine x_aload_n (zdm d_History_goBack_0 12 rfl) rfl (n := 0) rfl ?_
    refine x_aload_n (zdm d_History_goBack_0 13 rfl) rfl (n := 0) rfl ?_
    refine x_getG (zdm d_History_goBack_0 14 rfl) f_History_24 rfl rfl (by decide) hsl rfl ?_
    refine x_aload_n (zdm d_History_goBack_0 15 rfl) rfl (n := 0) rfl ?_
    refine x_getf (zdm d_History_goBack_0 16 rfl) f_History_45 rfl rfl ?_
    obtain ⟨g5, H⟩ := H
    refine x_iald (zdm d_History_goBack_0 17 rfl) rfl g5 ?_
    refine x_putf (zdm d_History_goBack_0 18 rfl) f_History_28 rfl ⟨rfl, trivial⟩ (Or.inl rfl) ?_
    refine x_aload_n (zdm d_History_goBack_0 19 rfl) rfl (n := 0) rfl ?_
    refine x_aload_n (zdm d_History_goBack_0 20 rfl) rfl (n := 0) rfl ?_
    refine x_getf (zdm d_History_goBack_0 21 rfl) f_History_45 rfl rfl ?_
    refine x_bipush (zdm d_History_goBack_0 22 rfl) (by decide) ?_
    obtain ⟨g6, H⟩ := H
    refine x_iadd (zdm d_History_goBack_0 23 rfl) g6 ?_
    refine x_iconst (zdm d_History_goBack_0 24 rfl) (zIl rfl) ?_
    obtain ⟨g7, H⟩ := H
    refine x_isub (zdm d_History_goBack_0 25 rfl) g7 ?_
    refine x_bipush (zdm d_History_goBack_0 26 rfl) (by decide) ?_
    refine x_irem (zdm d_History_goBack_0 27 rfl) (by decide) ?_
    refine x_putf (zdm d_History_goBack_0 28 rfl) f_History_45 rfl ⟨rfl, trivial⟩ (Or.inl rfl) ?_
    refine x_aload_n (zdm d_History_goBack_0 29 rfl) rfl (n := 0) rfl ?_
    refine x_dup (zdm d_History_goBack_0 30 rfl) z2n1 ?_
    refine x_getf (zdm d_History_goBack_0 31 rfl) f_History_32 rfl rfl ?_
    refine x_iconst (zdm d_History_goBack_0 32 rfl) (zIl rfl) ?_
    obtain ⟨g8, H⟩ := H
    refine x_isub (zdm d_History_goBack_0 33 rfl) g8 ?_
    refine x_putf (zdm d_History_goBack_0 34 rfl) f_History_32 rfl ⟨rfl, trivial⟩ (Or.inl rfl) ?_
    refine x_iconst (zdm d_History_goBack_0 35 rfl) (zIl rfl) ?_
    exact x_ireturn (zdm d_History_goBack_0 36 rfl) (ty := .boolean) rfl (by decide) (Or.inr rfl) H
  · have H := H.2 c
    refine x_iconst (zdm d_History_goBack_0 3 rfl) (zIl rfl) ?_
    exact x_ireturn (zdm d_History_goBack_0 4 rfl) (ty := .boolean) rfl (by decide) (Or.inl rfl) H
