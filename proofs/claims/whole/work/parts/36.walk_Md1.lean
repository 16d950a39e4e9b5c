set_option maxRecDepth 20000 in
set_option maxHeartbeats 4000000 in
theorem B_Md_zigTold_93 {G : zG} {h sl : Nat} (hsl : 2 ≤ sl) {u : Nat × Nat × Nat × Nat} {l3 : Int} {M : zM} {Q : Int → zM → Prop} (H : (l3 = 0 → zCt G h sl 0 0 y_Md_laid [(2, 125), (0, 5), (0, 0)] M (fun r1 M2 => Q 0 M2)) ∧ (¬ l3 = 0 → zCt G h sl 0 0 y_Md_laid [(2, 125), (0, 5), (0, 1)] M (fun r3 M4 => Q 0 M4))) : zX G (y_Md_zigTold, h + 1, sl) u 93 [(0, (2, 125)), (3, (0, l3))] [] M Q := by
  refine x_aload_n (zdm d_Md_zigTold_0 55 rfl) rfl (n := 0) rfl ?_
  refine x_iconst (zdm d_Md_zigTold_0 56 rfl) (zIl rfl) ?_
  refine x_iload_n (zdm d_Md_zigTold_0 57 rfl) rfl (n := 1) rfl ?_
  refine x_ifeq (tgt := 103) (zdm d_Md_zigTold_0 58 rfl) (by decide) (fun c => ?_) (fun c => ?_)
  · have H := H.1 c
    refine x_iconst (zdm d_Md_zigTold_1 1 rfl) (zIl rfl) ?_
    refine x_callVv (n := 2) (ci := 11) (zdm d_Md_zigTold_1 2 rfl) k_Md_313 (As := [(0, 5), (0, 0)]) rfl rfl rfl ⟨_, _, rfl⟩ (Nat.le_of_ble_eq_true rfl) rfl H (fun r1 M2 hr H => ?_)
    exact x_return (zdm d_Md_zigTold_1 3 rfl) rfl H
  · have H := H.2 c
    refine x_iconst (zdm d_Md_zigTold_0 59 rfl) (zIl rfl) ?_
    refine x_goto (tgt := 104) (zdm d_Md_zigTold_1 0 rfl) (by decide) ?_
    refine x_callVv (n := 2) (ci := 11) (zdm d_Md_zigTold_1 2 rfl) k_Md_313 (As := [(0, 5), (0, 1)]) rfl rfl rfl ⟨_, _, rfl⟩ (Nat.le_of_ble_eq_true rfl) rfl H (fun r3 M4 hr H => ?_)
    exact x_return (zdm d_Md_zigTold_1 3 rfl) rfl H
set_option maxRecDepth 20000 in
set_option maxHeartbeats 4000000 in
theorem E_Md_zigTold {G : zG} {h sl : Nat} (hsl : 2 ≤ sl) {M : zM} {Q : Int → zM → Prop} (H : zCt G h sl 0 0 y_Md_told [(2, 125), (2, 132), (0, 0), (0, 999)] M (fun r1 M2 => (zI (r1 + 1)) ∧ (zCt G h sl 0 0 y_Md_told [(2, 125), (2, 133), (0, (r1 + 1)), (0, 999)] M2 (fun r4 M5 => zCt G h sl 0 0 y_Md_laid [(2, 125), (0, 1), (0, r1)] M5 (fun r6 M7 => zCt G h sl 0 0 y_Md_laid [(2, 125), (0, 2), (0, r4)] M7 (fun r8 M9 => (zI (r4 - r1)) ∧ (zCt G h sl 0 0 y_Md_told [(2, 125), (2, 134), (0, 1), (0, (r4 - r1))] M9 (fun r11 M12 => zCt G h sl 0 0 y_Md_laid [(2, 125), (0, 3), (0, r11)] M12 (fun r13 M14 => zCt G h sl 0 0 y_Md_told [(2, 125), (2, 135), (0, r1), (0, r4)] M14 (fun r15 M16 => zCt G h sl 0 0 y_Md_laid [(2, 125), (0, 4), (0, r15)] M16 (fun r17 M18 => zCt G h sl 0 0 y_Md_takes [(2, 125), (2, 136)] M18 (fun r19 M20 => (¬ r19 = 0 → zX G (y_Md_zigTold, h + 1, sl) (0, 0, 0, 0) 93 [(0, (2, 125)), (3, (0, r19))] [] M20 Q) ∧ (¬ (¬ r19 = 0) → zCt G h sl 0 0 y_Md_asks [(2, 125), (2, 137)] M20 (fun r22 M23 => zX G (y_Md_zigTold, h + 1, sl) (0, 0, 0, 0) 93 [(0, (2, 125)), (3, (0, r19))] [] M23 Q)))))))))))))) : zCt G (h + 1) sl 0 0 y_Md_zigTold [(2, 125)] M Q := by
  refine zCt.of (by decide +kernel) (Nat.le_of_ble_eq_true rfl) ?_
  refine x_aload_n (zdm d_Md_zigTold_0 0 rfl) rfl (n := 0) rfl ?_
  refine x_aload_n (zdm d_Md_zigTold_0 1 rfl) rfl (n := 0) rfl ?_
  refine x_getG (zdm d_Md_zigTold_0 2 rfl) f_Md_33 rfl rfl (by decide) hsl rfl ?_
  refine x_iconst (zdm d_Md_zigTold_0 3 rfl) (zIl rfl) ?_
  refine x_sipush (zdm d_Md_zigTold_0 4 rfl) (by decide) ?_
  refine x_callVi (n := 3) (ci := 11) (zdm d_Md_zigTold_0 5 rfl) k_Md_310 (As := [(2, 132), (0, 0), (0, 999)]) rfl rfl rfl ⟨_, _, rfl⟩ (Nat.le_of_ble_eq_true rfl) trivial H (fun r1 M2 hr H => ?_)
  refine x_istore_n (zdm d_Md_zigTold_0 6 rfl) rfl (zlt rfl) rfl ?_
  refine x_aload_n (zdm d_Md_zigTold_0 7 rfl) rfl (n := 1) rfl ?_
  refine x_aload_n (zdm d_Md_zigTold_0 8 rfl) rfl (n := 1) rfl ?_
  refine x_getG (zdm d_Md_zigTold_0 9 rfl) f_Md_36 rfl rfl (by decide) hsl rfl ?_
  refine x_iload_n (zdm d_Md_zigTold_0 10 rfl) rfl (n := 0) rfl ?_
  refine x_iconst (zdm d_Md_zigTold_0 11 rfl) (zIl rfl) ?_
  obtain ⟨g3, H⟩ := H
  refine x_iadd (zdm d_Md_zigTold_0 12 rfl) g3 ?_
  refine x_sipush (zdm d_Md_zigTold_0 13 rfl) (by decide) ?_
  refine x_callVi (n := 3) (ci := 11) (zdm d_Md_zigTold_0 14 rfl) k_Md_310 (As := [(2, 133), (0, (r1 + 1)), (0, 999)]) rfl rfl rfl ⟨_, _, rfl⟩ (Nat.le_of_ble_eq_true rfl) trivial H (fun r4 M5 hr H => ?_)
  refine x_istore_n (zdm d_Md_zigTold_0 15 rfl) rfl (zlt rfl) rfl ?_
  refine x_aload_n (zdm d_Md_zigTold_0 16 rfl) rfl (n := 2) rfl ?_
  refine x_iconst (zdm d_Md_zigTold_0 17 rfl) (zIl rfl) ?_
  refine x_iload_n (zdm d_Md_zigTold_0 18 rfl) rfl (n := 1) rfl ?_
  refine x_callVv (n := 2) (ci := 11) (zdm d_Md_zigTold_0 19 rfl) k_Md_313 (As := [(0, 1), (0, r1)]) rfl rfl rfl ⟨_, _, rfl⟩ (Nat.le_of_ble_eq_true rfl) rfl H (fun r6 M7 hr H => ?_)
  refine x_aload_n (zdm d_Md_zigTold_0 20 rfl) rfl (n := 2) rfl ?_
  refine x_iconst (zdm d_Md_zigTold_0 21 rfl) (zIl rfl) ?_
  refine x_iload_n (zdm d_Md_zigTold_0 22 rfl) rfl (n := 0) rfl ?_
  refine x_callVv (n := 2) (ci := 11) (zdm d_Md_zigTold_0 23 rfl) k_Md_313 (As := [(0, 2), (0, r4)]) rfl rfl rfl ⟨_, _, rfl⟩ (Nat.le_of_ble_eq_true rfl) rfl H (fun r8 M9 hr H => ?_)
  refine x_aload_n (zdm d_Md_zigTold_0 24 rfl) rfl (n := 2) rfl ?_
  refine x_iconst (zdm d_Md_zigTold_0 25 rfl) (zIl rfl) ?_
  refine x_aload_n (zdm d_Md_zigTold_0 26 rfl) rfl (n := 2) rfl ?_
  refine x_aload_n (zdm d_Md_zigTold_0 27 rfl) rfl (n := 2) rfl ?_
  refine x_getG (zdm d_Md_zigTold_0 28 rfl) f_Md_39 rfl rfl (by decide) hsl rfl ?_
  refine x_iconst (zdm d_Md_zigTold_0 29 rfl) (zIl rfl) ?_
  refine x_iload_n (zdm d_Md_zigTold_0 30 rfl) rfl (n := 0) rfl ?_
  refine x_iload_n (zdm d_Md_zigTold_0 31 rfl) rfl (n := 1) rfl ?_
  obtain ⟨g10, H⟩ := H
  refine x_isub (zdm d_Md_zigTold_0 32 rfl) g10 ?_
  refine x_callVi (n := 3) (ci := 11) (zdm d_Md_zigTold_0 33 rfl) k_Md_310 (As := [(2, 134), (0, 1), (0, (r4 - r1))]) rfl rfl rfl ⟨_, _, rfl⟩ (Nat.le_of_ble_eq_true rfl) trivial H (fun r11 M12 hr H => ?_)
  refine x_callVv (n := 2) (ci := 11) (zdm d_Md_zigTold_0 34 rfl) k_Md_313 (As := [(0, 3), (0, r11)]) rfl rfl rfl ⟨_, _, rfl⟩ (Nat.le_of_ble_eq_true rfl) rfl H (fun r13 M14 hr H => ?_)
  refine x_aload_n (zdm d_Md_zigTold_0 35 rfl) rfl (n := 2) rfl ?_
  refine x_iconst (zdm d_Md_zigTold_0 36 rfl) (zIl rfl) ?_
  refine x_aload_n (zdm d_Md_zigTold_0 37 rfl) rfl (n := 2) rfl ?_
  refine x_aload_n (zdm d_Md_zigTold_0 38 rfl) rfl (n := 2) rfl ?_
  refine x_getG (zdm d_Md_zigTold_0 39 rfl) f_Md_42 rfl rfl (by decide) hsl rfl ?_
  refine x_iload_n (zdm d_Md_zigTold_0 40 rfl) rfl (n := 1) rfl ?_
  refine x_iload_n (zdm d_Md_zigTold_0 41 rfl) rfl (n := 0) rfl ?_
  refine x_callVi (n := 3) (ci := 11) (zdm d_Md_zigTold_0 42 rfl) k_Md_310 (As := [(2, 135), (0, r1), (0, r4)]) rfl rfl rfl ⟨_, _, rfl⟩ (Nat.le_of_ble_eq_true rfl) trivial H (fun r15 M16 hr H => ?_)
  refine x_callVv (n := 2) (ci := 11) (zdm d_Md_zigTold_0 43 rfl) k_Md_313 (As := [(0, 4), (0, r15)]) rfl rfl rfl ⟨_, _, rfl⟩ (Nat.le_of_ble_eq_true rfl) rfl H (fun r17 M18 hr H => ?_)
  refine x_aload_n (zdm d_Md_zigTold_0 44 rfl) rfl (n := 2) rfl ?_
  refine x_aload_n (zdm d_Md_zigTold_0 45 rfl) rfl (n := 2) rfl ?_
  refine x_getG (zdm d_Md_zigTold_0 46 rfl) f_Md_45 rfl rfl (by decide) hsl rfl ?_
  refine x_callVi (n := 1) (ci := 11) (zdm d_Md_zigTold_0 47 rfl) k_Md_264 (As := [(2, 136)]) rfl rfl rfl ⟨_, _, rfl⟩ (Nat.le_of_ble_eq_true rfl) trivial H (fun r19 M20 hr H => ?_)
  have b21 : r19 = 0 ∨ r19 = 1 := hr
  refine x_istore_n (zdm d_Md_zigTold_0 48 rfl) rfl (zlt rfl) rfl ?_
  refine x_iload_n (zdm d_Md_zigTold_0 49 rfl) rfl (n := 0) rfl ?_
  refine x_ifne (tgt := 93) (zdm d_Md_zigTold_0 50 rfl) (by decide) (fun c => ?_) (fun c => ?_)
  · have H := H.1 c
    exact zX.sub [3, 0] rfl H
  · have H := H.2 c
    refine x_aload_n (zdm d_Md_zigTold_0 51 rfl) rfl (n := 3) rfl ?_
    refine x_aload_n (zdm d_Md_zigTold_0 52 rfl) rfl (n := 3) rfl ?_
    refine x_getG (zdm d_Md_zigTold_0 53 rfl) f_Md_48 rfl rfl (by decide) hsl rfl ?_
    refine x_callVv (n := 1) (ci := 11) (zdm d_Md_zigTold_0 54 rfl) k_Md_302 (As := [(2, 137)]) rfl rfl rfl ⟨_, _, rfl⟩ (Nat.le_of_ble_eq_true rfl) rfl H (fun r22 M23 hr H => ?_)
    exact zX.sub [3, 0] rfl H
set_option maxRecDepth 20000 in
set_option maxHeartbeats 4000000 in
theorem E_Md_arcTold {G : zG} {h sl : Nat} (hsl : 2 ≤ sl) {M : zM} {Q : Int → zM → Prop} (H : zCt G h sl 0 0 y_Md_told [(2, 125), (2, 138), (0, 4), (0, 999)] M (fun r1 M2 => (zI (r1 - 1)) ∧ (zCt G h sl 0 0 y_Md_told [(2, 125), (2, 135), (0, 0), (0, (r1 - 1))] M2 (fun r4 M5 => (zI (r1 - 2)) ∧ (zCt G h sl 0 0 y_Md_told [(2, 125), (2, 133), (0, 2), (0, (r1 - 2))] M5 (fun r7 M8 => zCt G h sl 0 0 y_Md_laid [(2, 125), (0, 1), (0, r7)] M8 (fun r9 M10 => zCt G h sl 0 0 y_Md_laid [(2, 125), (0, 2), (0, r1)] M10 (fun r11 M12 => zCt G h sl 0 0 y_Md_told [(2, 125), (2, 139), (0, 1), (0, r7)] M12 (fun r13 M14 => zCt G h sl 0 0 y_Md_laid [(2, 125), (0, 3), (0, r13)] M14 (fun r15 M16 => zCt G h sl 0 0 y_Md_laid [(2, 125), (0, 4), (0, r4)] M16 (fun r17 M18 => (zI (r1 - r7)) ∧ (zCt G h sl 0 0 y_Md_told [(2, 125), (2, 140), (0, 1), (0, (r1 - r7))] M18 (fun r20 M21 => zCt G h sl 0 0 y_Md_laid [(2, 125), (0, 6), (0, r20)] M21 (fun r22 M23 => Q 0 M23)))))))))))))) : zCt G (h + 1) sl 0 0 y_Md_arcTold [(2, 125)] M Q := by
  refine zCt.of (by decide +kernel) (Nat.le_of_ble_eq_true rfl) ?_
  refine x_aload_n (zdm d_Md_arcTold_0 0 rfl) rfl (n := 0) rfl ?_
  refine x_aload_n (zdm d_Md_arcTold_0 1 rfl) rfl (n := 0) rfl ?_
  refine x_getG (zdm d_Md_arcTold_0 2 rfl) f_Md_51 rfl rfl (by decide) hsl rfl ?_
  refine x_iconst (zdm d_Md_arcTold_0 3 rfl) (zIl rfl) ?_
  refine x_sipush (zdm d_Md_arcTold_0 4 rfl) (by decide) ?_
  refine x_callVi (n := 3) (ci := 11) (zdm d_Md_arcTold_0 5 rfl) k_Md_310 (As := [(2, 138), (0, 4), (0, 999)]) rfl rfl rfl ⟨_, _, rfl⟩ (Nat.le_of_ble_eq_true rfl) trivial H (fun r1 M2 hr H => ?_)
  refine x_istore_n (zdm d_Md_arcTold_0 6 rfl) rfl (zlt rfl) rfl ?_
  refine x_aload_n (zdm d_Md_arcTold_0 7 rfl) rfl (n := 1) rfl ?_
  refine x_aload_n (zdm d_Md_arcTold_0 8 rfl) rfl (n := 1) rfl ?_
  refine x_getG (zdm d_Md_arcTold_0 9 rfl) f_Md_42 rfl rfl (by decide) hsl rfl ?_
  refine x_iconst (zdm d_Md_arcTold_0 10 rfl) (zIl rfl) ?_
  refine x_iload_n (zdm d_Md_arcTold_0 11 rfl) rfl (n := 0) rfl ?_
  refine x_iconst (zdm d_Md_arcTold_0 12 rfl) (zIl rfl) ?_
  obtain ⟨g3, H⟩ := H
  refine x_isub (zdm d_Md_arcTold_0 13 rfl) g3 ?_
  refine x_callVi (n := 3) (ci := 11) (zdm d_Md_arcTold_0 14 rfl) k_Md_310 (As := [(2, 135), (0, 0), (0, (r1 - 1))]) rfl rfl rfl ⟨_, _, rfl⟩ (Nat.le_of_ble_eq_true rfl) trivial H (fun r4 M5 hr H => ?_)
  refine x_istore_n (zdm d_Md_arcTold_0 15 rfl) rfl (zlt rfl) rfl ?_
  refine x_aload_n (zdm d_Md_arcTold_0 16 rfl) rfl (n := 2) rfl ?_
  refine x_aload_n (zdm d_Md_arcTold_0 17 rfl) rfl (n := 2) rfl ?_
  refine x_getG (zdm d_Md_arcTold_0 18 rfl) f_Md_36 rfl rfl (by decide) hsl rfl ?_
  refine x_iconst (zdm d_Md_arcTold_0 19 rfl) (zIl rfl) ?_
  refine x_iload_n (zdm d_Md_arcTold_0 20 rfl) rfl (n := 1) rfl ?_
  refine x_iconst (zdm d_Md_arcTold_0 21 rfl) (zIl rfl) ?_
  obtain ⟨g6, H⟩ := H
  refine x_isub (zdm d_Md_arcTold_0 22 rfl) g6 ?_
  refine x_callVi (n := 3) (ci := 11) (zdm d_Md_arcTold_0 23 rfl) k_Md_310 (As := [(2, 133), (0, 2), (0, (r1 - 2))]) rfl rfl rfl ⟨_, _, rfl⟩ (Nat.le_of_ble_eq_true rfl) trivial H (fun r7 M8 hr H => ?_)
  refine x_istore_n (zdm d_Md_arcTold_0 24 rfl) rfl (zlt rfl) rfl ?_
  refine x_aload_n (zdm d_Md_arcTold_0 25 rfl) rfl (n := 3) rfl ?_
  refine x_iconst (zdm d_Md_arcTold_0 26 rfl) (zIl rfl) ?_
  refine x_iload_n (zdm d_Md_arcTold_0 27 rfl) rfl (n := 0) rfl ?_
  refine x_callVv (n := 2) (ci := 11) (zdm d_Md_arcTold_0 28 rfl) k_Md_313 (As := [(0, 1), (0, r7)]) rfl rfl rfl ⟨_, _, rfl⟩ (Nat.le_of_ble_eq_true rfl) rfl H (fun r9 M10 hr H => ?_)
  refine x_aload_n (zdm d_Md_arcTold_0 29 rfl) rfl (n := 3) rfl ?_
  refine x_iconst (zdm d_Md_arcTold_0 30 rfl) (zIl rfl) ?_
  refine x_iload_n (zdm d_Md_arcTold_0 31 rfl) rfl (n := 2) rfl ?_
  refine x_callVv (n := 2) (ci := 11) (zdm d_Md_arcTold_0 32 rfl) k_Md_313 (As := [(0, 2), (0, r1)]) rfl rfl rfl ⟨_, _, rfl⟩ (Nat.le_of_ble_eq_true rfl) rfl H (fun r11 M12 hr H => ?_)
  refine x_aload_n (zdm d_Md_arcTold_0 33 rfl) rfl (n := 3) rfl ?_
  refine x_iconst (zdm d_Md_arcTold_0 34 rfl) (zIl rfl) ?_
  refine x_aload_n (zdm d_Md_arcTold_0 35 rfl) rfl (n := 3) rfl ?_
  refine x_aload_n (zdm d_Md_arcTold_0 36 rfl) rfl (n := 3) rfl ?_
  refine x_getG (zdm d_Md_arcTold_0 37 rfl) f_Md_54 rfl rfl (by decide) hsl rfl ?_
  refine x_iconst (zdm d_Md_arcTold_0 38 rfl) (zIl rfl) ?_
  refine x_iload_n (zdm d_Md_arcTold_0 39 rfl) rfl (n := 0) rfl ?_
  refine x_callVi (n := 3) (ci := 11) (zdm d_Md_arcTold_0 40 rfl) k_Md_310 (As := [(2, 139), (0, 1), (0, r7)]) rfl rfl rfl ⟨_, _, rfl⟩ (Nat.le_of_ble_eq_true rfl) trivial H (fun r13 M14 hr H => ?_)
  refine x_callVv (n := 2) (ci := 11) (zdm d_Md_arcTold_0 41 rfl) k_Md_313 (As := [(0, 3), (0, r13)]) rfl rfl rfl ⟨_, _, rfl⟩ (Nat.le_of_ble_eq_true rfl) rfl H (fun r15 M16 hr H => ?_)
  refine x_aload_n (zdm d_Md_arcTold_0 42 rfl) rfl (n := 3) rfl ?_
  refine x_iconst (zdm d_Md_arcTold_0 43 rfl) (zIl rfl) ?_
  refine x_iload_n (zdm d_Md_arcTold_0 44 rfl) rfl (n := 1) rfl ?_
  refine x_callVv (n := 2) (ci := 11) (zdm d_Md_arcTold_0 45 rfl) k_Md_313 (As := [(0, 4), (0, r4)]) rfl rfl rfl ⟨_, _, rfl⟩ (Nat.le_of_ble_eq_true rfl) rfl H (fun r17 M18 hr H => ?_)
  refine x_aload_n (zdm d_Md_arcTold_0 46 rfl) rfl (n := 3) rfl ?_
  refine x_bipush (zdm d_Md_arcTold_0 47 rfl) (by decide) ?_
  refine x_aload_n (zdm d_Md_arcTold_0 48 rfl) rfl (n := 3) rfl ?_
  refine x_aload_n (zdm d_Md_arcTold_0 49 rfl) rfl (n := 3) rfl ?_
  refine x_getG (zdm d_Md_arcTold_0 50 rfl) f_Md_57 rfl rfl (by decide) hsl rfl ?_
  refine x_iconst (zdm d_Md_arcTold_0 51 rfl) (zIl rfl) ?_
  refine x_iload_n (zdm d_Md_arcTold_0 52 rfl) rfl (n := 2) rfl ?_
  refine x_iload_n (zdm d_Md_arcTold_0 53 rfl) rfl (n := 0) rfl ?_
  obtain ⟨g19, H⟩ := H
  refine x_isub (zdm d_Md_arcTold_0 54 rfl) g19 ?_
  refine x_callVi (n := 3) (ci := 11) (zdm d_Md_arcTold_0 55 rfl) k_Md_310 (As := [(2, 140), (0, 1), (0, (r1 - r7))]) rfl rfl rfl ⟨_, _, rfl⟩ (Nat.le_of_ble_eq_true rfl) trivial H (fun r20 M21 hr H => ?_)
  refine x_callVv (n := 2) (ci := 11) (zdm d_Md_arcTold_0 56 rfl) k_Md_313 (As := [(0, 6), (0, r20)]) rfl rfl rfl ⟨_, _, rfl⟩ (Nat.le_of_ble_eq_true rfl) rfl H (fun r22 M23 hr H => ?_)
  exact x_return (zdm d_Md_arcTold_0 57 rfl) rfl H
set_option maxRecDepth 20000 in
set_option maxHeartbeats 4000000 in
theorem B_Md_reads_70 {G : zG} {h sl : Nat} (hsl : 2 ≤ sl) {u : Nat × Nat × Nat × Nat} {l1 l3 : Int} {M : zM} {Q : Int → zM → Prop} (H : ((M 125 90) ≤ l3 → (0 ≤ l1 ∧ l1 < 18) ∧ (Q 0 (zwr M 162 l1 (M 125 48)))) ∧ (¬ (M 125 90) ≤ l3 → (0 ≤ l3 ∧ l3 < 1700) ∧ ((0 ≤ (M 125 48) ∧ (M 125 48) < 3200) ∧ ((zI (((zwr M 163 (M 125 48) (M 193 l3)) 125 48) + 1)) ∧ ((zI (l3 + 1)) ∧ (zX G (y_Md_reads, h + 1, sl) u 70 [(0, (2, 125)), (1, (0, l1)), (3, (0, (l3 + 1)))] [] (zwr (zwr M 163 (M 125 48) (M 193 l3)) 125 48 (((zwr M 163 (M 125 48) (M 193 l3)) 125 48) + 1)) Q)))))) : zX G (y_Md_reads, h + 1, sl) u 70 [(0, (2, 125)), (1, (0, l1)), (3, (0, l3))] [] M Q := by
  refine x_iload_n (zdm d_Md_reads_0 39 rfl) rfl (n := 2) rfl ?_
  refine x_aload_n (zdm d_Md_reads_0 40 rfl) rfl (n := 0) rfl ?_
  refine x_getf (zdm d_Md_reads_0 41 rfl) f_Md_316 rfl rfl ?_
  refine x_icmpge (tgt := 109) (zdm d_Md_reads_0 42 rfl) (by decide) (fun c => ?_) (fun c => ?_)
  · have H := H.1 c
    refine x_aload_n (zdm d_Md_reads_1 0 rfl) rfl (n := 0) rfl ?_
    refine x_getG (zdm d_Md_reads_1 1 rfl) f_Md_124 rfl rfl (by decide) hsl rfl ?_
    refine x_iload_n (zdm d_Md_reads_1 2 rfl) rfl (n := 1) rfl ?_
    refine x_aload_n (zdm d_Md_reads_1 3 rfl) rfl (n := 0) rfl ?_
    refine x_getf (zdm d_Md_reads_1 4 rfl) f_Md_334 rfl rfl ?_
    obtain ⟨g1, H⟩ := H
    refine x_iast (zdm d_Md_reads_1 5 rfl) rfl g1 ?_
    exact x_return (zdm d_Md_reads_1 6 rfl) rfl H
  · have H := H.2 c
    refine x_aload_n (zdm d_Md_reads_0 43 rfl) rfl (n := 0) rfl ?_
    refine x_getG (zdm d_Md_reads_0 44 rfl) f_Md_127 rfl rfl (by decide) hsl rfl ?_
    refine x_aload_n (zdm d_Md_reads_0 45 rfl) rfl (n := 0) rfl ?_
    refine x_getf (zdm d_Md_reads_0 46 rfl) f_Md_334 rfl rfl ?_
    refine x_aload_n (zdm d_Md_reads_0 47 rfl) rfl (n := 0) rfl ?_
    refine x_getG (zdm d_Md_reads_0 48 rfl) f_Md_222 rfl rfl (by decide) hsl rfl ?_
    refine x_iload_n (zdm d_Md_reads_0 49 rfl) rfl (n := 2) rfl ?_
    obtain ⟨g2, H⟩ := H
    refine x_iald (zdm d_Md_reads_0 50 rfl) rfl g2 ?_
    obtain ⟨g3, H⟩ := H
    refine x_iast (zdm d_Md_reads_0 51 rfl) rfl g3 ?_
    refine x_aload_n (zdm d_Md_reads_0 52 rfl) rfl (n := 0) rfl ?_
    refine x_dup (zdm d_Md_reads_0 53 rfl) z2n1 ?_
    refine x_getf (zdm d_Md_reads_0 54 rfl) f_Md_334 rfl rfl ?_
    refine x_iconst (zdm d_Md_reads_0 55 rfl) (zIl rfl) ?_
    obtain ⟨g4, H⟩ := H
    refine x_iadd (zdm d_Md_reads_0 56 rfl) g4 ?_
    refine x_putf (zdm d_Md_reads_0 57 rfl) f_Md_334 rfl ⟨rfl, trivial⟩ (Or.inl rfl) ?_
    obtain ⟨g5, H⟩ := H
    refine x_iinc (zdm d_Md_reads_0 58 rfl) (n := 2) rfl g5 (zlt rfl) rfl ?_
    refine x_goto (tgt := 70) (zdm d_Md_reads_0 59 rfl) (by decide) ?_
    exact zX.sub [1, 2, 0] rfl H
set_option maxRecDepth 20000 in
set_option maxHeartbeats 4000000 in
theorem B_Md_reads_50 {G : zG} {h sl : Nat} (hsl : 2 ≤ sl) {u : Nat × Nat × Nat × Nat} {l1 : Int} {M : zM} {Q : Int → zM → Prop} (H : ((M 125 5) = 0 → (0 ≤ l1 ∧ l1 < 18) ∧ (zX G (y_Md_reads, h + 1, sl) u 70 [(0, (2, 125)), (1, (0, l1)), (3, (0, 0))] [] (zwr M 161 l1 (M 125 48)) Q)) ∧ (¬ (M 125 5) = 0 → Q 0 M)) : zX G (y_Md_reads, h + 1, sl) u 50 [(0, (2, 125)), (1, (0, l1))] [] M Q := by
  refine x_aload_n (zdm d_Md_reads_0 27 rfl) rfl (n := 0) rfl ?_
  refine x_getf (zdm d_Md_reads_0 28 rfl) f_Md_237 rfl rfl ?_
  refine x_ifeq (tgt := 58) (zdm d_Md_reads_0 29 rfl) (by decide) (fun c => ?_) (fun c => ?_)
  · have H := H.1 c
    refine x_aload_n (zdm d_Md_reads_0 31 rfl) rfl (n := 0) rfl ?_
    refine x_getG (zdm d_Md_reads_0 32 rfl) f_Md_121 rfl rfl (by decide) hsl rfl ?_
    refine x_iload_n (zdm d_Md_reads_0 33 rfl) rfl (n := 1) rfl ?_
    refine x_aload_n (zdm d_Md_reads_0 34 rfl) rfl (n := 0) rfl ?_
    refine x_getf (zdm d_Md_reads_0 35 rfl) f_Md_334 rfl rfl ?_
    obtain ⟨g1, H⟩ := H
    refine x_iast (zdm d_Md_reads_0 36 rfl) rfl g1 ?_
    refine x_iconst (zdm d_Md_reads_0 37 rfl) (zIl rfl) ?_
    refine x_istore_n (zdm d_Md_reads_0 38 rfl) rfl (zlt rfl) rfl ?_
    exact zX.sub [1, 2, 0] rfl H
  · have H := H.2 c
    exact x_return (zdm d_Md_reads_0 30 rfl) rfl H
set_option maxRecDepth 20000 in
set_option maxHeartbeats 4000000 in
theorem E_Md_reads {G : zG} {h sl : Nat} (hsl : 2 ≤ sl) {l1 l2 : Int} {M : zM} {Q : Int → zM → Prop} (H : ((M 125 5) = 0 → (¬ l1 = 8 → zCt G h sl 0 0 y_Md_qSums [(2, 125)] (zwr (zwr (zwr (zwr (zwr M 125 50 l2) 125 90 0) 125 92 0) 125 93 0) 125 94 0) (fun r1 M2 => zX G (y_Md_reads, h + 1, sl) (0, 0, 0, 0) 50 [(0, (2, 125)), (1, (0, l1))] [] M2 Q)) ∧ (¬ (¬ l1 = 8) → zCt G h sl 0 0 y_Md_qTest [(2, 125)] (zwr (zwr (zwr (zwr (zwr M 125 50 l2) 125 90 0) 125 92 0) 125 93 0) 125 94 0) (fun r3 M4 => zX G (y_Md_reads, h + 1, sl) (0, 0, 0, 0) 50 [(0, (2, 125)), (1, (0, l1))] [] M4 Q))) ∧ (¬ (M 125 5) = 0 → Q 0 M)) : zCt G (h + 1) sl 0 0 y_Md_reads [(2, 125), (0, l1), (0, l2)] M Q := by
  refine zCt.of (by decide +kernel) (Nat.le_of_ble_eq_true rfl) ?_
  refine x_aload_n (zdm d_Md_reads_0 0 rfl) rfl (n := 0) rfl ?_
  refine x_getf (zdm d_Md_reads_0 1 rfl) f_Md_237 rfl rfl ?_
  refine x_ifeq (tgt := 8) (zdm d_Md_reads_0 2 rfl) (by decide) (fun c => ?_) (fun c => ?_)
  · have H := H.1 c
    refine x_aload_n (zdm d_Md_reads_0 4 rfl) rfl (n := 0) rfl ?_
    refine x_iload_n (zdm d_Md_reads_0 5 rfl) rfl (n := 2) rfl ?_
    refine x_putf (zdm d_Md_reads_0 6 rfl) f_Md_295 rfl ⟨rfl, trivial⟩ (Or.inl rfl) ?_
    refine x_aload_n (zdm d_Md_reads_0 7 rfl) rfl (n := 0) rfl ?_
    refine x_iconst (zdm d_Md_reads_0 8 rfl) (zIl rfl) ?_
    refine x_putf (zdm d_Md_reads_0 9 rfl) f_Md_316 rfl ⟨rfl, trivial⟩ (Or.inl rfl) ?_
    refine x_aload_n (zdm d_Md_reads_0 10 rfl) rfl (n := 0) rfl ?_
    refine x_iconst (zdm d_Md_reads_0 11 rfl) (zIl rfl) ?_
    refine x_putf (zdm d_Md_reads_0 12 rfl) f_Md_319 rfl ⟨rfl, trivial⟩ (Or.inl rfl) ?_
    refine x_aload_n (zdm d_Md_reads_0 13 rfl) rfl (n := 0) rfl ?_
    refine x_iconst (zdm d_Md_reads_0 14 rfl) (zIl rfl) ?_
    refine x_putf (zdm d_Md_reads_0 15 rfl) f_Md_322 rfl ⟨rfl, trivial⟩ (Or.inl rfl) ?_
    refine x_aload_n (zdm d_Md_reads_0 16 rfl) rfl (n := 0) rfl ?_
    refine x_iconst (zdm d_Md_reads_0 17 rfl) (zIl rfl) ?_
    refine x_putf (zdm d_Md_reads_0 18 rfl) f_Md_325 rfl ⟨rfl, trivial⟩ (Or.inl rfl) ?_
    refine x_iload_n (zdm d_Md_reads_0 19 rfl) rfl (n := 1) rfl ?_
    refine x_bipush (zdm d_Md_reads_0 20 rfl) (by decide) ?_
    refine x_icmpne (tgt := 46) (zdm d_Md_reads_0 21 rfl) (by decide) (fun c => ?_) (fun c => ?_)
    · have H := H.1 c
      refine x_aload_n (zdm d_Md_reads_0 25 rfl) rfl (n := 0) rfl ?_
      refine x_callVv (n := 0) (ci := 11) (zdm d_Md_reads_0 26 rfl) k_Md_331 (As := []) rfl rfl rfl ⟨_, _, rfl⟩ (Nat.le_of_ble_eq_true rfl) rfl H (fun r1 M2 hr H => ?_)
      exact zX.sub [0, 1] rfl H
    · have H := H.2 c
      refine x_aload_n (zdm d_Md_reads_0 22 rfl) rfl (n := 0) rfl ?_
      refine x_callVv (n := 0) (ci := 11) (zdm d_Md_reads_0 23 rfl) k_Md_328 (As := []) rfl rfl rfl ⟨_, _, rfl⟩ (Nat.le_of_ble_eq_true rfl) rfl H (fun r3 M4 hr H => ?_)
      refine x_goto (tgt := 50) (zdm d_Md_reads_0 24 rfl) (by decide) ?_
      exact zX.sub [0, 1] rfl H
  · have H := H.2 c
    exact x_return (zdm d_Md_reads_0 3 rfl) rfl H
set_option maxRecDepth 20000 in
set_option maxHeartbeats 4000000 in
theorem E_Md_ringTold {G : zG} {h sl : Nat} (hsl : 2 ≤ sl) {M : zM} {Q : Int → zM → Prop} (H : zCt G h sl 0 0 y_Md_told [(2, 125), (2, 138), (0, 2), (0, 999)] M (fun r1 M2 => zCt G h sl 0 0 y_Md_laid [(2, 125), (0, 2), (0, r1)] M2 (fun r3 M4 => (zI (r1 - 1)) ∧ (zCt G h sl 0 0 y_Md_told [(2, 125), (2, 135), (0, 0), (0, (r1 - 1))] M4 (fun r6 M7 => zCt G h sl 0 0 y_Md_laid [(2, 125), (0, 4), (0, r6)] M7 (fun r8 M9 => zCt G h sl 0 0 y_Md_asks [(2, 125), (2, 134)] M9 (fun r10 M11 => zCt G h sl 0 0 y_Md_reads [(2, 125), (0, (M11 158 0)), (0, 0)] M11 (fun r12 M13 => Q 0 M13)))))))) : zCt G (h + 1) sl 0 0 y_Md_ringTold [(2, 125)] M Q := by
  refine zCt.of (by decide +kernel) (Nat.le_of_ble_eq_true rfl) ?_
  refine x_aload_n (zdm d_Md_ringTold_0 0 rfl) rfl (n := 0) rfl ?_
  refine x_aload_n (zdm d_Md_ringTold_0 1 rfl) rfl (n := 0) rfl ?_
  refine x_getG (zdm d_Md_ringTold_0 2 rfl) f_Md_51 rfl rfl (by decide) hsl rfl ?_
  refine x_iconst (zdm d_Md_ringTold_0 3 rfl) (zIl rfl) ?_
  refine x_sipush (zdm d_Md_ringTold_0 4 rfl) (by decide) ?_
  refine x_callVi (n := 3) (ci := 11) (zdm d_Md_ringTold_0 5 rfl) k_Md_310 (As := [(2, 138), (0, 2), (0, 999)]) rfl rfl rfl ⟨_, _, rfl⟩ (Nat.le_of_ble_eq_true rfl) trivial H (fun r1 M2 hr H => ?_)
  refine x_istore_n (zdm d_Md_ringTold_0 6 rfl) rfl (zlt rfl) rfl ?_
  refine x_aload_n (zdm d_Md_ringTold_0 7 rfl) rfl (n := 1) rfl ?_
  refine x_iconst (zdm d_Md_ringTold_0 8 rfl) (zIl rfl) ?_
  refine x_iload_n (zdm d_Md_ringTold_0 9 rfl) rfl (n := 0) rfl ?_
  refine x_callVv (n := 2) (ci := 11) (zdm d_Md_ringTold_0 10 rfl) k_Md_313 (As := [(0, 2), (0, r1)]) rfl rfl rfl ⟨_, _, rfl⟩ (Nat.le_of_ble_eq_true rfl) rfl H (fun r3 M4 hr H => ?_)
  refine x_aload_n (zdm d_Md_ringTold_0 11 rfl) rfl (n := 1) rfl ?_
  refine x_iconst (zdm d_Md_ringTold_0 12 rfl) (zIl rfl) ?_
  refine x_aload_n (zdm d_Md_ringTold_0 13 rfl) rfl (n := 1) rfl ?_
  refine x_aload_n (zdm d_Md_ringTold_0 14 rfl) rfl (n := 1) rfl ?_
  refine x_getG (zdm d_Md_ringTold_0 15 rfl) f_Md_42 rfl rfl (by decide) hsl rfl ?_
  refine x_iconst (zdm d_Md_ringTold_0 16 rfl) (zIl rfl) ?_
  refine x_iload_n (zdm d_Md_ringTold_0 17 rfl) rfl (n := 0) rfl ?_
  refine x_iconst (zdm d_Md_ringTold_0 18 rfl) (zIl rfl) ?_
  obtain ⟨g5, H⟩ := H
  refine x_isub (zdm d_Md_ringTold_0 19 rfl) g5 ?_
  refine x_callVi (n := 3) (ci := 11) (zdm d_Md_ringTold_0 20 rfl) k_Md_310 (As := [(2, 135), (0, 0), (0, (r1 - 1))]) rfl rfl rfl ⟨_, _, rfl⟩ (Nat.le_of_ble_eq_true rfl) trivial H (fun r6 M7 hr H => ?_)
  refine x_callVv (n := 2) (ci := 11) (zdm d_Md_ringTold_0 21 rfl) k_Md_313 (As := [(0, 4), (0, r6)]) rfl rfl rfl ⟨_, _, rfl⟩ (Nat.le_of_ble_eq_true rfl) rfl H (fun r8 M9 hr H => ?_)
  refine x_aload_n (zdm d_Md_ringTold_0 22 rfl) rfl (n := 1) rfl ?_
  refine x_aload_n (zdm d_Md_ringTold_0 23 rfl) rfl (n := 1) rfl ?_
  refine x_getG (zdm d_Md_ringTold_0 24 rfl) f_Md_39 rfl rfl (by decide) hsl rfl ?_
  refine x_callVv (n := 1) (ci := 11) (zdm d_Md_ringTold_0 25 rfl) k_Md_302 (As := [(2, 134)]) rfl rfl rfl ⟨_, _, rfl⟩ (Nat.le_of_ble_eq_true rfl) rfl H (fun r10 M11 hr H => ?_)
  refine x_aload_n (zdm d_Md_ringTold_0 26 rfl) rfl (n := 1) rfl ?_
  refine x_aload_n (zdm d_Md_ringTold_0 27 rfl) rfl (n := 1) rfl ?_
  refine x_getG (zdm d_Md_ringTold_0 28 rfl) f_Md_111 rfl rfl (by decide) hsl rfl ?_
  refine x_iconst (zdm d_Md_ringTold_0 29 rfl) (zIl rfl) ?_
  refine x_iald (zdm d_Md_ringTold_0 30 rfl) rfl ⟨by decide, by decide⟩ ?_
  refine x_iconst (zdm d_Md_ringTold_0 31 rfl) (zIl rfl) ?_
  refine x_callVv (n := 2) (ci := 11) (zdm d_Md_ringTold_0 32 rfl) k_Md_337 (As := [(0, (M11 158 0)), (0, 0)]) rfl rfl rfl ⟨_, _, rfl⟩ (Nat.le_of_ble_eq_true rfl) rfl H (fun r12 M13 hr H => ?_)
  exact x_return (zdm d_Md_ringTold_0 33 rfl) rfl H
set_option maxRecDepth 20000 in
set_option maxHeartbeats 4000000 in
theorem B_Md_columnTold_117 {G : zG} {h sl : Nat} (hsl : 2 ≤ sl) {u : Nat × Nat × Nat × Nat} {l3 : Int} {M : zM} {Q : Int → zM → Prop} (H : ((M 125 5) = 0 → (0 ≤ (M 158 0) ∧ (M 158 0) < 16) ∧ ((zI (((zwr M 159 (M 158 0) l3) 158 0) + 1)) ∧ (Q 0 (zwr (zwr M 159 (M 158 0) l3) 158 0 (((zwr M 159 (M 158 0) l3) 158 0) + 1))))) ∧ (¬ (M 125 5) = 0 → Q 0 M)) : zX G (y_Md_columnTold, h + 1, sl) u 117 [(0, (2, 125)), (3, (1, l3))] [] M Q := by
  refine x_aload_n (zdm d_Md_columnTold_1 3 rfl) rfl (n := 0) rfl ?_
  refine x_getf (zdm d_Md_columnTold_1 4 rfl) f_Md_237 rfl rfl ?_
  refine x_ifeq (tgt := 125) (zdm d_Md_columnTold_1 5 rfl) (by decide) (fun c => ?_) (fun c => ?_)
  · have H := H.1 c
    refine x_aload_n (zdm d_Md_columnTold_1 7 rfl) rfl (n := 0) rfl ?_
    refine x_getG (zdm d_Md_columnTold_1 8 rfl) f_Md_114 rfl rfl (by decide) hsl rfl ?_
    refine x_aload_n (zdm d_Md_columnTold_1 9 rfl) rfl (n := 0) rfl ?_
    refine x_getG (zdm d_Md_columnTold_1 10 rfl) f_Md_111 rfl rfl (by decide) hsl rfl ?_
    refine x_iconst (zdm d_Md_columnTold_1 11 rfl) (zIl rfl) ?_
    refine x_iald (zdm d_Md_columnTold_1 12 rfl) rfl ⟨by decide, by decide⟩ ?_
    refine x_lload_n (zdm d_Md_columnTold_1 13 rfl) rfl (n := 1) rfl ?_
    obtain ⟨g1, H⟩ := H
    refine x_last (zdm d_Md_columnTold_1 14 rfl) rfl g1 ?_
    refine x_aload_n (zdm d_Md_columnTold_1 15 rfl) rfl (n := 0) rfl ?_
    refine x_getG (zdm d_Md_columnTold_1 16 rfl) f_Md_111 rfl rfl (by decide) hsl rfl ?_
    refine x_iconst (zdm d_Md_columnTold_1 17 rfl) (zIl rfl) ?_
    refine x_dup2 (zdm d_Md_columnTold_1 18 rfl) z0n1 z2n1 ?_
    refine x_iald (zdm d_Md_columnTold_1 19 rfl) rfl ⟨by decide, by decide⟩ ?_
    refine x_iconst (zdm d_Md_columnTold_1 20 rfl) (zIl rfl) ?_
    obtain ⟨g2, H⟩ := H
    refine x_iadd (zdm d_Md_columnTold_1 21 rfl) g2 ?_
    refine x_iast (zdm d_Md_columnTold_1 22 rfl) rfl ⟨by decide, by decide⟩ ?_
    exact x_return (zdm d_Md_columnTold_1 23 rfl) rfl H
  · have H := H.2 c
    exact x_return (zdm d_Md_columnTold_1 6 rfl) rfl H
set_option maxRecDepth 20000 in
set_option maxHeartbeats 4000000 in
theorem B_Md_columnTold_34 {G : zG} {h sl : Nat} (hsl : 2 ≤ sl) {u : Nat × Nat × Nat × Nat} {l1 l3 : Int} {M : zM} {Q : Int → zM → Prop} (H : (7 ≤ l3 → zCt G h sl 0 0 y_Md_newName [(2, 125)] M (fun r1 M2 => zCt G h sl 0 0 y_Md_laid [(2, 125), (0, 0), (0, l1)] M2 (fun r3 M4 => (¬ l1 = 0 → (¬ l1 = 1 → (¬ l1 = 2 → zCt G h sl 0 0 y_Md_asks [(2, 125), (2, 141)] M4 (fun r5 M6 => zCt G h sl 0 0 y_Md_reads [(2, 125), (0, (M6 158 0)), (0, 0)] M6 (fun r7 M8 => zX G (y_Md_columnTold, h + 1, sl) u 117 [(0, (2, 125)), (3, (1, r1))] [] M8 Q))) ∧ (¬ (¬ l1 = 2) → zCt G h sl 0 0 y_Md_ringTold [(2, 125)] M4 (fun r9 M10 => zX G (y_Md_columnTold, h + 1, sl) u 117 [(0, (2, 125)), (3, (1, r1))] [] M10 Q))) ∧ (¬ (¬ l1 = 1) → zCt G h sl 0 0 y_Md_arcTold [(2, 125)] M4 (fun r11 M12 => zX G (y_Md_columnTold, h + 1, sl) u 117 [(0, (2, 125)), (3, (1, r1))] [] M12 Q))) ∧ (¬ (¬ l1 = 0) → zCt G h sl 0 0 y_Md_zigTold [(2, 125)] M4 (fun r13 M14 => zX G (y_Md_columnTold, h + 1, sl) u 117 [(0, (2, 125)), (3, (1, r1))] [] M14 Q))))) ∧ (¬ 7 ≤ l3 → zCt G h sl 0 0 y_Md_laid [(2, 125), (0, l3), (0, 0)] M (fun r15 M16 => (zI (l3 + 1)) ∧ (zX G (y_Md_columnTold, h + 1, sl) u 34 [(0, (2, 125)), (1, (0, l1)), (3, (0, (l3 + 1)))] [] M16 Q)))) : zX G (y_Md_columnTold, h + 1, sl) u 34 [(0, (2, 125)), (1, (0, l1)), (3, (0, l3))] [] M Q := by
  refine x_iload_n (zdm d_Md_columnTold_0 19 rfl) rfl (n := 2) rfl ?_
  refine x_bipush (zdm d_Md_columnTold_0 20 rfl) (by decide) ?_
  refine x_icmpge (tgt := 52) (zdm d_Md_columnTold_0 21 rfl) (by decide) (fun c => ?_) (fun c => ?_)
  · have H := H.1 c
    refine x_aload_n (zdm d_Md_columnTold_0 28 rfl) rfl (n := 0) rfl ?_
    refine x_callVl (n := 0) (ci := 11) (zdm d_Md_columnTold_0 29 rfl) k_Md_340 (As := []) rfl rfl rfl ⟨_, _, rfl⟩ (Nat.le_of_ble_eq_true rfl) rfl H (fun r1 M2 hr H => ?_)
    refine x_lstore_n (zdm d_Md_columnTold_0 30 rfl) rfl (zlt rfl) rfl ?_
    refine x_aload_n (zdm d_Md_columnTold_0 31 rfl) rfl (n := 1) rfl ?_
    refine x_iconst (zdm d_Md_columnTold_0 32 rfl) (zIl rfl) ?_
    refine x_iload_n (zdm d_Md_columnTold_0 33 rfl) rfl (n := 2) rfl ?_
    refine x_callVv (n := 2) (ci := 11) (zdm d_Md_columnTold_0 34 rfl) k_Md_313 (As := [(0, 0), (0, l1)]) rfl rfl rfl ⟨_, _, rfl⟩ (Nat.le_of_ble_eq_true rfl) rfl H (fun r3 M4 hr H => ?_)
    refine x_iload_n (zdm d_Md_columnTold_0 35 rfl) rfl (n := 2) rfl ?_
    refine x_ifne (tgt := 74) (zdm d_Md_columnTold_0 36 rfl) (by decide) (fun c => ?_) (fun c => ?_)
    · have H := H.1 c
      refine x_iload_n (zdm d_Md_columnTold_0 40 rfl) rfl (n := 2) rfl ?_
      refine x_iconst (zdm d_Md_columnTold_0 41 rfl) (zIl rfl) ?_
      refine x_icmpne (tgt := 86) (zdm d_Md_columnTold_0 42 rfl) (by decide) (fun c => ?_) (fun c => ?_)
      · have H := H.1 c
        refine x_iload_n (zdm d_Md_columnTold_0 46 rfl) rfl (n := 2) rfl ?_
        refine x_iconst (zdm d_Md_columnTold_0 47 rfl) (zIl rfl) ?_
        refine x_icmpne (tgt := 98) (zdm d_Md_columnTold_0 48 rfl) (by decide) (fun c => ?_) (fun c => ?_)
        · have H := H.1 c
          refine x_aload_n (zdm d_Md_columnTold_0 52 rfl) rfl (n := 1) rfl ?_
          refine x_aload_n (zdm d_Md_columnTold_0 53 rfl) rfl (n := 1) rfl ?_
          refine x_getG (zdm d_Md_columnTold_0 54 rfl) f_Md_60 rfl rfl (by decide) hsl rfl ?_
          refine x_callVv (n := 1) (ci := 11) (zdm d_Md_columnTold_0 55 rfl) k_Md_302 (As := [(2, 141)]) rfl rfl rfl ⟨_, _, rfl⟩ (Nat.le_of_ble_eq_true rfl) rfl H (fun r5 M6 hr H => ?_)
          refine x_aload_n (zdm d_Md_columnTold_0 56 rfl) rfl (n := 1) rfl ?_
          refine x_aload_n (zdm d_Md_columnTold_0 57 rfl) rfl (n := 1) rfl ?_
          refine x_getG (zdm d_Md_columnTold_0 58 rfl) f_Md_111 rfl rfl (by decide) hsl rfl ?_
          refine x_iconst (zdm d_Md_columnTold_0 59 rfl) (zIl rfl) ?_
          refine x_iald (zdm d_Md_columnTold_1 0 rfl) rfl ⟨by decide, by decide⟩ ?_
          refine x_iconst (zdm d_Md_columnTold_1 1 rfl) (zIl rfl) ?_
          refine x_callVv (n := 2) (ci := 11) (zdm d_Md_columnTold_1 2 rfl) k_Md_337 (As := [(0, (M6 158 0)), (0, 0)]) rfl rfl rfl ⟨_, _, rfl⟩ (Nat.le_of_ble_eq_true rfl) rfl H (fun r7 M8 hr H => ?_)
          exact zX.sub [1, 0] rfl H
        · have H := H.2 c
          refine x_aload_n (zdm d_Md_columnTold_0 49 rfl) rfl (n := 1) rfl ?_
          refine x_callVv (n := 0) (ci := 11) (zdm d_Md_columnTold_0 50 rfl) k_Md_349 (As := []) rfl rfl rfl ⟨_, _, rfl⟩ (Nat.le_of_ble_eq_true rfl) rfl H (fun r9 M10 hr H => ?_)
          refine x_goto (tgt := 117) (zdm d_Md_columnTold_0 51 rfl) (by decide) ?_
          exact zX.sub [1, 0] rfl H
      · have H := H.2 c
        refine x_aload_n (zdm d_Md_columnTold_0 43 rfl) rfl (n := 1) rfl ?_
        refine x_callVv (n := 0) (ci := 11) (zdm d_Md_columnTold_0 44 rfl) k_Md_346 (As := []) rfl rfl rfl ⟨_, _, rfl⟩ (Nat.le_of_ble_eq_true rfl) rfl H (fun r11 M12 hr H => ?_)
        refine x_goto (tgt := 117) (zdm d_Md_columnTold_0 45 rfl) (by decide) ?_
        exact zX.sub [1, 0] rfl H
    · have H := H.2 c
      refine x_aload_n (zdm d_Md_columnTold_0 37 rfl) rfl (n := 1) rfl ?_
      refine x_callVv (n := 0) (ci := 11) (zdm d_Md_columnTold_0 38 rfl) k_Md_343 (As := []) rfl rfl rfl ⟨_, _, rfl⟩ (Nat.le_of_ble_eq_true rfl) rfl H (fun r13 M14 hr H => ?_)
      refine x_goto (tgt := 117) (zdm d_Md_columnTold_0 39 rfl) (by decide) ?_
      exact zX.sub [1, 0] rfl H
  · have H := H.2 c
    refine x_aload_n (zdm d_Md_columnTold_0 22 rfl) rfl (n := 0) rfl ?_
    refine x_iload_n (zdm d_Md_columnTold_0 23 rfl) rfl (n := 2) rfl ?_
    refine x_iconst (zdm d_Md_columnTold_0 24 rfl) (zIl rfl) ?_
    refine x_callVv (n := 2) (ci := 11) (zdm d_Md_columnTold_0 25 rfl) k_Md_313 (As := [(0, l3), (0, 0)]) rfl rfl rfl ⟨_, _, rfl⟩ (Nat.le_of_ble_eq_true rfl) rfl H (fun r15 M16 hr H => ?_)
    obtain ⟨g17, H⟩ := H
    refine x_iinc (zdm d_Md_columnTold_0 26 rfl) (n := 2) rfl g17 (zlt rfl) rfl ?_
    refine x_goto (tgt := 34) (zdm d_Md_columnTold_0 27 rfl) (by decide) ?_
    exact zX.sub [1, 2, 0] rfl H
set_option maxRecDepth 20000 in
set_option maxHeartbeats 4000000 in
theorem E_Md_columnTold {G : zG} {h sl : Nat} (hsl : 2 ≤ sl) {l1 l2 : Int} {M : zM} {Q : Int → zM → Prop} (H : (¬ (M 125 5) = 0 → ((M 125 5) = 0 → zX G (y_Md_columnTold, h + 1, sl) (0, 0, 0, 0) 34 [(0, (2, 125)), (1, (0, l1)), (3, (0, 0))] [] M Q) ∧ (¬ (M 125 5) = 0 → Q 0 M)) ∧ (¬ (¬ (M 125 5) = 0) → (¬ (M 158 0) = 8 → ((M 125 5) = 0 → zX G (y_Md_columnTold, h + 1, sl) (0, 0, 0, 0) 34 [(0, (2, 125)), (1, (0, l1)), (3, (0, 0))] [] M Q) ∧ (¬ (M 125 5) = 0 → Q 0 M)) ∧ (¬ (¬ (M 158 0) = 8) → zCt G h sl 0 0 y_Md_fail [(2, 125), (0, 5), (0, l2)] M (fun r1 M2 => ((M2 125 5) = 0 → zX G (y_Md_columnTold, h + 1, sl) (0, 0, 0, 0) 34 [(0, (2, 125)), (1, (0, l1)), (3, (0, 0))] [] M2 Q) ∧ (¬ (M2 125 5) = 0 → Q 0 M2))))) : zCt G (h + 1) sl 0 0 y_Md_columnTold [(2, 125), (0, l1), (0, l2)] M Q := by
  refine zCt.of (by decide +kernel) (Nat.le_of_ble_eq_true rfl) ?_
  refine x_aload_n (zdm d_Md_columnTold_0 0 rfl) rfl (n := 0) rfl ?_
  refine x_getf (zdm d_Md_columnTold_0 1 rfl) f_Md_237 rfl rfl ?_
  refine x_ifne (tgt := 24) (zdm d_Md_columnTold_0 2 rfl) (by decide) (fun c => ?_) (fun c => ?_)
  · have H := H.1 c
    refine x_aload_n (zdm d_Md_columnTold_0 13 rfl) rfl (n := 0) rfl ?_
    refine x_getf (zdm d_Md_columnTold_0 14 rfl) f_Md_237 rfl rfl ?_
    refine x_ifeq (tgt := 32) (zdm d_Md_columnTold_0 15 rfl) (by decide) (fun c => ?_) (fun c => ?_)
    · have H := H.1 c
      refine x_iconst (zdm d_Md_columnTold_0 17 rfl) (zIl rfl) ?_
      refine x_istore_n (zdm d_Md_columnTold_0 18 rfl) rfl (zlt rfl) rfl ?_
      exact zX.sub [1, 2, 0] rfl H
    · have H := H.2 c
      exact x_return (zdm d_Md_columnTold_0 16 rfl) rfl H
  · have H := H.2 c
    refine x_aload_n (zdm d_Md_columnTold_0 3 rfl) rfl (n := 0) rfl ?_
    refine x_getG (zdm d_Md_columnTold_0 4 rfl) f_Md_111 rfl rfl (by decide) hsl rfl ?_
    refine x_iconst (zdm d_Md_columnTold_0 5 rfl) (zIl rfl) ?_
    refine x_iald (zdm d_Md_columnTold_0 6 rfl) rfl ⟨by decide, by decide⟩ ?_
    refine x_bipush (zdm d_Md_columnTold_0 7 rfl) (by decide) ?_
    refine x_icmpne (tgt := 24) (zdm d_Md_columnTold_0 8 rfl) (by decide) (fun c => ?_) (fun c => ?_)
    · have H := H.1 c
      refine x_aload_n (zdm d_Md_columnTold_0 13 rfl) rfl (n := 0) rfl ?_
      refine x_getf (zdm d_Md_columnTold_0 14 rfl) f_Md_237 rfl rfl ?_
      refine x_ifeq (tgt := 32) (zdm d_Md_columnTold_0 15 rfl) (by decide) (fun c => ?_) (fun c => ?_)
      · have H := H.1 c
        refine x_iconst (zdm d_Md_columnTold_0 17 rfl) (zIl rfl) ?_
        refine x_istore_n (zdm d_Md_columnTold_0 18 rfl) rfl (zlt rfl) rfl ?_
        exact zX.sub [1, 2, 0] rfl H
      · have H := H.2 c
        exact x_return (zdm d_Md_columnTold_0 16 rfl) rfl H
    · have H := H.2 c
      refine x_aload_n (zdm d_Md_columnTold_0 9 rfl) rfl (n := 0) rfl ?_
      refine x_iconst (zdm d_Md_columnTold_0 10 rfl) (zIl rfl) ?_
      refine x_iload_n (zdm d_Md_columnTold_0 11 rfl) rfl (n := 2) rfl ?_
      refine x_callVv (n := 2) (ci := 11) (zdm d_Md_columnTold_0 12 rfl) k_Md_267 (As := [(0, 5), (0, l2)]) rfl rfl rfl ⟨_, _, rfl⟩ (Nat.le_of_ble_eq_true rfl) rfl H (fun r1 M2 hr H => ?_)
      refine x_aload_n (zdm d_Md_columnTold_0 13 rfl) rfl (n := 0) rfl ?_
      refine x_getf (zdm d_Md_columnTold_0 14 rfl) f_Md_237 rfl rfl ?_
      refine x_ifeq (tgt := 32) (zdm d_Md_columnTold_0 15 rfl) (by decide) (fun c => ?_) (fun c => ?_)
      · have H := H.1 c
        refine x_iconst (zdm d_Md_columnTold_0 17 rfl) (zIl rfl) ?_
        refine x_istore_n (zdm d_Md_columnTold_0 18 rfl) rfl (zlt rfl) rfl ?_
        exact zX.sub [1, 2, 0] rfl H
      · have H := H.2 c
        exact x_return (zdm d_Md_columnTold_0 16 rfl) rfl H
set_option maxRecDepth 20000 in
set_option maxHeartbeats 4000000 in
theorem B_Md_statementTold_167 {G : zG} {h sl : Nat} (hsl : 2 ≤ sl) {u : Nat × Nat × Nat × Nat} {M : zM} {Q : Int → zM → Prop} (H : zCt G h sl 0 0 y_Md_asksSign [(2, 125), (0, 59)] M (fun r1 M2 => (zI ((M2 125 49) + 1)) ∧ (Q 0 (zwr M2 125 49 ((M2 125 49) + 1))))) : zX G (y_Md_statementTold, h + 1, sl) u 167 [(0, (2, 125))] [] M Q := by
  refine x_aload_n (zdm d_Md_statementTold_1 27 rfl) rfl (n := 0) rfl ?_
  refine x_bipush (zdm d_Md_statementTold_1 28 rfl) (by decide) ?_
  refine x_callVv (n := 1) (ci := 11) (zdm d_Md_statementTold_1 29 rfl) k_Md_358 (As := [(0, 59)]) rfl rfl rfl ⟨_, _, rfl⟩ (Nat.le_of_ble_eq_true rfl) rfl H (fun r1 M2 hr H => ?_)
  refine x_aload_n (zdm d_Md_statementTold_1 30 rfl) rfl (n := 0) rfl ?_
  refine x_dup (zdm d_Md_statementTold_1 31 rfl) z2n1 ?_
  refine x_getf (zdm d_Md_statementTold_1 32 rfl) f_Md_352 rfl rfl ?_
  refine x_iconst (zdm d_Md_statementTold_1 33 rfl) (zIl rfl) ?_
  obtain ⟨g3, H⟩ := H
  refine x_iadd (zdm d_Md_statementTold_1 34 rfl) g3 ?_
  refine x_putf (zdm d_Md_statementTold_1 35 rfl) f_Md_352 rfl ⟨rfl, trivial⟩ (Or.inl rfl) ?_
  exact x_return (zdm d_Md_statementTold_1 36 rfl) rfl H
set_option maxRecDepth 20000 in
set_option maxHeartbeats 4000000 in
theorem B_Md_statementTold_136 {G : zG} {h sl : Nat} (hsl : 2 ≤ sl) {u : Nat × Nat × Nat × Nat} {M : zM} {Q : Int → zM → Prop} (H : zCt G h sl 0 0 y_Md_reads [(2, 125), (0, 8), (0, 1)] M (fun r1 M2 => zX G (y_Md_statementTold, h + 1, sl) u 167 [(0, (2, 125))] [] M2 Q)) : zX G (y_Md_statementTold, h + 1, sl) u 136 [(0, (2, 125))] [] M Q := by
  refine x_aload_n (zdm d_Md_statementTold_1 10 rfl) rfl (n := 0) rfl ?_
  refine x_bipush (zdm d_Md_statementTold_1 11 rfl) (by decide) ?_
  refine x_iconst (zdm d_Md_statementTold_1 12 rfl) (zIl rfl) ?_
  refine x_callVv (n := 2) (ci := 11) (zdm d_Md_statementTold_1 13 rfl) k_Md_337 (As := [(0, 8), (0, 1)]) rfl rfl rfl ⟨_, _, rfl⟩ (Nat.le_of_ble_eq_true rfl) rfl H (fun r1 M2 hr H => ?_)
  refine x_goto (tgt := 167) (zdm d_Md_statementTold_1 14 rfl) (by decide) ?_
  exact H
set_option maxRecDepth 20000 in
set_option maxHeartbeats 4000000 in
theorem E_Md_statementTold {G : zG} {h sl : Nat} (hsl : 2 ≤ sl) {M : zM} {Q : Int → zM → Prop} (H : (¬ (M 125 49) = 60 → zCt G h sl 0 0 y_Md_takes [(2, 125), (2, 128)] M (fun r1 M2 => (r1 = 0 → zCt G h sl 0 0 y_Md_takes [(2, 125), (2, 129)] M2 (fun r4 M5 => (r4 = 0 → zCt G h sl 0 0 y_Md_takes [(2, 125), (2, 130)] M5 (fun r7 M8 => (r7 = 0 → zCt G h sl 0 0 y_Md_takes [(2, 125), (2, 131)] M8 (fun r10 M11 => (r10 = 0 → zCt G h sl 0 0 y_Md_takes [(2, 125), (2, 142)] M11 (fun r13 M14 => (r13 = 0 → zCt G h sl 0 0 y_Md_asks [(2, 125), (2, 143)] M14 (fun r16 M17 => zCt G h sl 0 0 y_Md_number [(2, 125), (0, 0), (0, 100)] M17 (fun r18 M19 => zX G (y_Md_statementTold, h + 1, sl) (0, 0, 0, 0) 167 [(0, (2, 125))] [] (zwr M19 158 1 r18) Q))) ∧ (¬ r13 = 0 → (¬ (M14 125 5) = 0 → zX G (y_Md_statementTold, h + 1, sl) (0, 0, 0, 0) 136 [(0, (2, 125))] [] M14 Q) ∧ (¬ (¬ (M14 125 5) = 0) → ((M14 161 8) = (-1) → zX G (y_Md_statementTold, h + 1, sl) (0, 0, 0, 0) 136 [(0, (2, 125))] [] M14 Q) ∧ (¬ (M14 161 8) = (-1) → zCt G h sl 0 0 y_Md_fail [(2, 125), (0, 5), (0, (M 125 2))] M14 (fun r20 M21 => zX G (y_Md_statementTold, h + 1, sl) (0, 0, 0, 0) 136 [(0, (2, 125))] [] M21 Q)))))) ∧ (¬ r10 = 0 → zCt G h sl 0 0 y_Md_columnTold [(2, 125), (0, 3), (0, (M 125 2))] M11 (fun r22 M23 => zX G (y_Md_statementTold, h + 1, sl) (0, 0, 0, 0) 167 [(0, (2, 125))] [] M23 Q)))) ∧ (¬ r7 = 0 → zCt G h sl 0 0 y_Md_columnTold [(2, 125), (0, 2), (0, (M 125 2))] M8 (fun r24 M25 => zX G (y_Md_statementTold, h + 1, sl) (0, 0, 0, 0) 167 [(0, (2, 125))] [] M25 Q)))) ∧ (¬ r4 = 0 → zCt G h sl 0 0 y_Md_columnTold [(2, 125), (0, 1), (0, (M 125 2))] M5 (fun r26 M27 => zX G (y_Md_statementTold, h + 1, sl) (0, 0, 0, 0) 167 [(0, (2, 125))] [] M27 Q)))) ∧ (¬ r1 = 0 → zCt G h sl 0 0 y_Md_columnTold [(2, 125), (0, 0), (0, (M 125 2))] M2 (fun r28 M29 => zX G (y_Md_statementTold, h + 1, sl) (0, 0, 0, 0) 167 [(0, (2, 125))] [] M29 Q)))) ∧ (¬ (¬ (M 125 49) = 60) → zCt G h sl 0 0 y_Md_fail [(2, 125), (0, 5), (0, (M 125 2))] M (fun r30 M31 => Q 0 M31))) : zCt G (h + 1) sl 0 0 y_Md_statementTold [(2, 125)] M Q := by
  refine zCt.of (by decide +kernel) (Nat.le_of_ble_eq_true rfl) ?_
  refine x_aload_n (zdm d_Md_statementTold_0 0 rfl) rfl (n := 0) rfl ?_
  refine x_getf (zdm d_Md_statementTold_0 1 rfl) f_Md_243 rfl rfl ?_
  refine x_istore_n (zdm d_Md_statementTold_0 2 rfl) rfl (zlt rfl) rfl ?_
  refine x_aload_n (zdm d_Md_statementTold_0 3 rfl) rfl (n := 1) rfl ?_
  refine x_getf (zdm d_Md_statementTold_0 4 rfl) f_Md_352 rfl rfl ?_
  refine x_bipush (zdm d_Md_statementTold_0 5 rfl) (by decide) ?_
  refine x_icmpne (tgt := 21) (zdm d_Md_statementTold_0 6 rfl) (by decide) (fun c => ?_) (fun c => ?_)
  · have H := H.1 c
    refine x_aload_n (zdm d_Md_statementTold_0 12 rfl) rfl (n := 1) rfl ?_
    refine x_aload_n (zdm d_Md_statementTold_0 13 rfl) rfl (n := 1) rfl ?_
    refine x_getG (zdm d_Md_statementTold_0 14 rfl) f_Md_20 rfl rfl (by decide) hsl rfl ?_
    refine x_callVi (n := 1) (ci := 11) (zdm d_Md_statementTold_0 15 rfl) k_Md_264 (As := [(2, 128)]) rfl rfl rfl ⟨_, _, rfl⟩ (Nat.le_of_ble_eq_true rfl) trivial H (fun r1 M2 hr H => ?_)
    have b3 : r1 = 0 ∨ r1 = 1 := hr
    refine x_ifeq (tgt := 41) (zdm d_Md_statementTold_0 16 rfl) (by decide) (fun c => ?_) (fun c => ?_)
    · have H := H.1 c
      refine x_aload_n (zdm d_Md_statementTold_0 22 rfl) rfl (n := 1) rfl ?_
      refine x_aload_n (zdm d_Md_statementTold_0 23 rfl) rfl (n := 1) rfl ?_
      refine x_getG (zdm d_Md_statementTold_0 24 rfl) f_Md_24 rfl rfl (by decide) hsl rfl ?_
      refine x_callVi (n := 1) (ci := 11) (zdm d_Md_statementTold_0 25 rfl) k_Md_264 (As := [(2, 129)]) rfl rfl rfl ⟨_, _, rfl⟩ (Nat.le_of_ble_eq_true rfl) trivial H (fun r4 M5 hr H => ?_)
      have b6 : r4 = 0 ∨ r4 = 1 := hr
      refine x_ifeq (tgt := 61) (zdm d_Md_statementTold_0 26 rfl) (by decide) (fun c => ?_) (fun c => ?_)
      · have H := H.1 c
        refine x_aload_n (zdm d_Md_statementTold_0 32 rfl) rfl (n := 1) rfl ?_
        refine x_aload_n (zdm d_Md_statementTold_0 33 rfl) rfl (n := 1) rfl ?_
        refine x_getG (zdm d_Md_statementTold_0 34 rfl) f_Md_27 rfl rfl (by decide) hsl rfl ?_
        refine x_callVi (n := 1) (ci := 11) (zdm d_Md_statementTold_0 35 rfl) k_Md_264 (As := [(2, 130)]) rfl rfl rfl ⟨_, _, rfl⟩ (Nat.le_of_ble_eq_true rfl) trivial H (fun r7 M8 hr H => ?_)
        have b9 : r7 = 0 ∨ r7 = 1 := hr
        refine x_ifeq (tgt := 81) (zdm d_Md_statementTold_0 36 rfl) (by decide) (fun c => ?_) (fun c => ?_)
        · have H := H.1 c
          refine x_aload_n (zdm d_Md_statementTold_0 42 rfl) rfl (n := 1) rfl ?_
          refine x_aload_n (zdm d_Md_statementTold_0 43 rfl) rfl (n := 1) rfl ?_
          refine x_getG (zdm d_Md_statementTold_0 44 rfl) f_Md_30 rfl rfl (by decide) hsl rfl ?_
          refine x_callVi (n := 1) (ci := 11) (zdm d_Md_statementTold_0 45 rfl) k_Md_264 (As := [(2, 131)]) rfl rfl rfl ⟨_, _, rfl⟩ (Nat.le_of_ble_eq_true rfl) trivial H (fun r10 M11 hr H => ?_)
          have b12 : r10 = 0 ∨ r10 = 1 := hr
          refine x_ifeq (tgt := 101) (zdm d_Md_statementTold_0 46 rfl) (by decide) (fun c => ?_) (fun c => ?_)
          · have H := H.1 c
            refine x_aload_n (zdm d_Md_statementTold_0 52 rfl) rfl (n := 1) rfl ?_
            refine x_aload_n (zdm d_Md_statementTold_0 53 rfl) rfl (n := 1) rfl ?_
            refine x_getG (zdm d_Md_statementTold_0 54 rfl) f_Md_63 rfl rfl (by decide) hsl rfl ?_
            refine x_callVi (n := 1) (ci := 11) (zdm d_Md_statementTold_0 55 rfl) k_Md_264 (As := [(2, 142)]) rfl rfl rfl ⟨_, _, rfl⟩ (Nat.le_of_ble_eq_true rfl) trivial H (fun r13 M14 hr H => ?_)
            have b15 : r13 = 0 ∨ r13 = 1 := hr
            refine x_ifeq (tgt := 146) (zdm d_Md_statementTold_0 56 rfl) (by decide) (fun c => ?_) (fun c => ?_)
            · have H := H.1 c
              refine x_aload_n (zdm d_Md_statementTold_1 15 rfl) rfl (n := 1) rfl ?_
              refine x_aload_n (zdm d_Md_statementTold_1 16 rfl) rfl (n := 1) rfl ?_
              refine x_getG (zdm d_Md_statementTold_1 17 rfl) f_Md_66 rfl rfl (by decide) hsl rfl ?_
              refine x_callVv (n := 1) (ci := 11) (zdm d_Md_statementTold_1 18 rfl) k_Md_302 (As := [(2, 143)]) rfl rfl rfl ⟨_, _, rfl⟩ (Nat.le_of_ble_eq_true rfl) rfl H (fun r16 M17 hr H => ?_)
              refine x_aload_n (zdm d_Md_statementTold_1 19 rfl) rfl (n := 1) rfl ?_
              refine x_getG (zdm d_Md_statementTold_1 20 rfl) f_Md_111 rfl rfl (by decide) hsl rfl ?_
              refine x_iconst (zdm d_Md_statementTold_1 21 rfl) (zIl rfl) ?_
              refine x_aload_n (zdm d_Md_statementTold_1 22 rfl) rfl (n := 1) rfl ?_
              refine x_iconst (zdm d_Md_statementTold_1 23 rfl) (zIl rfl) ?_
              refine x_bipush (zdm d_Md_statementTold_1 24 rfl) (by decide) ?_
              refine x_callVi (n := 2) (ci := 11) (zdm d_Md_statementTold_1 25 rfl) k_Md_306 (As := [(0, 0), (0, 100)]) rfl rfl rfl ⟨_, _, rfl⟩ (Nat.le_of_ble_eq_true rfl) trivial H (fun r18 M19 hr H => ?_)
              refine x_iast (zdm d_Md_statementTold_1 26 rfl) rfl ⟨by decide, by decide⟩ ?_
              exact zX.sub [1] rfl H
            · have H := H.2 c
              refine x_aload_n (zdm d_Md_statementTold_0 57 rfl) rfl (n := 1) rfl ?_
              refine x_getf (zdm d_Md_statementTold_0 58 rfl) f_Md_237 rfl rfl ?_
              refine x_ifne (tgt := 136) (zdm d_Md_statementTold_0 59 rfl) (by decide) (fun c => ?_) (fun c => ?_)
              · have H := H.1 c
                exact zX.sub [1] rfl H
              · have H := H.2 c
                refine x_aload_n (zdm d_Md_statementTold_1 0 rfl) rfl (n := 1) rfl ?_
                refine x_getG (zdm d_Md_statementTold_1 1 rfl) f_Md_121 rfl rfl (by decide) hsl rfl ?_
                refine x_bipush (zdm d_Md_statementTold_1 2 rfl) (by decide) ?_
                refine x_iald (zdm d_Md_statementTold_1 3 rfl) rfl ⟨by decide, by decide⟩ ?_
                refine x_iconst (zdm d_Md_statementTold_1 4 rfl) (zIl rfl) ?_
                refine x_icmpeq (tgt := 136) (zdm d_Md_statementTold_1 5 rfl) (by decide) (fun c => ?_) (fun c => ?_)
                · have H := H.1 c
                  exact zX.sub [1] rfl H
                · have H := H.2 c
                  refine x_aload_n (zdm d_Md_statementTold_1 6 rfl) rfl (n := 1) rfl ?_
                  refine x_iconst (zdm d_Md_statementTold_1 7 rfl) (zIl rfl) ?_
                  refine x_iload_n (zdm d_Md_statementTold_1 8 rfl) rfl (n := 0) rfl ?_
                  refine x_callVv (n := 2) (ci := 11) (zdm d_Md_statementTold_1 9 rfl) k_Md_267 (As := [(0, 5), (0, (M 125 2))]) rfl rfl rfl ⟨_, _, rfl⟩ (Nat.le_of_ble_eq_true rfl) rfl H (fun r20 M21 hr H => ?_)
                  exact zX.sub [1] rfl H
          · have H := H.2 c
            refine x_aload_n (zdm d_Md_statementTold_0 47 rfl) rfl (n := 1) rfl ?_
            refine x_iconst (zdm d_Md_statementTold_0 48 rfl) (zIl rfl) ?_
            refine x_iload_n (zdm d_Md_statementTold_0 49 rfl) rfl (n := 0) rfl ?_
            refine x_callVv (n := 2) (ci := 11) (zdm d_Md_statementTold_0 50 rfl) k_Md_355 (As := [(0, 3), (0, (M 125 2))]) rfl rfl rfl ⟨_, _, rfl⟩ (Nat.le_of_ble_eq_true rfl) rfl H (fun r22 M23 hr H => ?_)
            refine x_goto (tgt := 167) (zdm d_Md_statementTold_0 51 rfl) (by decide) ?_
            exact zX.sub [1] rfl H
        · have H := H.2 c
          refine x_aload_n (zdm d_Md_statementTold_0 37 rfl) rfl (n := 1) rfl ?_
          refine x_iconst (zdm d_Md_statementTold_0 38 rfl) (zIl rfl) ?_
          refine x_iload_n (zdm d_Md_statementTold_0 39 rfl) rfl (n := 0) rfl ?_
          refine x_callVv (n := 2) (ci := 11) (zdm d_Md_statementTold_0 40 rfl) k_Md_355 (As := [(0, 2), (0, (M 125 2))]) rfl rfl rfl ⟨_, _, rfl⟩ (Nat.le_of_ble_eq_true rfl) rfl H (fun r24 M25 hr H => ?_)
          refine x_goto (tgt := 167) (zdm d_Md_statementTold_0 41 rfl) (by decide) ?_
          exact zX.sub [1] rfl H
      · have H := H.2 c
        refine x_aload_n (zdm d_Md_statementTold_0 27 rfl) rfl (n := 1) rfl ?_
        refine x_iconst (zdm d_Md_statementTold_0 28 rfl) (zIl rfl) ?_
        refine x_iload_n (zdm d_Md_statementTold_0 29 rfl) rfl (n := 0) rfl ?_
        refine x_callVv (n := 2) (ci := 11) (zdm d_Md_statementTold_0 30 rfl) k_Md_355 (As := [(0, 1), (0, (M 125 2))]) rfl rfl rfl ⟨_, _, rfl⟩ (Nat.le_of_ble_eq_true rfl) rfl H (fun r26 M27 hr H => ?_)
        refine x_goto (tgt := 167) (zdm d_Md_statementTold_0 31 rfl) (by decide) ?_
        exact zX.sub [1] rfl H
    · have H := H.2 c
      refine x_aload_n (zdm d_Md_statementTold_0 17 rfl) rfl (n := 1) rfl ?_
      refine x_iconst (zdm d_Md_statementTold_0 18 rfl) (zIl rfl) ?_
      refine x_iload_n (zdm d_Md_statementTold_0 19 rfl) rfl (n := 0) rfl ?_
      refine x_callVv (n := 2) (ci := 11) (zdm d_Md_statementTold_0 20 rfl) k_Md_355 (As := [(0, 0), (0, (M 125 2))]) rfl rfl rfl ⟨_, _, rfl⟩ (Nat.le_of_ble_eq_true rfl) rfl H (fun r28 M29 hr H => ?_)
      refine x_goto (tgt := 167) (zdm d_Md_statementTold_0 21 rfl) (by decide) ?_
      exact zX.sub [1] rfl H
  · have H := H.2 c
    refine x_aload_n (zdm d_Md_statementTold_0 7 rfl) rfl (n := 1) rfl ?_
    refine x_iconst (zdm d_Md_statementTold_0 8 rfl) (zIl rfl) ?_
    refine x_iload_n (zdm d_Md_statementTold_0 9 rfl) rfl (n := 0) rfl ?_
    refine x_callVv (n := 2) (ci := 11) (zdm d_Md_statementTold_0 10 rfl) k_Md_267 (As := [(0, 5), (0, (M 125 2))]) rfl rfl rfl ⟨_, _, rfl⟩ (Nat.le_of_ble_eq_true rfl) rfl H (fun r30 M31 hr H => ?_)
    exact x_return (zdm d_Md_statementTold_0 11 rfl) rfl H
set_option maxRecDepth 20000 in
set_option maxHeartbeats 4000000 in
theorem B_Md_tablet_100 {G : zG} {h sl : Nat} (hsl : 2 ≤ sl) {u : Nat × Nat × Nat × Nat} {M : zM} {Q : Int → zM → Prop} (H : (((zwr (zwr M 125 7 (M 125 5)) 125 8 ((zwr M 125 7 (M 125 5)) 125 6)) 125 5) = 0 → zCt G h sl 0 0 y_Md_stands [(2, 125)] (zwr (zwr M 125 7 (M 125 5)) 125 8 ((zwr M 125 7 (M 125 5)) 125 6)) (fun r1 M2 => Q (M2 125 49) M2)) ∧ (¬ ((zwr (zwr M 125 7 (M 125 5)) 125 8 ((zwr M 125 7 (M 125 5)) 125 6)) 125 5) = 0 → zCt G h sl 0 0 y_Md_refuses [(2, 125), (0, 1)] (zwr (zwr M 125 7 (M 125 5)) 125 8 ((zwr M 125 7 (M 125 5)) 125 6)) (fun r3 M4 => Q r3 M4))) : zX G (y_Md_tablet, h + 1, sl) u 100 [(0, (2, 125))] [] M Q := by
  refine x_aload_n (zdm d_Md_tablet_0 57 rfl) rfl (n := 0) rfl ?_
  refine x_aload_n (zdm d_Md_tablet_0 58 rfl) rfl (n := 0) rfl ?_
  refine x_getf (zdm d_Md_tablet_0 59 rfl) f_Md_237 rfl rfl ?_
  refine x_putf (zdm d_Md_tablet_1 0 rfl) f_Md_365 rfl ⟨rfl, trivial⟩ (Or.inl rfl) ?_
  refine x_aload_n (zdm d_Md_tablet_1 1 rfl) rfl (n := 0) rfl ?_
  refine x_aload_n (zdm d_Md_tablet_1 2 rfl) rfl (n := 0) rfl ?_
  refine x_getf (zdm d_Md_tablet_1 3 rfl) f_Md_240 rfl rfl ?_
  refine x_putf (zdm d_Md_tablet_1 4 rfl) f_Md_13 rfl ⟨rfl, trivial⟩ (Or.inl rfl) ?_
  refine x_aload_n (zdm d_Md_tablet_1 5 rfl) rfl (n := 0) rfl ?_
  refine x_getf (zdm d_Md_tablet_1 6 rfl) f_Md_237 rfl rfl ?_
  refine x_ifeq (tgt := 129) (zdm d_Md_tablet_1 7 rfl) (by decide) (fun c => ?_) (fun c => ?_)
  · have H := H.1 c
    refine x_aload_n (zdm d_Md_tablet_1 12 rfl) rfl (n := 0) rfl ?_
    refine x_callVv (n := 0) (ci := 11) (zdm d_Md_tablet_1 13 rfl) k_Md_372 (As := []) rfl rfl rfl ⟨_, _, rfl⟩ (Nat.le_of_ble_eq_true rfl) rfl H (fun r1 M2 hr H => ?_)
    refine x_aload_n (zdm d_Md_tablet_1 14 rfl) rfl (n := 0) rfl ?_
    refine x_getf (zdm d_Md_tablet_1 15 rfl) f_Md_352 rfl rfl ?_
    exact x_iret (zdm d_Md_tablet_1 16 rfl) rfl H
  · have H := H.2 c
    refine x_aload_n (zdm d_Md_tablet_1 8 rfl) rfl (n := 0) rfl ?_
    refine x_iconst (zdm d_Md_tablet_1 9 rfl) (zIl rfl) ?_
    refine x_callVi (n := 1) (ci := 11) (zdm d_Md_tablet_1 10 rfl) k_Md_368 (As := [(0, 1)]) rfl rfl rfl ⟨_, _, rfl⟩ (Nat.le_of_ble_eq_true rfl) trivial H (fun r3 M4 hr H => ?_)
    exact x_iret (zdm d_Md_tablet_1 11 rfl) rfl H
set_option maxRecDepth 20000 in
set_option maxHeartbeats 4000000 in
theorem B_Md_tablet_78 {G : zG} {h sl : Nat} (hsl : 2 ≤ sl) {u : Nat × Nat × Nat × Nat} {M : zM} {Q : Int → zM → Prop} (H : (¬ (M 125 5) = 0 → zX G (y_Md_tablet, h + 1, sl) u 100 [(0, (2, 125))] [] M Q) ∧ (¬ (¬ (M 125 5) = 0) → zCt G h sl 0 0 y_Md_look [(2, 125)] M (fun r1 M2 => (r1 = (-1) → zX G (y_Md_tablet, h + 1, sl) u 100 [(0, (2, 125))] [] M2 Q) ∧ (¬ r1 = (-1) → zCt G h sl 0 0 y_Md_statementTold [(2, 125)] M2 (fun r3 M4 => zX G (y_Md_tablet, h + 1, sl) u 78 [(0, (2, 125))] [] M4 Q))))) : zX G (y_Md_tablet, h + 1, sl) u 78 [(0, (2, 125))] [] M Q := by
  refine x_aload_n (zdm d_Md_tablet_0 47 rfl) rfl (n := 0) rfl ?_
  refine x_getf (zdm d_Md_tablet_0 48 rfl) f_Md_237 rfl rfl ?_
  refine x_ifne (tgt := 100) (zdm d_Md_tablet_0 49 rfl) (by decide) (fun c => ?_) (fun c => ?_)
  · have H := H.1 c
    exact H
  · have H := H.2 c
    refine x_aload_n (zdm d_Md_tablet_0 50 rfl) rfl (n := 0) rfl ?_
    refine x_callVi (n := 0) (ci := 11) (zdm d_Md_tablet_0 51 rfl) k_Md_249 (As := []) rfl rfl rfl ⟨_, _, rfl⟩ (Nat.le_of_ble_eq_true rfl) trivial H (fun r1 M2 hr H => ?_)
    refine x_iconst (zdm d_Md_tablet_0 52 rfl) (zIl rfl) ?_
    refine x_icmpeq (tgt := 100) (zdm d_Md_tablet_0 53 rfl) (by decide) (fun c => ?_) (fun c => ?_)
    · have H := H.1 c
      exact H
    · have H := H.2 c
      refine x_aload_n (zdm d_Md_tablet_0 54 rfl) rfl (n := 0) rfl ?_
      refine x_callVv (n := 0) (ci := 11) (zdm d_Md_tablet_0 55 rfl) k_Md_362 (As := []) rfl rfl rfl ⟨_, _, rfl⟩ (Nat.le_of_ble_eq_true rfl) rfl H (fun r3 M4 hr H => ?_)
      refine x_goto (tgt := 78) (zdm d_Md_tablet_0 56 rfl) (by decide) ?_
      exact H
set_option maxRecDepth 20000 in
set_option maxHeartbeats 4000000 in
theorem B_Md_tablet_54 {G : zG} {h sl : Nat} (hsl : 2 ≤ sl) {u : Nat × Nat × Nat × Nat} {l1 : Int} {M : zM} {Q : Int → zM → Prop} (H : (9 ≤ l1 → zX G (y_Md_tablet, h + 1, sl) u 78 [(0, (2, 125))] [] (zwr M 125 49 0) Q) ∧ (¬ 9 ≤ l1 → (0 ≤ l1 ∧ l1 < 18) ∧ ((zI (l1 + 1)) ∧ (zX G (y_Md_tablet, h + 1, sl) u 54 [(0, (2, 125)), (1, (0, (l1 + 1)))] [] (zwr M 161 l1 (-1)) Q)))) : zX G (y_Md_tablet, h + 1, sl) u 54 [(0, (2, 125)), (1, (0, l1))] [] M Q := by
  refine x_iload_n (zdm d_Md_tablet_0 34 rfl) rfl (n := 1) rfl ?_
  refine x_bipush (zdm d_Md_tablet_0 35 rfl) (by decide) ?_
  refine x_icmpge (tgt := 73) (zdm d_Md_tablet_0 36 rfl) (by decide) (fun c => ?_) (fun c => ?_)
  · have H := H.1 c
    refine x_aload_n (zdm d_Md_tablet_0 44 rfl) rfl (n := 0) rfl ?_
    refine x_iconst (zdm d_Md_tablet_0 45 rfl) (zIl rfl) ?_
    refine x_putf (zdm d_Md_tablet_0 46 rfl) f_Md_352 rfl ⟨rfl, trivial⟩ (Or.inl rfl) ?_
    exact zX.sub [0] rfl H
  · have H := H.2 c
    refine x_aload_n (zdm d_Md_tablet_0 37 rfl) rfl (n := 0) rfl ?_
    refine x_getG (zdm d_Md_tablet_0 38 rfl) f_Md_121 rfl rfl (by decide) hsl rfl ?_
    refine x_iload_n (zdm d_Md_tablet_0 39 rfl) rfl (n := 1) rfl ?_
    refine x_iconst (zdm d_Md_tablet_0 40 rfl) (zIl rfl) ?_
    obtain ⟨g1, H⟩ := H
    refine x_iast (zdm d_Md_tablet_0 41 rfl) rfl g1 ?_
    obtain ⟨g2, H⟩ := H
    refine x_iinc (zdm d_Md_tablet_0 42 rfl) (n := 1) rfl g2 (zlt rfl) rfl ?_
    refine x_goto (tgt := 54) (zdm d_Md_tablet_0 43 rfl) (by decide) ?_
    exact zX.sub [1, 0] rfl H
set_option maxRecDepth 20000 in
set_option maxHeartbeats 4000000 in
theorem E_Md_tablet {G : zG} {h sl : Nat} (hsl : 2 ≤ sl) {M : zM} {Q : Int → zM → Prop} (H : zX G (y_Md_tablet, h + 1, sl) (0, 0, 0, 0) 54 [(0, (2, 125)), (1, (0, 0))] [] (zwr (zwr (zwr (zwr (zwr (zwr (zwr (zwr (zwr M 125 3 (M 125 1)) 125 1 0) 125 2 0) 125 4 (-1)) 125 5 0) 125 6 (-1)) 125 48 0) 158 0 0) 158 1 0) Q) : zCt G (h + 1) sl 0 0 y_Md_tablet [(2, 125)] M Q := by
  refine zCt.of (by decide +kernel) (Nat.le_of_ble_eq_true rfl) ?_
  refine x_aload_n (zdm d_Md_tablet_0 0 rfl) rfl (n := 0) rfl ?_
  refine x_aload_n (zdm d_Md_tablet_0 1 rfl) rfl (n := 0) rfl ?_
  refine x_getf (zdm d_Md_tablet_0 2 rfl) f_Md_234 rfl rfl ?_
  refine x_putf (zdm d_Md_tablet_0 3 rfl) f_Md_246 rfl ⟨rfl, trivial⟩ (Or.inl rfl) ?_
  refine x_aload_n (zdm d_Md_tablet_0 4 rfl) rfl (n := 0) rfl ?_
  refine x_iconst (zdm d_Md_tablet_0 5 rfl) (zIl rfl) ?_
  refine x_putf (zdm d_Md_tablet_0 6 rfl) f_Md_234 rfl ⟨rfl, trivial⟩ (Or.inl rfl) ?_
  refine x_aload_n (zdm d_Md_tablet_0 7 rfl) rfl (n := 0) rfl ?_
  refine x_iconst (zdm d_Md_tablet_0 8 rfl) (zIl rfl) ?_
  refine x_putf (zdm d_Md_tablet_0 9 rfl) f_Md_243 rfl ⟨rfl, trivial⟩ (Or.inl rfl) ?_
  refine x_aload_n (zdm d_Md_tablet_0 10 rfl) rfl (n := 0) rfl ?_
  refine x_iconst (zdm d_Md_tablet_0 11 rfl) (zIl rfl) ?_
  refine x_putf (zdm d_Md_tablet_0 12 rfl) f_Md_257 rfl ⟨rfl, trivial⟩ (Or.inl rfl) ?_
  refine x_aload_n (zdm d_Md_tablet_0 13 rfl) rfl (n := 0) rfl ?_
  refine x_iconst (zdm d_Md_tablet_0 14 rfl) (zIl rfl) ?_
  refine x_putf (zdm d_Md_tablet_0 15 rfl) f_Md_237 rfl ⟨rfl, trivial⟩ (Or.inl rfl) ?_
  refine x_aload_n (zdm d_Md_tablet_0 16 rfl) rfl (n := 0) rfl ?_
  refine x_iconst (zdm d_Md_tablet_0 17 rfl) (zIl rfl) ?_
  refine x_putf (zdm d_Md_tablet_0 18 rfl) f_Md_240 rfl ⟨rfl, trivial⟩ (Or.inl rfl) ?_
  refine x_aload_n (zdm d_Md_tablet_0 19 rfl) rfl (n := 0) rfl ?_
  refine x_iconst (zdm d_Md_tablet_0 20 rfl) (zIl rfl) ?_
  refine x_putf (zdm d_Md_tablet_0 21 rfl) f_Md_334 rfl ⟨rfl, trivial⟩ (Or.inl rfl) ?_
  refine x_aload_n (zdm d_Md_tablet_0 22 rfl) rfl (n := 0) rfl ?_
  refine x_getG (zdm d_Md_tablet_0 23 rfl) f_Md_111 rfl rfl (by decide) hsl rfl ?_
  refine x_iconst (zdm d_Md_tablet_0 24 rfl) (zIl rfl) ?_
  refine x_iconst (zdm d_Md_tablet_0 25 rfl) (zIl rfl) ?_
  refine x_iast (zdm d_Md_tablet_0 26 rfl) rfl ⟨by decide, by decide⟩ ?_
  refine x_aload_n (zdm d_Md_tablet_0 27 rfl) rfl (n := 0) rfl ?_
  refine x_getG (zdm d_Md_tablet_0 28 rfl) f_Md_111 rfl rfl (by decide) hsl rfl ?_
  refine x_iconst (zdm d_Md_tablet_0 29 rfl) (zIl rfl) ?_
  refine x_iconst (zdm d_Md_tablet_0 30 rfl) (zIl rfl) ?_
  refine x_iast (zdm d_Md_tablet_0 31 rfl) rfl ⟨by decide, by decide⟩ ?_
  refine x_iconst (zdm d_Md_tablet_0 32 rfl) (zIl rfl) ?_
  refine x_istore_n (zdm d_Md_tablet_0 33 rfl) rfl (zlt rfl) rfl ?_
  exact zX.sub [1, 0] rfl H
set_option maxRecDepth 20000 in
set_option maxHeartbeats 4000000 in
theorem B_Md_stands_180 {G : zG} {h sl : Nat} (hsl : 2 ≤ sl) {u : Nat × Nat × Nat × Nat} {l1 : Int} {M : zM} {Q : Int → zM → Prop} (H : (98 ≤ l1 → zCt G h sl 0 0 y_Md_laysTrue [(2, 125)] M (fun r1 M2 => zCt G h sl 0 0 y_Md_begins [(2, 125)] M2 (fun r3 M4 => Q 0 (zwr (zwr M4 125 66 0) 125 62 0)))) ∧ (¬ 98 ≤ l1 → (0 ≤ l1 ∧ l1 < 98) ∧ ((zI (l1 + 1)) ∧ (zX G (y_Md_stands, h + 1, sl) u 180 [(0, (2, 125)), (1, (0, (l1 + 1)))] [] (zwr M 164 l1 0) Q)))) : zX G (y_Md_stands, h + 1, sl) u 180 [(0, (2, 125)), (1, (0, l1))] [] M Q := by
  refine x_iload_n (zdm d_Md_stands_1 48 rfl) rfl (n := 1) rfl ?_
  refine x_bipush (zdm d_Md_stands_1 49 rfl) (by decide) ?_
  refine x_icmpge (tgt := 199) (zdm d_Md_stands_1 50 rfl) (by decide) (fun c => ?_) (fun c => ?_)
  · have H := H.1 c
    refine x_aload_n (zdm d_Md_stands_1 58 rfl) rfl (n := 0) rfl ?_
    refine x_callVv (n := 0) (ci := 11) (zdm d_Md_stands_1 59 rfl) k_Md_379 (As := []) rfl rfl rfl ⟨_, _, rfl⟩ (Nat.le_of_ble_eq_true rfl) rfl H (fun r1 M2 hr H => ?_)
    refine x_aload_n (zdm d_Md_stands_2 0 rfl) rfl (n := 0) rfl ?_
    refine x_callVv (n := 0) (ci := 11) (zdm d_Md_stands_2 1 rfl) k_Md_382 (As := []) rfl rfl rfl ⟨_, _, rfl⟩ (Nat.le_of_ble_eq_true rfl) rfl H (fun r3 M4 hr H => ?_)
    refine x_aload_n (zdm d_Md_stands_2 2 rfl) rfl (n := 0) rfl ?_
    refine x_iconst (zdm d_Md_stands_2 3 rfl) (zIl rfl) ?_
    refine x_putf (zdm d_Md_stands_2 4 rfl) f_Md_385 rfl ⟨rfl, trivial⟩ (Or.inl rfl) ?_
    refine x_aload_n (zdm d_Md_stands_2 5 rfl) rfl (n := 0) rfl ?_
    refine x_iconst (zdm d_Md_stands_2 6 rfl) (zIl rfl) ?_
    refine x_putf (zdm d_Md_stands_2 7 rfl) f_Md_388 rfl ⟨rfl, trivial⟩ (Or.inl rfl) ?_
    exact x_return (zdm d_Md_stands_2 8 rfl) rfl H
  · have H := H.2 c
    refine x_aload_n (zdm d_Md_stands_1 51 rfl) rfl (n := 0) rfl ?_
    refine x_getG (zdm d_Md_stands_1 52 rfl) f_Md_130 rfl rfl (by decide) hsl rfl ?_
    refine x_iload_n (zdm d_Md_stands_1 53 rfl) rfl (n := 1) rfl ?_
    refine x_iconst (zdm d_Md_stands_1 54 rfl) (zIl rfl) ?_
    obtain ⟨g5, H⟩ := H
    refine x_iast (zdm d_Md_stands_1 55 rfl) rfl g5 ?_
    obtain ⟨g6, H⟩ := H
    refine x_iinc (zdm d_Md_stands_1 56 rfl) (n := 1) rfl g6 (zlt rfl) rfl ?_
    refine x_goto (tgt := 180) (zdm d_Md_stands_1 57 rfl) (by decide) ?_
    exact zX.sub [1, 0] rfl H
set_option maxRecDepth 20000 in
set_option maxHeartbeats 4000000 in
theorem B_Md_stands_128 {G : zG} {h sl : Nat} (hsl : 2 ≤ sl) {u : Nat × Nat × Nat × Nat} {l1 : Int} {M : zM} {Q : Int → zM → Prop} (H : ((M 125 48) ≤ l1 → ((M 161 8) = (-1) → zX G (y_Md_stands, h + 1, sl) u 180 [(0, (2, 125)), (1, (0, 0))] [] (zwr M 125 52 0) Q) ∧ (¬ (M 161 8) = (-1) → zX G (y_Md_stands, h + 1, sl) u 180 [(0, (2, 125)), (1, (0, 0))] [] (zwr M 125 52 1) Q)) ∧ (¬ (M 125 48) ≤ l1 → (zI (1600 + l1)) ∧ ((0 ≤ l1 ∧ l1 < 3200) ∧ ((0 ≤ (1600 + l1) ∧ (1600 + l1) < 3200) ∧ ((zI (l1 + 1)) ∧ (zX G (y_Md_stands, h + 1, sl) u 128 [(0, (2, 125)), (1, (0, (l1 + 1)))] [] (zwr M 163 (1600 + l1) (M 163 l1)) Q)))))) : zX G (y_Md_stands, h + 1, sl) u 128 [(0, (2, 125)), (1, (0, l1))] [] M Q := by
  refine x_iload_n (zdm d_Md_stands_1 19 rfl) rfl (n := 1) rfl ?_
  refine x_aload_n (zdm d_Md_stands_1 20 rfl) rfl (n := 0) rfl ?_
  refine x_getf (zdm d_Md_stands_1 21 rfl) f_Md_334 rfl rfl ?_
  refine x_icmpge (tgt := 158) (zdm d_Md_stands_1 22 rfl) (by decide) (fun c => ?_) (fun c => ?_)
  · have H := H.1 c
    refine x_aload_n (zdm d_Md_stands_1 35 rfl) rfl (n := 0) rfl ?_
    refine x_aload_n (zdm d_Md_stands_1 36 rfl) rfl (n := 0) rfl ?_
    refine x_getG (zdm d_Md_stands_1 37 rfl) f_Md_121 rfl rfl (by decide) hsl rfl ?_
    refine x_bipush (zdm d_Md_stands_1 38 rfl) (by decide) ?_
    refine x_iald (zdm d_Md_stands_1 39 rfl) rfl ⟨by decide, by decide⟩ ?_
    refine x_iconst (zdm d_Md_stands_1 40 rfl) (zIl rfl) ?_
    refine x_icmpeq (tgt := 174) (zdm d_Md_stands_1 41 rfl) (by decide) (fun c => ?_) (fun c => ?_)
    · have H := H.1 c
      refine x_iconst (zdm d_Md_stands_1 44 rfl) (zIl rfl) ?_
      refine x_putf (zdm d_Md_stands_1 45 rfl) f_Md_375 rfl ⟨rfl, (Or.inl rfl)⟩ (Or.inl rfl) ?_
      refine x_iconst (zdm d_Md_stands_1 46 rfl) (zIl rfl) ?_
      refine x_istore_n (zdm d_Md_stands_1 47 rfl) rfl (zlt rfl) rfl ?_
      exact zX.sub [1, 0] rfl H
    · have H := H.2 c
      refine x_iconst (zdm d_Md_stands_1 42 rfl) (zIl rfl) ?_
      refine x_goto (tgt := 175) (zdm d_Md_stands_1 43 rfl) (by decide) ?_
      refine x_putf (zdm d_Md_stands_1 45 rfl) f_Md_375 rfl ⟨rfl, (Or.inr rfl)⟩ (Or.inl rfl) ?_
      refine x_iconst (zdm d_Md_stands_1 46 rfl) (zIl rfl) ?_
      refine x_istore_n (zdm d_Md_stands_1 47 rfl) rfl (zlt rfl) rfl ?_
      exact zX.sub [1, 0] rfl H
  · have H := H.2 c
    refine x_aload_n (zdm d_Md_stands_1 23 rfl) rfl (n := 0) rfl ?_
    refine x_getG (zdm d_Md_stands_1 24 rfl) f_Md_127 rfl rfl (by decide) hsl rfl ?_
    refine x_sipush (zdm d_Md_stands_1 25 rfl) (by decide) ?_
    refine x_iload_n (zdm d_Md_stands_1 26 rfl) rfl (n := 1) rfl ?_
    obtain ⟨g1, H⟩ := H
    refine x_iadd (zdm d_Md_stands_1 27 rfl) g1 ?_
    refine x_aload_n (zdm d_Md_stands_1 28 rfl) rfl (n := 0) rfl ?_
    refine x_getG (zdm d_Md_stands_1 29 rfl) f_Md_127 rfl rfl (by decide) hsl rfl ?_
    refine x_iload_n (zdm d_Md_stands_1 30 rfl) rfl (n := 1) rfl ?_
    obtain ⟨g2, H⟩ := H
    refine x_iald (zdm d_Md_stands_1 31 rfl) rfl g2 ?_
    obtain ⟨g3, H⟩ := H
    refine x_iast (zdm d_Md_stands_1 32 rfl) rfl g3 ?_
    obtain ⟨g4, H⟩ := H
    refine x_iinc (zdm d_Md_stands_1 33 rfl) (n := 1) rfl g4 (zlt rfl) rfl ?_
    refine x_goto (tgt := 128) (zdm d_Md_stands_1 34 rfl) (by decide) ?_
    exact zX.sub [1, 0] rfl H
set_option maxRecDepth 20000 in
set_option maxHeartbeats 4000000 in
theorem B_Md_stands_99 {G : zG} {h sl : Nat} (hsl : 2 ≤ sl) {u : Nat × Nat × Nat × Nat} {l1 : Int} {M : zM} {Q : Int → zM → Prop} (H : (56 ≤ l1 → zX G (y_Md_stands, h + 1, sl) u 128 [(0, (2, 125)), (1, (0, 0))] [] M Q) ∧ (¬ 56 ≤ l1 → (zI (56 + l1)) ∧ ((0 ≤ l1 ∧ l1 < 112) ∧ ((0 ≤ (56 + l1) ∧ (56 + l1) < 112) ∧ ((zI (l1 + 1)) ∧ (zX G (y_Md_stands, h + 1, sl) u 99 [(0, (2, 125)), (1, (0, (l1 + 1)))] [] (zwr M 160 (56 + l1) (M 160 l1)) Q)))))) : zX G (y_Md_stands, h + 1, sl) u 99 [(0, (2, 125)), (1, (0, l1))] [] M Q := by
  refine x_iload_n (zdm d_Md_stands_1 2 rfl) rfl (n := 1) rfl ?_
  refine x_bipush (zdm d_Md_stands_1 3 rfl) (by decide) ?_
  refine x_icmpge (tgt := 126) (zdm d_Md_stands_1 4 rfl) (by decide) (fun c => ?_) (fun c => ?_)
  · have H := H.1 c
    refine x_iconst (zdm d_Md_stands_1 17 rfl) (zIl rfl) ?_
    refine x_istore_n (zdm d_Md_stands_1 18 rfl) rfl (zlt rfl) rfl ?_
    exact zX.sub [1, 0] rfl H
  · have H := H.2 c
    refine x_aload_n (zdm d_Md_stands_1 5 rfl) rfl (n := 0) rfl ?_
    refine x_getG (zdm d_Md_stands_1 6 rfl) f_Md_118 rfl rfl (by decide) hsl rfl ?_
    refine x_bipush (zdm d_Md_stands_1 7 rfl) (by decide) ?_
    refine x_iload_n (zdm d_Md_stands_1 8 rfl) rfl (n := 1) rfl ?_
    obtain ⟨g1, H⟩ := H
    refine x_iadd (zdm d_Md_stands_1 9 rfl) g1 ?_
    refine x_aload_n (zdm d_Md_stands_1 10 rfl) rfl (n := 0) rfl ?_
    refine x_getG (zdm d_Md_stands_1 11 rfl) f_Md_118 rfl rfl (by decide) hsl rfl ?_
    refine x_iload_n (zdm d_Md_stands_1 12 rfl) rfl (n := 1) rfl ?_
    obtain ⟨g2, H⟩ := H
    refine x_iald (zdm d_Md_stands_1 13 rfl) rfl g2 ?_
    obtain ⟨g3, H⟩ := H
    refine x_iast (zdm d_Md_stands_1 14 rfl) rfl g3 ?_
    obtain ⟨g4, H⟩ := H
    refine x_iinc (zdm d_Md_stands_1 15 rfl) (n := 1) rfl g4 (zlt rfl) rfl ?_
    refine x_goto (tgt := 99) (zdm d_Md_stands_1 16 rfl) (by decide) ?_
    exact zX.sub [1, 0] rfl H
set_option maxRecDepth 20000 in
set_option maxHeartbeats 4000000 in
theorem B_Md_stands_70 {G : zG} {h sl : Nat} (hsl : 2 ≤ sl) {u : Nat × Nat × Nat × Nat} {l1 : Int} {M : zM} {Q : Int → zM → Prop} (H : (8 ≤ l1 → zX G (y_Md_stands, h + 1, sl) u 99 [(0, (2, 125)), (1, (0, 0))] [] M Q) ∧ (¬ 8 ≤ l1 → (zI (8 + l1)) ∧ ((0 ≤ l1 ∧ l1 < 16) ∧ ((0 ≤ (8 + l1) ∧ (8 + l1) < 16) ∧ ((zI (l1 + 1)) ∧ (zX G (y_Md_stands, h + 1, sl) u 70 [(0, (2, 125)), (1, (0, (l1 + 1)))] [] (zwr M 159 (8 + l1) (M 159 l1)) Q)))))) : zX G (y_Md_stands, h + 1, sl) u 70 [(0, (2, 125)), (1, (0, l1))] [] M Q := by
  refine x_iload_n (zdm d_Md_stands_0 45 rfl) rfl (n := 1) rfl ?_
  refine x_bipush (zdm d_Md_stands_0 46 rfl) (by decide) ?_
  refine x_icmpge (tgt := 97) (zdm d_Md_stands_0 47 rfl) (by decide) (fun c => ?_) (fun c => ?_)
  · have H := H.1 c
    refine x_iconst (zdm d_Md_stands_1 0 rfl) (zIl rfl) ?_
    refine x_istore_n (zdm d_Md_stands_1 1 rfl) rfl (zlt rfl) rfl ?_
    exact zX.sub [1, 0] rfl H
  · have H := H.2 c
    refine x_aload_n (zdm d_Md_stands_0 48 rfl) rfl (n := 0) rfl ?_
    refine x_getG (zdm d_Md_stands_0 49 rfl) f_Md_114 rfl rfl (by decide) hsl rfl ?_
    refine x_bipush (zdm d_Md_stands_0 50 rfl) (by decide) ?_
    refine x_iload_n (zdm d_Md_stands_0 51 rfl) rfl (n := 1) rfl ?_
    obtain ⟨g1, H⟩ := H
    refine x_iadd (zdm d_Md_stands_0 52 rfl) g1 ?_
    refine x_aload_n (zdm d_Md_stands_0 53 rfl) rfl (n := 0) rfl ?_
    refine x_getG (zdm d_Md_stands_0 54 rfl) f_Md_114 rfl rfl (by decide) hsl rfl ?_
    refine x_iload_n (zdm d_Md_stands_0 55 rfl) rfl (n := 1) rfl ?_
    obtain ⟨g2, H⟩ := H
    refine x_lald (zdm d_Md_stands_0 56 rfl) rfl g2 ?_
    obtain ⟨g3, H⟩ := H
    refine x_last (zdm d_Md_stands_0 57 rfl) rfl g3 ?_
    obtain ⟨g4, H⟩ := H
    refine x_iinc (zdm d_Md_stands_0 58 rfl) (n := 1) rfl g4 (zlt rfl) rfl ?_
    refine x_goto (tgt := 70) (zdm d_Md_stands_0 59 rfl) (by decide) ?_
    exact zX.sub [1, 0] rfl H
set_option maxRecDepth 20000 in
set_option maxHeartbeats 4000000 in
theorem B_Md_stands_26 {G : zG} {h sl : Nat} (hsl : 2 ≤ sl) {u : Nat × Nat × Nat × Nat} {l1 : Int} {M : zM} {Q : Int → zM → Prop} (H : (9 ≤ l1 → zX G (y_Md_stands, h + 1, sl) u 70 [(0, (2, 125)), (1, (0, 0))] [] M Q) ∧ (¬ 9 ≤ l1 → (zI (9 + l1)) ∧ ((0 ≤ l1 ∧ l1 < 18) ∧ ((0 ≤ (9 + l1) ∧ (9 + l1) < 18) ∧ ((zI (l1 + 1)) ∧ (zX G (y_Md_stands, h + 1, sl) u 26 [(0, (2, 125)), (1, (0, (l1 + 1)))] [] (zwr (zwr M 161 (9 + l1) (M 161 l1)) 162 (9 + l1) ((zwr M 161 (9 + l1) (M 161 l1)) 162 l1)) Q)))))) : zX G (y_Md_stands, h + 1, sl) u 26 [(0, (2, 125)), (1, (0, l1))] [] M Q := by
  refine x_iload_n (zdm d_Md_stands_0 18 rfl) rfl (n := 1) rfl ?_
  refine x_bipush (zdm d_Md_stands_0 19 rfl) (by decide) ?_
  refine x_icmpge (tgt := 68) (zdm d_Md_stands_0 20 rfl) (by decide) (fun c => ?_) (fun c => ?_)
  · have H := H.1 c
    refine x_iconst (zdm d_Md_stands_0 43 rfl) (zIl rfl) ?_
    refine x_istore_n (zdm d_Md_stands_0 44 rfl) rfl (zlt rfl) rfl ?_
    exact zX.sub [1, 0] rfl H
  · have H := H.2 c
    refine x_aload_n (zdm d_Md_stands_0 21 rfl) rfl (n := 0) rfl ?_
    refine x_getG (zdm d_Md_stands_0 22 rfl) f_Md_121 rfl rfl (by decide) hsl rfl ?_
    refine x_bipush (zdm d_Md_stands_0 23 rfl) (by decide) ?_
    refine x_iload_n (zdm d_Md_stands_0 24 rfl) rfl (n := 1) rfl ?_
    obtain ⟨g1, H⟩ := H
    refine x_iadd (zdm d_Md_stands_0 25 rfl) g1 ?_
    refine x_aload_n (zdm d_Md_stands_0 26 rfl) rfl (n := 0) rfl ?_
    refine x_getG (zdm d_Md_stands_0 27 rfl) f_Md_121 rfl rfl (by decide) hsl rfl ?_
    refine x_iload_n (zdm d_Md_stands_0 28 rfl) rfl (n := 1) rfl ?_
    obtain ⟨g2, H⟩ := H
    refine x_iald (zdm d_Md_stands_0 29 rfl) rfl g2 ?_
    obtain ⟨g3, H⟩ := H
    refine x_iast (zdm d_Md_stands_0 30 rfl) rfl g3 ?_
    refine x_aload_n (zdm d_Md_stands_0 31 rfl) rfl (n := 0) rfl ?_
    refine x_getG (zdm d_Md_stands_0 32 rfl) f_Md_124 rfl rfl (by decide) hsl rfl ?_
    refine x_bipush (zdm d_Md_stands_0 33 rfl) (by decide) ?_
    refine x_iload_n (zdm d_Md_stands_0 34 rfl) rfl (n := 1) rfl ?_
    refine x_iadd (zdm d_Md_stands_0 35 rfl) g1 ?_
    refine x_aload_n (zdm d_Md_stands_0 36 rfl) rfl (n := 0) rfl ?_
    refine x_getG (zdm d_Md_stands_0 37 rfl) f_Md_124 rfl rfl (by decide) hsl rfl ?_
    refine x_iload_n (zdm d_Md_stands_0 38 rfl) rfl (n := 1) rfl ?_
    refine x_iald (zdm d_Md_stands_0 39 rfl) rfl g2 ?_
    refine x_iast (zdm d_Md_stands_0 40 rfl) rfl g3 ?_
    obtain ⟨g4, H⟩ := H
    refine x_iinc (zdm d_Md_stands_0 41 rfl) (n := 1) rfl g4 (zlt rfl) rfl ?_
    refine x_goto (tgt := 26) (zdm d_Md_stands_0 42 rfl) (by decide) ?_
    exact zX.sub [1, 0] rfl H
set_option maxRecDepth 20000 in
set_option maxHeartbeats 4000000 in
theorem E_Md_stands {G : zG} {h sl : Nat} (hsl : 2 ≤ sl) {M : zM} {Q : Int → zM → Prop} (H : zX G (y_Md_stands, h + 1, sl) (0, 0, 0, 0) 26 [(0, (2, 125)), (1, (0, 0))] [] (zwr (zwr M 158 2 (M 158 0)) 158 3 ((zwr M 158 2 (M 158 0)) 158 1)) Q) : zCt G (h + 1) sl 0 0 y_Md_stands [(2, 125)] M Q := by
  refine zCt.of (by decide +kernel) (Nat.le_of_ble_eq_true rfl) ?_
  refine x_aload_n (zdm d_Md_stands_0 0 rfl) rfl (n := 0) rfl ?_
  refine x_getG (zdm d_Md_stands_0 1 rfl) f_Md_111 rfl rfl (by decide) hsl rfl ?_
  refine x_iconst (zdm d_Md_stands_0 2 rfl) (zIl rfl) ?_
  refine x_aload_n (zdm d_Md_stands_0 3 rfl) rfl (n := 0) rfl ?_
  refine x_getG (zdm d_Md_stands_0 4 rfl) f_Md_111 rfl rfl (by decide) hsl rfl ?_
  refine x_iconst (zdm d_Md_stands_0 5 rfl) (zIl rfl) ?_
  refine x_iald (zdm d_Md_stands_0 6 rfl) rfl ⟨by decide, by decide⟩ ?_
  refine x_iast (zdm d_Md_stands_0 7 rfl) rfl ⟨by decide, by decide⟩ ?_
  refine x_aload_n (zdm d_Md_stands_0 8 rfl) rfl (n := 0) rfl ?_
  refine x_getG (zdm d_Md_stands_0 9 rfl) f_Md_111 rfl rfl (by decide) hsl rfl ?_
  refine x_iconst (zdm d_Md_stands_0 10 rfl) (zIl rfl) ?_
  refine x_aload_n (zdm d_Md_stands_0 11 rfl) rfl (n := 0) rfl ?_
  refine x_getG (zdm d_Md_stands_0 12 rfl) f_Md_111 rfl rfl (by decide) hsl rfl ?_
  refine x_iconst (zdm d_Md_stands_0 13 rfl) (zIl rfl) ?_
  refine x_iald (zdm d_Md_stands_0 14 rfl) rfl ⟨by decide, by decide⟩ ?_
  refine x_iast (zdm d_Md_stands_0 15 rfl) rfl ⟨by decide, by decide⟩ ?_
  refine x_iconst (zdm d_Md_stands_0 16 rfl) (zIl rfl) ?_
  refine x_istore_n (zdm d_Md_stands_0 17 rfl) rfl (zlt rfl) rfl ?_
  exact zX.sub [1, 0] rfl H
set_option maxRecDepth 20000 in
set_option maxHeartbeats 4000000 in
theorem E_Md_fault {G : zG} {h sl : Nat} (hsl : 2 ≤ sl) {l1 : Int} {M : zM} {Q : Int → zM → Prop} (H : (¬ l1 = 0 → (¬ l1 = 1 → Q (-1) M) ∧ (¬ (¬ l1 = 1) → Q (M 125 8) M)) ∧ (¬ (¬ l1 = 0) → Q (M 125 7) M)) : zCt G h sl 0 0 y_Md_fault [(2, 125), (0, l1)] M Q := by
  refine zCt.of (by decide +kernel) (Nat.le_of_ble_eq_true rfl) ?_
  refine x_iload_n (zdm d_Md_fault_0 0 rfl) rfl (n := 1) rfl ?_
  refine x_ifne (tgt := 11) (zdm d_Md_fault_0 1 rfl) (by decide) (fun c => ?_) (fun c => ?_)
  · have H := H.1 c
    refine x_iload_n (zdm d_Md_fault_0 5 rfl) rfl (n := 1) rfl ?_
    refine x_iconst (zdm d_Md_fault_0 6 rfl) (zIl rfl) ?_
    refine x_icmpne (tgt := 23) (zdm d_Md_fault_0 7 rfl) (by decide) (fun c => ?_) (fun c => ?_)
    · have H := H.1 c
      refine x_iconst (zdm d_Md_fault_0 11 rfl) (zIl rfl) ?_
      exact x_iret (zdm d_Md_fault_0 12 rfl) rfl H
    · have H := H.2 c
      refine x_aload_n (zdm d_Md_fault_0 8 rfl) rfl (n := 0) rfl ?_
      refine x_getf (zdm d_Md_fault_0 9 rfl) f_Md_13 rfl rfl ?_
      refine x_goto (tgt := 24) (zdm d_Md_fault_0 10 rfl) (by decide) ?_
      exact x_iret (zdm d_Md_fault_0 12 rfl) rfl H
  · have H := H.2 c
    refine x_aload_n (zdm d_Md_fault_0 2 rfl) rfl (n := 0) rfl ?_
    refine x_getf (zdm d_Md_fault_0 3 rfl) f_Md_365 rfl rfl ?_
    refine x_goto (tgt := 24) (zdm d_Md_fault_0 4 rfl) (by decide) ?_
    exact x_iret (zdm d_Md_fault_0 12 rfl) rfl H
set_option maxRecDepth 20000 in
set_option maxHeartbeats 4000000 in
theorem E_Md_columnMany {G : zG} {h sl : Nat} (hsl : 2 ≤ sl) {M : zM} {Q : Int → zM → Prop} (H : Q (M 158 2) M) : zCt G h sl 0 0 y_Md_columnMany [(2, 125)] M Q := by
  refine zCt.of (by decide +kernel) (Nat.le_of_ble_eq_true rfl) ?_
  refine x_aload_n (zdm d_Md_columnMany_0 0 rfl) rfl (n := 0) rfl ?_
  refine x_getG (zdm d_Md_columnMany_0 1 rfl) f_Md_111 rfl rfl (by decide) hsl rfl ?_
  refine x_iconst (zdm d_Md_columnMany_0 2 rfl) (zIl rfl) ?_
  refine x_iald (zdm d_Md_columnMany_0 3 rfl) rfl ⟨by decide, by decide⟩ ?_
  exact x_iret (zdm d_Md_columnMany_0 4 rfl) rfl H
set_option maxRecDepth 20000 in
set_option maxHeartbeats 4000000 in
theorem E_Md_isColumn {G : zG} {h sl : Nat} (hsl : 2 ≤ sl) {l1 : Int} {M : zM} {Q : Int → zM → Prop} (H : zCt G h sl 0 0 y_Md_columnMany [(2, 125)] M (fun r1 M2 => (zI (r1 - 1)) ∧ (zCt G h sl 0 0 y_Md_isIn [(1, l1), (1, 0), (1, (r1 - 1))] M2 (fun r4 M5 => Q r4 M5)))) : zCt G (h + 1) sl 0 0 y_Md_isColumn [(2, 125), (1, l1)] M Q := by
  refine zCt.of (by decide +kernel) (Nat.le_of_ble_eq_true rfl) ?_
  refine x_lload_n (zdm d_Md_isColumn_0 0 rfl) rfl (n := 1) rfl ?_
  refine x_lconst (zdm d_Md_isColumn_0 1 rfl) (x := 0) rfl ?_
  refine x_aload_n (zdm d_Md_isColumn_0 2 rfl) rfl (n := 0) rfl ?_
  refine x_callVi (n := 0) (ci := 11) (zdm d_Md_isColumn_0 3 rfl) k_Md_391 (As := []) rfl rfl rfl ⟨_, _, rfl⟩ (Nat.le_of_ble_eq_true rfl) trivial H (fun r1 M2 hr H => ?_)
  refine x_iconst (zdm d_Md_isColumn_0 4 rfl) (zIl rfl) ?_
  obtain ⟨g3, H⟩ := H
  refine x_isub (zdm d_Md_isColumn_0 5 rfl) g3 ?_
  refine x_i2l (zdm d_Md_isColumn_0 6 rfl) ?_
  refine x_callSi (n := 3) (zdm d_Md_isColumn_0 7 rfl) k_Md_280 (As := [(1, l1), (1, 0), (1, (r1 - 1))]) rfl rfl (Nat.le_of_ble_eq_true rfl) trivial H (fun r4 M5 hr H => ?_)
  have b6 : r4 = 0 ∨ r4 = 1 := hr
  exact x_ireturn (zdm d_Md_isColumn_0 8 rfl) (ty := .boolean) rfl (by decide) b6 H
set_option maxRecDepth 20000 in
set_option maxHeartbeats 4000000 in
theorem E_Md_fieldOf {G : zG} {h sl : Nat} (hsl : 2 ≤ sl) {l1 l2 : Int} {M : zM} {Q : Int → zM → Prop} (H : (zI (7 * l1)) ∧ ((zI (56 + (7 * l1))) ∧ ((zI ((56 + (7 * l1)) + l2)) ∧ ((0 ≤ ((56 + (7 * l1)) + l2) ∧ ((56 + (7 * l1)) + l2) < 112) ∧ (Q (M 160 ((56 + (7 * l1)) + l2)) M))))) : zCt G h sl 0 0 y_Md_fieldOf [(2, 125), (0, l1), (0, l2)] M Q := by
  refine zCt.of (by decide +kernel) (Nat.le_of_ble_eq_true rfl) ?_
  refine x_aload_n (zdm d_Md_fieldOf_0 0 rfl) rfl (n := 0) rfl ?_
  refine x_getG (zdm d_Md_fieldOf_0 1 rfl) f_Md_118 rfl rfl (by decide) hsl rfl ?_
  refine x_bipush (zdm d_Md_fieldOf_0 2 rfl) (by decide) ?_
  refine x_bipush (zdm d_Md_fieldOf_0 3 rfl) (by decide) ?_
  refine x_iload_n (zdm d_Md_fieldOf_0 4 rfl) rfl (n := 1) rfl ?_
  obtain ⟨g1, H⟩ := H
  refine x_imul (zdm d_Md_fieldOf_0 5 rfl) g1 ?_
  obtain ⟨g2, H⟩ := H
  refine x_iadd (zdm d_Md_fieldOf_0 6 rfl) g2 ?_
  refine x_iload_n (zdm d_Md_fieldOf_0 7 rfl) rfl (n := 2) rfl ?_
  obtain ⟨g3, H⟩ := H
  refine x_iadd (zdm d_Md_fieldOf_0 8 rfl) g3 ?_
  obtain ⟨g4, H⟩ := H
  refine x_iald (zdm d_Md_fieldOf_0 9 rfl) rfl g4 ?_
  exact x_iret (zdm d_Md_fieldOf_0 10 rfl) rfl H
set_option maxRecDepth 20000 in
set_option maxHeartbeats 4000000 in
theorem E_Md_sortOf {G : zG} {h sl : Nat} (hsl : 2 ≤ sl) {l1 : Int} {M : zM} {Q : Int → zM → Prop} (H : zCt G h sl 0 0 y_Md_fieldOf [(2, 125), (0, l1), (0, 0)] M (fun r1 M2 => Q r1 M2)) : zCt G (h + 1) sl 0 0 y_Md_sortOf [(2, 125), (0, l1)] M Q := by
  refine zCt.of (by decide +kernel) (Nat.le_of_ble_eq_true rfl) ?_
  refine x_aload_n (zdm d_Md_sortOf_0 0 rfl) rfl (n := 0) rfl ?_
  refine x_iload_n (zdm d_Md_sortOf_0 1 rfl) rfl (n := 1) rfl ?_
  refine x_iconst (zdm d_Md_sortOf_0 2 rfl) (zIl rfl) ?_
  refine x_callVi (n := 2) (ci := 11) (zdm d_Md_sortOf_0 3 rfl) k_Md_394 (As := [(0, l1), (0, 0)]) rfl rfl rfl ⟨_, _, rfl⟩ (Nat.le_of_ble_eq_true rfl) trivial H (fun r1 M2 hr H => ?_)
  exact x_iret (zdm d_Md_sortOf_0 4 rfl) rfl H
set_option maxRecDepth 20000 in
set_option maxHeartbeats 4000000 in
theorem E_Md_valueOf {G : zG} {h sl : Nat} (hsl : 2 ≤ sl) {l1 : Int} {M : zM} {Q : Int → zM → Prop} (H : (zI (1 + l1)) ∧ ((0 ≤ (1 + l1) ∧ (1 + l1) < 98) ∧ (Q (M 164 (1 + l1)) M))) : zCt G h sl 0 0 y_Md_valueOf [(2, 125), (0, l1)] M Q := by
  refine zCt.of (by decide +kernel) (Nat.le_of_ble_eq_true rfl) ?_
  refine x_aload_n (zdm d_Md_valueOf_0 0 rfl) rfl (n := 0) rfl ?_
  refine x_getG (zdm d_Md_valueOf_0 1 rfl) f_Md_130 rfl rfl (by decide) hsl rfl ?_
  refine x_iconst (zdm d_Md_valueOf_0 2 rfl) (zIl rfl) ?_
  refine x_iload_n (zdm d_Md_valueOf_0 3 rfl) rfl (n := 1) rfl ?_
  obtain ⟨g1, H⟩ := H
  refine x_iadd (zdm d_Md_valueOf_0 4 rfl) g1 ?_
  obtain ⟨g2, H⟩ := H
  refine x_iald (zdm d_Md_valueOf_0 5 rfl) rfl g2 ?_
  exact x_iret (zdm d_Md_valueOf_0 6 rfl) rfl H
set_option maxRecDepth 20000 in
set_option maxHeartbeats 4000000 in
theorem B_Md_codesTell_20 {G : zG} {h sl : Nat} (hsl : 2 ≤ sl) {u : Nat × Nat × Nat × Nat} {l1 l2 : Int} {M : zM} {Q : Int → zM → Prop} (H : (zI (9 + l1)) ∧ ((0 ≤ (9 + l1) ∧ (9 + l1) < 18) ∧ (((M 162 (9 + l1)) ≤ l2 → Q (M 195 0) M) ∧ (¬ (M 162 (9 + l1)) ≤ l2 → (zI (1600 + l2)) ∧ ((0 ≤ (1600 + l2) ∧ (1600 + l2) < 3200) ∧ (((M 163 (1600 + l2)) < 1000 → ((M 163 (1600 + l2)) < 40 → (¬ (M 163 (1600 + l2)) = 13 → (¬ (M 163 (1600 + l2)) = 12 → zCt G h sl 0 0 y_Md_qJoins [(2, 125), (0, (M 163 (1600 + l2)))] M (fun r5 M6 => (zI (l2 + 1)) ∧ (zX G (y_Md_codesTell, h + 1, sl) u 20 [(0, (2, 125)), (1, (0, l1)), (2, (0, (l2 + 1)))] [] M6 Q))) ∧ (¬ (¬ (M 163 (1600 + l2)) = 12) → (zI ((M 125 96) - 1)) ∧ ((0 ≤ ((M 125 96) - 1) ∧ ((M 125 96) - 1) < 1700) ∧ ((zL (1 - (M 195 ((M 125 96) - 1)))) ∧ ((zI (l2 + 1)) ∧ (zX G (y_Md_codesTell, h + 1, sl) u 20 [(0, (2, 125)), (1, (0, l1)), (2, (0, (l2 + 1)))] [] (zwr M 195 ((M 125 96) - 1) (1 - (M 195 ((M 125 96) - 1)))) Q)))))) ∧ (¬ (¬ (M 163 (1600 + l2)) = 13) → zCt G h sl 0 0 y_Md_qPuts [(2, 125), (1, 1)] M (fun r12 M13 => (zI (l2 + 1)) ∧ (zX G (y_Md_codesTell, h + 1, sl) u 20 [(0, (2, 125)), (1, (0, l1)), (2, (0, (l2 + 1)))] [] M13 Q)))) ∧ (¬ (M 163 (1600 + l2)) < 40 → (zI ((M 163 (1600 + l2)) - 40)) ∧ (zCt G h sl 0 0 y_Md_qPartOf [(2, 125), (0, ((M 163 (1600 + l2)) - 40)), (0, 0)] M (fun r16 M17 => zCt G h sl 0 0 y_Md_qPuts [(2, 125), (1, r16)] M17 (fun r18 M19 => (zI (l2 + 1)) ∧ (zX G (y_Md_codesTell, h + 1, sl) u 20 [(0, (2, 125)), (1, (0, l1)), (2, (0, (l2 + 1)))] [] M19 Q)))))) ∧ (¬ (M 163 (1600 + l2)) < 1000 → (zI ((M 163 (1600 + l2)) - 1000)) ∧ (zCt G h sl 0 0 y_Md_qPuts [(2, 125), (1, ((M 163 (1600 + l2)) - 1000))] M (fun r22 M23 => (zI (l2 + 1)) ∧ (zX G (y_Md_codesTell, h + 1, sl) u 20 [(0, (2, 125)), (1, (0, l1)), (2, (0, (l2 + 1)))] [] M23 Q)))))))))) : zX G (y_Md_codesTell, h + 1, sl) u 20 [(0, (2, 125)), (1, (0, l1)), (2, (0, l2))] [] M Q := by
  refine x_iload_n (zdm d_Md_codesTell_0 13 rfl) rfl (n := 2) rfl ?_
  refine x_aload_n (zdm d_Md_codesTell_0 14 rfl) rfl (n := 0) rfl ?_
  refine x_getG (zdm d_Md_codesTell_0 15 rfl) f_Md_124 rfl rfl (by decide) hsl rfl ?_
  refine x_bipush (zdm d_Md_codesTell_0 16 rfl) (by decide) ?_
  refine x_iload_n (zdm d_Md_codesTell_0 17 rfl) rfl (n := 1) rfl ?_
  obtain ⟨g1, H⟩ := H
  refine x_iadd (zdm d_Md_codesTell_0 18 rfl) g1 ?_
  obtain ⟨g2, H⟩ := H
  refine x_iald (zdm d_Md_codesTell_0 19 rfl) rfl g2 ?_
  refine x_icmpge (tgt := 144) (zdm d_Md_codesTell_0 20 rfl) (by decide) (fun c => ?_) (fun c => ?_)
  · have H := H.1 c
    refine x_aload_n (zdm d_Md_codesTell_1 22 rfl) rfl (n := 0) rfl ?_
    refine x_getG (zdm d_Md_codesTell_1 23 rfl) f_Md_228 rfl rfl (by decide) hsl rfl ?_
    refine x_iconst (zdm d_Md_codesTell_1 24 rfl) (zIl rfl) ?_
    refine x_lald (zdm d_Md_codesTell_1 25 rfl) rfl ⟨by decide, by decide⟩ ?_
    exact x_lreturn (zdm d_Md_codesTell_1 26 rfl) rfl H
  · have H := H.2 c
    refine x_aload_n (zdm d_Md_codesTell_0 21 rfl) rfl (n := 0) rfl ?_
    refine x_getG (zdm d_Md_codesTell_0 22 rfl) f_Md_127 rfl rfl (by decide) hsl rfl ?_
    refine x_sipush (zdm d_Md_codesTell_0 23 rfl) (by decide) ?_
    refine x_iload_n (zdm d_Md_codesTell_0 24 rfl) rfl (n := 2) rfl ?_
    obtain ⟨g3, H⟩ := H
    refine x_iadd (zdm d_Md_codesTell_0 25 rfl) g3 ?_
    obtain ⟨g4, H⟩ := H
    refine x_iald (zdm d_Md_codesTell_0 26 rfl) rfl g4 ?_
    refine x_istore_n (zdm d_Md_codesTell_0 27 rfl) rfl (zlt rfl) rfl ?_
    refine x_iload_n (zdm d_Md_codesTell_0 28 rfl) rfl (n := 0) rfl ?_
    refine x_sipush (zdm d_Md_codesTell_0 29 rfl) (by decide) ?_
    refine x_icmplt (tgt := 64) (zdm d_Md_codesTell_0 30 rfl) (by decide) (fun c => ?_) (fun c => ?_)
    · have H := H.1 c
      refine x_iload_n (zdm d_Md_codesTell_0 38 rfl) rfl (n := 0) rfl ?_
      refine x_bipush (zdm d_Md_codesTell_0 39 rfl) (by decide) ?_
      refine x_icmplt (tgt := 86) (zdm d_Md_codesTell_0 40 rfl) (by decide) (fun c => ?_) (fun c => ?_)
      · have H := H.1 c
        refine x_iload_n (zdm d_Md_codesTell_0 50 rfl) rfl (n := 0) rfl ?_
        refine x_bipush (zdm d_Md_codesTell_0 51 rfl) (by decide) ?_
        refine x_icmpne (tgt := 100) (zdm d_Md_codesTell_0 52 rfl) (by decide) (fun c => ?_) (fun c => ?_)
        · have H := H.1 c
          refine x_iload_n (zdm d_Md_codesTell_0 57 rfl) rfl (n := 0) rfl ?_
          refine x_bipush (zdm d_Md_codesTell_0 58 rfl) (by decide) ?_
          refine x_icmpne (tgt := 133) (zdm d_Md_codesTell_0 59 rfl) (by decide) (fun c => ?_) (fun c => ?_)
          · have H := H.1 c
            refine x_aload_n (zdm d_Md_codesTell_1 17 rfl) rfl (n := 1) rfl ?_
            refine x_iload_n (zdm d_Md_codesTell_1 18 rfl) rfl (n := 0) rfl ?_
            refine x_callVv (n := 1) (ci := 11) (zdm d_Md_codesTell_1 19 rfl) k_Md_408 (As := [(0, (M 163 (1600 + l2)))]) rfl rfl rfl ⟨_, _, rfl⟩ (Nat.le_of_ble_eq_true rfl) rfl H (fun r5 M6 hr H => ?_)
            obtain ⟨g7, H⟩ := H
            refine x_iinc (zdm d_Md_codesTell_1 20 rfl) (n := 3) rfl g7 (zlt rfl) rfl ?_
            refine x_goto (tgt := 20) (zdm d_Md_codesTell_1 21 rfl) (by decide) ?_
            exact zX.sub [2, 3, 0] rfl H
          · have H := H.2 c
            refine x_aload_n (zdm d_Md_codesTell_1 0 rfl) rfl (n := 1) rfl ?_
            refine x_getG (zdm d_Md_codesTell_1 1 rfl) f_Md_228 rfl rfl (by decide) hsl rfl ?_
            refine x_aload_n (zdm d_Md_codesTell_1 2 rfl) rfl (n := 1) rfl ?_
            refine x_getf (zdm d_Md_codesTell_1 3 rfl) f_Md_397 rfl rfl ?_
            refine x_iconst (zdm d_Md_codesTell_1 4 rfl) (zIl rfl) ?_
            obtain ⟨g8, H⟩ := H
            refine x_isub (zdm d_Md_codesTell_1 5 rfl) g8 ?_
            refine x_lconst (zdm d_Md_codesTell_1 6 rfl) (x := 1) rfl ?_
            refine x_aload_n (zdm d_Md_codesTell_1 7 rfl) rfl (n := 1) rfl ?_
            refine x_getG (zdm d_Md_codesTell_1 8 rfl) f_Md_228 rfl rfl (by decide) hsl rfl ?_
            refine x_aload_n (zdm d_Md_codesTell_1 9 rfl) rfl (n := 1) rfl ?_
            refine x_getf (zdm d_Md_codesTell_1 10 rfl) f_Md_397 rfl rfl ?_
            refine x_iconst (zdm d_Md_codesTell_1 11 rfl) (zIl rfl) ?_
            refine x_isub (zdm d_Md_codesTell_1 12 rfl) g8 ?_
            obtain ⟨g9, H⟩ := H
            refine x_lald (zdm d_Md_codesTell_1 13 rfl) rfl g9 ?_
            obtain ⟨g10, H⟩ := H
            refine x_lsub (zdm d_Md_codesTell_1 14 rfl) g10 ?_
            refine x_last (zdm d_Md_codesTell_1 15 rfl) rfl g9 ?_
            refine x_goto (tgt := 138) (zdm d_Md_codesTell_1 16 rfl) (by decide) ?_
            obtain ⟨g11, H⟩ := H
            refine x_iinc (zdm d_Md_codesTell_1 20 rfl) (n := 3) rfl g11 (zlt rfl) rfl ?_
            refine x_goto (tgt := 20) (zdm d_Md_codesTell_1 21 rfl) (by decide) ?_
            exact zX.sub [2, 3, 0] rfl H
        · have H := H.2 c
          refine x_aload_n (zdm d_Md_codesTell_0 53 rfl) rfl (n := 1) rfl ?_
          refine x_lconst (zdm d_Md_codesTell_0 54 rfl) (x := 1) rfl ?_
          refine x_callVv (n := 1) (ci := 11) (zdm d_Md_codesTell_0 55 rfl) k_Md_400 (As := [(1, 1)]) rfl rfl rfl ⟨_, _, rfl⟩ (Nat.le_of_ble_eq_true rfl) rfl H (fun r12 M13 hr H => ?_)
          refine x_goto (tgt := 138) (zdm d_Md_codesTell_0 56 rfl) (by decide) ?_
          obtain ⟨g14, H⟩ := H
          refine x_iinc (zdm d_Md_codesTell_1 20 rfl) (n := 3) rfl g14 (zlt rfl) rfl ?_
          refine x_goto (tgt := 20) (zdm d_Md_codesTell_1 21 rfl) (by decide) ?_
          exact zX.sub [2, 3, 0] rfl H
      · have H := H.2 c
        refine x_aload_n (zdm d_Md_codesTell_0 41 rfl) rfl (n := 1) rfl ?_
        refine x_aload_n (zdm d_Md_codesTell_0 42 rfl) rfl (n := 1) rfl ?_
        refine x_iload_n (zdm d_Md_codesTell_0 43 rfl) rfl (n := 0) rfl ?_
        refine x_bipush (zdm d_Md_codesTell_0 44 rfl) (by decide) ?_
        obtain ⟨g15, H⟩ := H
        refine x_isub (zdm d_Md_codesTell_0 45 rfl) g15 ?_
        refine x_iconst (zdm d_Md_codesTell_0 46 rfl) (zIl rfl) ?_
        refine x_callVl (n := 2) (ci := 11) (zdm d_Md_codesTell_0 47 rfl) k_Md_404 (As := [(0, ((M 163 (1600 + l2)) - 40)), (0, 0)]) rfl rfl rfl ⟨_, _, rfl⟩ (Nat.le_of_ble_eq_true rfl) rfl H (fun r16 M17 hr H => ?_)
        refine x_callVv (n := 1) (ci := 11) (zdm d_Md_codesTell_0 48 rfl) k_Md_400 (As := [(1, r16)]) rfl rfl rfl ⟨_, _, rfl⟩ (Nat.le_of_ble_eq_true rfl) rfl H (fun r18 M19 hr H => ?_)
        refine x_goto (tgt := 138) (zdm d_Md_codesTell_0 49 rfl) (by decide) ?_
        obtain ⟨g20, H⟩ := H
        refine x_iinc (zdm d_Md_codesTell_1 20 rfl) (n := 3) rfl g20 (zlt rfl) rfl ?_
        refine x_goto (tgt := 20) (zdm d_Md_codesTell_1 21 rfl) (by decide) ?_
        exact zX.sub [2, 3, 0] rfl H
    · have H := H.2 c
      refine x_aload_n (zdm d_Md_codesTell_0 31 rfl) rfl (n := 1) rfl ?_
      refine x_iload_n (zdm d_Md_codesTell_0 32 rfl) rfl (n := 0) rfl ?_
      refine x_sipush (zdm d_Md_codesTell_0 33 rfl) (by decide) ?_
      obtain ⟨g21, H⟩ := H
      refine x_isub (zdm d_Md_codesTell_0 34 rfl) g21 ?_
      refine x_i2l (zdm d_Md_codesTell_0 35 rfl) ?_
      refine x_callVv (n := 1) (ci := 11) (zdm d_Md_codesTell_0 36 rfl) k_Md_400 (As := [(1, ((M 163 (1600 + l2)) - 1000))]) rfl rfl rfl ⟨_, _, rfl⟩ (Nat.le_of_ble_eq_true rfl) rfl H (fun r22 M23 hr H => ?_)
      refine x_goto (tgt := 138) (zdm d_Md_codesTell_0 37 rfl) (by decide) ?_
      obtain ⟨g24, H⟩ := H
      refine x_iinc (zdm d_Md_codesTell_1 20 rfl) (n := 3) rfl g24 (zlt rfl) rfl ?_
      refine x_goto (tgt := 20) (zdm d_Md_codesTell_1 21 rfl) (by decide) ?_
      exact zX.sub [2, 3, 0] rfl H
set_option maxRecDepth 20000 in
set_option maxHeartbeats 4000000 in
theorem E_Md_codesTell {G : zG} {h sl : Nat} (hsl : 2 ≤ sl) {l1 : Int} {M : zM} {Q : Int → zM → Prop} (H : (zI (9 + l1)) ∧ ((0 ≤ (9 + l1) ∧ (9 + l1) < 18) ∧ (zX G (y_Md_codesTell, h + 1, sl) (0, 0, 0, 0) 20 [(0, (2, 125)), (1, (0, l1)), (2, (0, ((zwr (zwr M 125 50 l1) 125 96 0) 161 (9 + l1))))] [] (zwr (zwr M 125 50 l1) 125 96 0) Q))) : zCt G (h + 1) sl 0 0 y_Md_codesTell [(2, 125), (0, l1)] M Q := by
  refine zCt.of (by decide +kernel) (Nat.le_of_ble_eq_true rfl) ?_
  refine x_aload_n (zdm d_Md_codesTell_0 0 rfl) rfl (n := 0) rfl ?_
  refine x_iload_n (zdm d_Md_codesTell_0 1 rfl) rfl (n := 1) rfl ?_
  refine x_putf (zdm d_Md_codesTell_0 2 rfl) f_Md_295 rfl ⟨rfl, trivial⟩ (Or.inl rfl) ?_
  refine x_aload_n (zdm d_Md_codesTell_0 3 rfl) rfl (n := 0) rfl ?_
  refine x_iconst (zdm d_Md_codesTell_0 4 rfl) (zIl rfl) ?_
  refine x_putf (zdm d_Md_codesTell_0 5 rfl) f_Md_397 rfl ⟨rfl, trivial⟩ (Or.inl rfl) ?_
  refine x_aload_n (zdm d_Md_codesTell_0 6 rfl) rfl (n := 0) rfl ?_
  refine x_getG (zdm d_Md_codesTell_0 7 rfl) f_Md_121 rfl rfl (by decide) hsl rfl ?_
  refine x_bipush (zdm d_Md_codesTell_0 8 rfl) (by decide) ?_
  refine x_iload_n (zdm d_Md_codesTell_0 9 rfl) rfl (n := 1) rfl ?_
  obtain ⟨g1, H⟩ := H
  refine x_iadd (zdm d_Md_codesTell_0 10 rfl) g1 ?_
  obtain ⟨g2, H⟩ := H
  refine x_iald (zdm d_Md_codesTell_0 11 rfl) rfl g2 ?_
  refine x_istore_n (zdm d_Md_codesTell_0 12 rfl) rfl (zlt rfl) rfl ?_
  exact zX.sub [1, 2, 0] rfl H
set_option maxRecDepth 20000 in
set_option maxHeartbeats 4000000 in
theorem E_Md_summed {G : zG} {h sl : Nat} (hsl : 2 ≤ sl) {l1 l2 : Int} {M : zM} {Q : Int → zM → Prop} (H : zCt G h sl 0 0 y_Md_codesTell [(2, 125), (0, l1)] (zwr M 125 54 l2) (fun r1 M2 => (r1 ≤ 1000000 → ((-1000000) ≤ r1 → Q (zl2i r1) M2) ∧ (¬ (-1000000) ≤ r1 → Q (-1000000) M2)) ∧ (¬ r1 ≤ 1000000 → Q 1000000 M2))) : zCt G (h + 1) sl 0 0 y_Md_summed [(2, 125), (0, l1), (0, l2)] M Q := by
  refine zCt.of (by decide +kernel) (Nat.le_of_ble_eq_true rfl) ?_
  refine x_aload_n (zdm d_Md_summed_0 0 rfl) rfl (n := 0) rfl ?_
  refine x_iload_n (zdm d_Md_summed_0 1 rfl) rfl (n := 2) rfl ?_
  refine x_putf (zdm d_Md_summed_0 2 rfl) f_Md_411 rfl ⟨rfl, trivial⟩ (Or.inl rfl) ?_
  refine x_aload_n (zdm d_Md_summed_0 3 rfl) rfl (n := 0) rfl ?_
  refine x_iload_n (zdm d_Md_summed_0 4 rfl) rfl (n := 1) rfl ?_
  refine x_callVl (n := 1) (ci := 11) (zdm d_Md_summed_0 5 rfl) k_Md_414 (As := [(0, l1)]) rfl rfl rfl ⟨_, _, rfl⟩ (Nat.le_of_ble_eq_true rfl) rfl H (fun r1 M2 hr H => ?_)
  refine x_lstore_n (zdm d_Md_summed_0 6 rfl) rfl (zlt rfl) rfl ?_
  refine x_lload_n (zdm d_Md_summed_0 7 rfl) rfl (n := 0) rfl ?_
  refine x_ldc2 (zdm d_Md_summed_0 8 rfl) (n := 1000000) (zLl rfl) w_Md_418 ?_
  refine x_lcmp_le (tgt := 25) (zdm d_Md_summed_0 9 rfl) (zdm d_Md_summed_0 10 rfl) (by decide) (fun c => ?_) (fun c => ?_)
  · have H := H.1 c
    refine x_lload_n (zdm d_Md_summed_0 13 rfl) rfl (n := 0) rfl ?_
    refine x_ldc2 (zdm d_Md_summed_0 14 rfl) (n := (-1000000)) (zLl rfl) w_Md_421 ?_
    refine x_lcmp_ge (tgt := 39) (zdm d_Md_summed_0 15 rfl) (zdm d_Md_summed_0 16 rfl) (by decide) (fun c => ?_) (fun c => ?_)
    · have H := H.1 c
      refine x_lload_n (zdm d_Md_summed_0 19 rfl) rfl (n := 0) rfl ?_
      refine x_l2i (zdm d_Md_summed_0 20 rfl) ?_
      exact x_iret (zdm d_Md_summed_0 21 rfl) rfl H
    · have H := H.2 c
      refine x_ldcw (zdm d_Md_summed_0 17 rfl) (n := (-1000000)) (zIl rfl) w_Md_423 ?_
      refine x_goto (tgt := 41) (zdm d_Md_summed_0 18 rfl) (by decide) ?_
      exact x_iret (zdm d_Md_summed_0 21 rfl) rfl H
  · have H := H.2 c
    refine x_ldcw (zdm d_Md_summed_0 11 rfl) (n := 1000000) (zIl rfl) w_Md_420 ?_
    refine x_goto (tgt := 41) (zdm d_Md_summed_0 12 rfl) (by decide) ?_
    exact x_iret (zdm d_Md_summed_0 21 rfl) rfl H
set_option maxRecDepth 20000 in
set_option maxHeartbeats 4000000 in
theorem E_Md_around {G : zG} {h sl : Nat} (hsl : 2 ≤ sl) {l0 l2 : Int} {M : zM} {Q : Int → zM → Prop} (H : (l2 ≠ 0) ∧ ((0 ≤ (Int.tmod l0 l2) → Q (zl2i (Int.tmod l0 l2)) M) ∧ (¬ 0 ≤ (Int.tmod l0 l2) → (zL ((Int.tmod l0 l2) + l2)) ∧ (Q (zl2i ((Int.tmod l0 l2) + l2)) M)))) : zCt G h sl 0 0 y_Md_around [(1, l0), (0, l2)] M Q := by
  refine zCt.of (by decide +kernel) (Nat.le_of_ble_eq_true rfl) ?_
  refine x_lload_n (zdm d_Md_around_0 0 rfl) rfl (n := 0) rfl ?_
  refine x_iload_n (zdm d_Md_around_0 1 rfl) rfl (n := 1) rfl ?_
  refine x_i2l (zdm d_Md_around_0 2 rfl) ?_
  obtain ⟨g1, H⟩ := H
  refine x_lrem (zdm d_Md_around_0 3 rfl) g1 ?_
  refine x_lstore_n (zdm d_Md_around_0 4 rfl) rfl (zlt rfl) rfl ?_
  refine x_lload_n (zdm d_Md_around_0 5 rfl) rfl (n := 0) rfl ?_
  refine x_lconst (zdm d_Md_around_0 6 rfl) (x := 0) rfl ?_
  refine x_lcmp_ge (tgt := 18) (zdm d_Md_around_0 7 rfl) (zdm d_Md_around_0 8 rfl) (by decide) (fun c => ?_) (fun c => ?_)
  · have H := H.1 c
    refine x_lload_n (zdm d_Md_around_0 14 rfl) rfl (n := 0) rfl ?_
    refine x_l2i (zdm d_Md_around_0 15 rfl) ?_
    exact x_iret (zdm d_Md_around_0 16 rfl) rfl H
  · have H := H.2 c
    refine x_lload_n (zdm d_Md_around_0 9 rfl) rfl (n := 0) rfl ?_
    refine x_iload_n (zdm d_Md_around_0 10 rfl) rfl (n := 2) rfl ?_
    refine x_i2l (zdm d_Md_around_0 11 rfl) ?_
    obtain ⟨g2, H⟩ := H
    refine x_ladd (zdm d_Md_around_0 12 rfl) g2 ?_
    refine x_goto (tgt := 19) (zdm d_Md_around_0 13 rfl) (by decide) ?_
    refine x_l2i (zdm d_Md_around_0 15 rfl) ?_
    exact x_iret (zdm d_Md_around_0 16 rfl) rfl H
set_option maxRecDepth 20000 in
set_option maxHeartbeats 4000000 in
theorem B_Md_begins_48 {G : zG} {h sl : Nat} (hsl : 2 ≤ sl) {u : Nat × Nat × Nat × Nat} {l1 s0 s1 : Int} {M : zM} {Q : Int → zM → Prop} (H : (0 ≤ s1 ∧ s1 < 98) ∧ ((zI (9 + l1)) ∧ (zCt G h sl 0 0 y_Md_fieldOf [(2, 125), (0, l1), (0, 5)] (zwr M 164 s1 s0) (fun r3 M4 => (0 ≤ (9 + l1) ∧ (9 + l1) < 98) ∧ ((zI (l1 + 1)) ∧ (zX G (y_Md_begins, h + 1, sl) u 9 [(0, (2, 125)), (1, (0, (l1 + 1)))] [] (zwr M4 164 (9 + l1) r3) Q)))))) : zX G (y_Md_begins, h + 1, sl) u 48 [(0, (2, 125)), (1, (0, l1))] [(0, s0), (0, s1), (2, 164)] M Q := by
  obtain ⟨g1, H⟩ := H
  refine x_iast (zdm d_Md_begins_0 30 rfl) rfl g1 ?_
  refine x_aload_n (zdm d_Md_begins_0 31 rfl) rfl (n := 0) rfl ?_
  refine x_getG (zdm d_Md_begins_0 32 rfl) f_Md_130 rfl rfl (by decide) hsl rfl ?_
  refine x_bipush (zdm d_Md_begins_0 33 rfl) (by decide) ?_
  refine x_iload_n (zdm d_Md_begins_0 34 rfl) rfl (n := 1) rfl ?_
  obtain ⟨g2, H⟩ := H
  refine x_iadd (zdm d_Md_begins_0 35 rfl) g2 ?_
  refine x_aload_n (zdm d_Md_begins_0 36 rfl) rfl (n := 0) rfl ?_
  refine x_iload_n (zdm d_Md_begins_0 37 rfl) rfl (n := 1) rfl ?_
  refine x_iconst (zdm d_Md_begins_0 38 rfl) (zIl rfl) ?_
  refine x_callVi (n := 2) (ci := 11) (zdm d_Md_begins_0 39 rfl) k_Md_394 (As := [(0, l1), (0, 5)]) rfl rfl rfl ⟨_, _, rfl⟩ (Nat.le_of_ble_eq_true rfl) trivial H (fun r3 M4 hr H => ?_)
  obtain ⟨g5, H⟩ := H
  refine x_iast (zdm d_Md_begins_0 40 rfl) rfl g5 ?_
  obtain ⟨g6, H⟩ := H
  refine x_iinc (zdm d_Md_begins_0 41 rfl) (n := 1) rfl g6 (zlt rfl) rfl ?_
  refine x_goto (tgt := 9) (zdm d_Md_begins_0 42 rfl) (by decide) ?_
  exact zX.sub [1, 0] rfl H
set_option maxRecDepth 20000 in
set_option maxHeartbeats 4000000 in
theorem B_Md_begins_9 {G : zG} {h sl : Nat} (hsl : 2 ≤ sl) {u : Nat × Nat × Nat × Nat} {l1 : Int} {M : zM} {Q : Int → zM → Prop} (H : zCt G h sl 0 0 y_Md_columnMany [(2, 125)] M (fun r1 M2 => (r1 ≤ l1 → Q 0 M2) ∧ (¬ r1 ≤ l1 → (zI (1 + l1)) ∧ (zCt G h sl 0 0 y_Md_sortOf [(2, 125), (0, l1)] M2 (fun r4 M5 => (¬ r4 = 3 → zCt G h sl 0 0 y_Md_fieldOf [(2, 125), (0, l1), (0, 4)] M5 (fun r6 M7 => zX G (y_Md_begins, h + 1, sl) u 48 [(0, (2, 125)), (1, (0, l1))] [(0, r6), (0, (1 + l1)), (2, 164)] M7 Q)) ∧ (¬ (¬ r4 = 3) → zCt G h sl 0 0 y_Md_summed [(2, 125), (0, l1), (0, 0)] M5 (fun r8 M9 => zX G (y_Md_begins, h + 1, sl) u 48 [(0, (2, 125)), (1, (0, l1))] [(0, r8), (0, (1 + l1)), (2, 164)] M9 Q))))))) : zX G (y_Md_begins, h + 1, sl) u 9 [(0, (2, 125)), (1, (0, l1))] [] M Q := by
  refine x_iload_n (zdm d_Md_begins_0 7 rfl) rfl (n := 1) rfl ?_
  refine x_aload_n (zdm d_Md_begins_0 8 rfl) rfl (n := 0) rfl ?_
  refine x_callVi (n := 0) (ci := 11) (zdm d_Md_begins_0 9 rfl) k_Md_391 (As := []) rfl rfl rfl ⟨_, _, rfl⟩ (Nat.le_of_ble_eq_true rfl) trivial H (fun r1 M2 hr H => ?_)
  refine x_icmpge (tgt := 70) (zdm d_Md_begins_0 10 rfl) (by decide) (fun c => ?_) (fun c => ?_)
  · have H := H.1 c
    exact x_return (zdm d_Md_begins_0 43 rfl) rfl H
  · have H := H.2 c
    refine x_aload_n (zdm d_Md_begins_0 11 rfl) rfl (n := 0) rfl ?_
    refine x_getG (zdm d_Md_begins_0 12 rfl) f_Md_130 rfl rfl (by decide) hsl rfl ?_
    refine x_iconst (zdm d_Md_begins_0 13 rfl) (zIl rfl) ?_
    refine x_iload_n (zdm d_Md_begins_0 14 rfl) rfl (n := 1) rfl ?_
    obtain ⟨g3, H⟩ := H
    refine x_iadd (zdm d_Md_begins_0 15 rfl) g3 ?_
    refine x_aload_n (zdm d_Md_begins_0 16 rfl) rfl (n := 0) rfl ?_
    refine x_iload_n (zdm d_Md_begins_0 17 rfl) rfl (n := 1) rfl ?_
    refine x_callVi (n := 1) (ci := 11) (zdm d_Md_begins_0 18 rfl) k_Md_424 (As := [(0, l1)]) rfl rfl rfl ⟨_, _, rfl⟩ (Nat.le_of_ble_eq_true rfl) trivial H (fun r4 M5 hr H => ?_)
    refine x_iconst (zdm d_Md_begins_0 19 rfl) (zIl rfl) ?_
    refine x_icmpne (tgt := 42) (zdm d_Md_begins_0 20 rfl) (by decide) (fun c => ?_) (fun c => ?_)
    · have H := H.1 c
      refine x_aload_n (zdm d_Md_begins_0 26 rfl) rfl (n := 0) rfl ?_
      refine x_iload_n (zdm d_Md_begins_0 27 rfl) rfl (n := 1) rfl ?_
      refine x_iconst (zdm d_Md_begins_0 28 rfl) (zIl rfl) ?_
      refine x_callVi (n := 2) (ci := 11) (zdm d_Md_begins_0 29 rfl) k_Md_394 (As := [(0, l1), (0, 4)]) rfl rfl rfl ⟨_, _, rfl⟩ (Nat.le_of_ble_eq_true rfl) trivial H (fun r6 M7 hr H => ?_)
      exact H
    · have H := H.2 c
      refine x_aload_n (zdm d_Md_begins_0 21 rfl) rfl (n := 0) rfl ?_
      refine x_iload_n (zdm d_Md_begins_0 22 rfl) rfl (n := 1) rfl ?_
      refine x_iconst (zdm d_Md_begins_0 23 rfl) (zIl rfl) ?_
      refine x_callVi (n := 2) (ci := 11) (zdm d_Md_begins_0 24 rfl) k_Md_427 (As := [(0, l1), (0, 0)]) rfl rfl rfl ⟨_, _, rfl⟩ (Nat.le_of_ble_eq_true rfl) trivial H (fun r8 M9 hr H => ?_)
      refine x_goto (tgt := 48) (zdm d_Md_begins_0 25 rfl) (by decide) ?_
      exact H
set_option maxRecDepth 20000 in
set_option maxHeartbeats 4000000 in
theorem E_Md_begins {G : zG} {h sl : Nat} (hsl : 2 ≤ sl) {M : zM} {Q : Int → zM → Prop} (H : zX G (y_Md_begins, h + 1, sl) (0, 0, 0, 0) 9 [(0, (2, 125)), (1, (0, 0))] [] (zwr M 164 0 0) Q) : zCt G (h + 1) sl 0 0 y_Md_begins [(2, 125)] M Q := by
  refine zCt.of (by decide +kernel) (Nat.le_of_ble_eq_true rfl) ?_
  refine x_aload_n (zdm d_Md_begins_0 0 rfl) rfl (n := 0) rfl ?_
  refine x_getG (zdm d_Md_begins_0 1 rfl) f_Md_130 rfl rfl (by decide) hsl rfl ?_
  refine x_iconst (zdm d_Md_begins_0 2 rfl) (zIl rfl) ?_
  refine x_iconst (zdm d_Md_begins_0 3 rfl) (zIl rfl) ?_
  refine x_iast (zdm d_Md_begins_0 4 rfl) rfl ⟨by decide, by decide⟩ ?_
  refine x_iconst (zdm d_Md_begins_0 5 rfl) (zIl rfl) ?_
  refine x_istore_n (zdm d_Md_begins_0 6 rfl) rfl (zlt rfl) rfl ?_
  exact zX.sub [1, 0] rfl H
set_option maxRecDepth 20000 in
set_option maxHeartbeats 4000000 in
theorem B_Md_zigs_37 {G : zG} {h sl : Nat} (hsl : 2 ≤ sl) {u : Nat × Nat × Nat × Nat} {l1 s0 : Int} {M : zM} {Q : Int → zM → Prop} (H : zCt G h sl 0 0 y_Md_fieldOf [(2, 125), (0, l1), (0, 2)] M (fun r1 M2 => (s0 ≤ r1 → zCt G h sl 0 0 y_Md_fieldOf [(2, 125), (0, l1), (0, 1)] M2 (fun r3 M4 => (r3 ≤ s0 → (zI (1 + l1)) ∧ ((0 ≤ (1 + l1) ∧ (1 + l1) < 98) ∧ (Q 0 (zwr M4 164 (1 + l1) s0)))) ∧ (¬ r3 ≤ s0 → zCt G h sl 0 0 y_Md_fieldOf [(2, 125), (0, l1), (0, 1)] M4 (fun r7 M8 => (zI (2 * r7)) ∧ ((zI ((2 * r7) - s0)) ∧ ((zI (9 + l1)) ∧ ((0 ≤ (9 + l1) ∧ (9 + l1) < 98) ∧ ((zI (1 + l1)) ∧ ((0 ≤ (1 + l1) ∧ (1 + l1) < 98) ∧ (Q 0 (zwr (zwr M8 164 (9 + l1) 1) 164 (1 + l1) ((2 * r7) - s0)))))))))))) ∧ (¬ s0 ≤ r1 → zCt G h sl 0 0 y_Md_fieldOf [(2, 125), (0, l1), (0, 2)] M2 (fun r15 M16 => (zI (2 * r15)) ∧ ((zI ((2 * r15) - s0)) ∧ ((zI (9 + l1)) ∧ ((0 ≤ (9 + l1) ∧ (9 + l1) < 98) ∧ ((zI (1 + l1)) ∧ ((0 ≤ (1 + l1) ∧ (1 + l1) < 98) ∧ (Q 0 (zwr (zwr M16 164 (9 + l1) 0) 164 (1 + l1) ((2 * r15) - s0)))))))))))) : zX G (y_Md_zigs, h + 1, sl) u 37 [(0, (2, 125)), (1, (0, l1))] [(0, s0)] M Q := by
  refine x_istore_n (zdm d_Md_zigs_0 24 rfl) rfl (zlt rfl) rfl ?_
  refine x_iload_n (zdm d_Md_zigs_0 25 rfl) rfl (n := 0) rfl ?_
  refine x_aload_n (zdm d_Md_zigs_0 26 rfl) rfl (n := 1) rfl ?_
  refine x_iload_n (zdm d_Md_zigs_0 27 rfl) rfl (n := 2) rfl ?_
  refine x_iconst (zdm d_Md_zigs_0 28 rfl) (zIl rfl) ?_
  refine x_callVi (n := 2) (ci := 11) (zdm d_Md_zigs_0 29 rfl) k_Md_394 (As := [(0, l1), (0, 2)]) rfl rfl rfl ⟨_, _, rfl⟩ (Nat.le_of_ble_eq_true rfl) trivial H (fun r1 M2 hr H => ?_)
  refine x_icmple (tgt := 72) (zdm d_Md_zigs_0 30 rfl) (by decide) (fun c => ?_) (fun c => ?_)
  · have H := H.1 c
    refine x_iload_n (zdm d_Md_zigs_0 48 rfl) rfl (n := 0) rfl ?_
    refine x_aload_n (zdm d_Md_zigs_0 49 rfl) rfl (n := 1) rfl ?_
    refine x_iload_n (zdm d_Md_zigs_0 50 rfl) rfl (n := 2) rfl ?_
    refine x_iconst (zdm d_Md_zigs_0 51 rfl) (zIl rfl) ?_
    refine x_callVi (n := 2) (ci := 11) (zdm d_Md_zigs_0 52 rfl) k_Md_394 (As := [(0, l1), (0, 1)]) rfl rfl rfl ⟨_, _, rfl⟩ (Nat.le_of_ble_eq_true rfl) trivial H (fun r3 M4 hr H => ?_)
    refine x_icmpge (tgt := 103) (zdm d_Md_zigs_0 53 rfl) (by decide) (fun c => ?_) (fun c => ?_)
    · have H := H.1 c
      refine x_aload_n (zdm d_Md_zigs_1 10 rfl) rfl (n := 1) rfl ?_
      refine x_getG (zdm d_Md_zigs_1 11 rfl) f_Md_130 rfl rfl (by decide) hsl rfl ?_
      refine x_iconst (zdm d_Md_zigs_1 12 rfl) (zIl rfl) ?_
      refine x_iload_n (zdm d_Md_zigs_1 13 rfl) rfl (n := 2) rfl ?_
      obtain ⟨g5, H⟩ := H
      refine x_iadd (zdm d_Md_zigs_1 14 rfl) g5 ?_
      refine x_iload_n (zdm d_Md_zigs_1 15 rfl) rfl (n := 0) rfl ?_
      obtain ⟨g6, H⟩ := H
      refine x_iast (zdm d_Md_zigs_1 16 rfl) rfl g6 ?_
      exact x_return (zdm d_Md_zigs_1 17 rfl) rfl H
    · have H := H.2 c
      refine x_iconst (zdm d_Md_zigs_0 54 rfl) (zIl rfl) ?_
      refine x_aload_n (zdm d_Md_zigs_0 55 rfl) rfl (n := 1) rfl ?_
      refine x_iload_n (zdm d_Md_zigs_0 56 rfl) rfl (n := 2) rfl ?_
      refine x_iconst (zdm d_Md_zigs_0 57 rfl) (zIl rfl) ?_
      refine x_callVi (n := 2) (ci := 11) (zdm d_Md_zigs_0 58 rfl) k_Md_394 (As := [(0, l1), (0, 1)]) rfl rfl rfl ⟨_, _, rfl⟩ (Nat.le_of_ble_eq_true rfl) trivial H (fun r7 M8 hr H => ?_)
      obtain ⟨g9, H⟩ := H
      refine x_imul (zdm d_Md_zigs_0 59 rfl) g9 ?_
      refine x_iload_n (zdm d_Md_zigs_1 0 rfl) rfl (n := 0) rfl ?_
      obtain ⟨g10, H⟩ := H
      refine x_isub (zdm d_Md_zigs_1 1 rfl) g10 ?_
      refine x_istore_n (zdm d_Md_zigs_1 2 rfl) rfl (zlt rfl) rfl ?_
      refine x_aload_n (zdm d_Md_zigs_1 3 rfl) rfl (n := 1) rfl ?_
      refine x_getG (zdm d_Md_zigs_1 4 rfl) f_Md_130 rfl rfl (by decide) hsl rfl ?_
      refine x_bipush (zdm d_Md_zigs_1 5 rfl) (by decide) ?_
      refine x_iload_n (zdm d_Md_zigs_1 6 rfl) rfl (n := 2) rfl ?_
      obtain ⟨g11, H⟩ := H
      refine x_iadd (zdm d_Md_zigs_1 7 rfl) g11 ?_
      refine x_iconst (zdm d_Md_zigs_1 8 rfl) (zIl rfl) ?_
      obtain ⟨g12, H⟩ := H
      refine x_iast (zdm d_Md_zigs_1 9 rfl) rfl g12 ?_
      refine x_aload_n (zdm d_Md_zigs_1 10 rfl) rfl (n := 1) rfl ?_
      refine x_getG (zdm d_Md_zigs_1 11 rfl) f_Md_130 rfl rfl (by decide) hsl rfl ?_
      refine x_iconst (zdm d_Md_zigs_1 12 rfl) (zIl rfl) ?_
      refine x_iload_n (zdm d_Md_zigs_1 13 rfl) rfl (n := 2) rfl ?_
      obtain ⟨g13, H⟩ := H
      refine x_iadd (zdm d_Md_zigs_1 14 rfl) g13 ?_
      refine x_iload_n (zdm d_Md_zigs_1 15 rfl) rfl (n := 0) rfl ?_
      obtain ⟨g14, H⟩ := H
      refine x_iast (zdm d_Md_zigs_1 16 rfl) rfl g14 ?_
      exact x_return (zdm d_Md_zigs_1 17 rfl) rfl H
  · have H := H.2 c
    refine x_iconst (zdm d_Md_zigs_0 31 rfl) (zIl rfl) ?_
    refine x_aload_n (zdm d_Md_zigs_0 32 rfl) rfl (n := 1) rfl ?_
    refine x_iload_n (zdm d_Md_zigs_0 33 rfl) rfl (n := 2) rfl ?_
    refine x_iconst (zdm d_Md_zigs_0 34 rfl) (zIl rfl) ?_
    refine x_callVi (n := 2) (ci := 11) (zdm d_Md_zigs_0 35 rfl) k_Md_394 (As := [(0, l1), (0, 2)]) rfl rfl rfl ⟨_, _, rfl⟩ (Nat.le_of_ble_eq_true rfl) trivial H (fun r15 M16 hr H => ?_)
    obtain ⟨g17, H⟩ := H
    refine x_imul (zdm d_Md_zigs_0 36 rfl) g17 ?_
    refine x_iload_n (zdm d_Md_zigs_0 37 rfl) rfl (n := 0) rfl ?_
    obtain ⟨g18, H⟩ := H
    refine x_isub (zdm d_Md_zigs_0 38 rfl) g18 ?_
    refine x_istore_n (zdm d_Md_zigs_0 39 rfl) rfl (zlt rfl) rfl ?_
    refine x_aload_n (zdm d_Md_zigs_0 40 rfl) rfl (n := 1) rfl ?_
    refine x_getG (zdm d_Md_zigs_0 41 rfl) f_Md_130 rfl rfl (by decide) hsl rfl ?_
    refine x_bipush (zdm d_Md_zigs_0 42 rfl) (by decide) ?_
    refine x_iload_n (zdm d_Md_zigs_0 43 rfl) rfl (n := 2) rfl ?_
    obtain ⟨g19, H⟩ := H
    refine x_iadd (zdm d_Md_zigs_0 44 rfl) g19 ?_
    refine x_iconst (zdm d_Md_zigs_0 45 rfl) (zIl rfl) ?_
    obtain ⟨g20, H⟩ := H
    refine x_iast (zdm d_Md_zigs_0 46 rfl) rfl g20 ?_
    refine x_goto (tgt := 103) (zdm d_Md_zigs_0 47 rfl) (by decide) ?_
    refine x_aload_n (zdm d_Md_zigs_1 10 rfl) rfl (n := 1) rfl ?_
    refine x_getG (zdm d_Md_zigs_1 11 rfl) f_Md_130 rfl rfl (by decide) hsl rfl ?_
    refine x_iconst (zdm d_Md_zigs_1 12 rfl) (zIl rfl) ?_
    refine x_iload_n (zdm d_Md_zigs_1 13 rfl) rfl (n := 2) rfl ?_
    obtain ⟨g21, H⟩ := H
    refine x_iadd (zdm d_Md_zigs_1 14 rfl) g21 ?_
    refine x_iload_n (zdm d_Md_zigs_1 15 rfl) rfl (n := 0) rfl ?_
    obtain ⟨g22, H⟩ := H
    refine x_iast (zdm d_Md_zigs_1 16 rfl) rfl g22 ?_
    exact x_return (zdm d_Md_zigs_1 17 rfl) rfl H
set_option maxRecDepth 20000 in
set_option maxHeartbeats 4000000 in
theorem E_Md_zigs {G : zG} {h sl : Nat} (hsl : 2 ≤ sl) {l1 : Int} {M : zM} {Q : Int → zM → Prop} (H : zCt G h sl 0 0 y_Md_fieldOf [(2, 125), (0, l1), (0, 3)] M (fun r1 M2 => (zI (9 + l1)) ∧ ((0 ≤ (9 + l1) ∧ (9 + l1) < 98) ∧ ((¬ (M2 164 (9 + l1)) = 1 → zCt G h sl 0 0 y_Md_valueOf [(2, 125), (0, l1)] M2 (fun r5 M6 => (zI (r5 - r1)) ∧ (zX G (y_Md_zigs, h + 1, sl) (0, 0, 0, 0) 37 [(0, (2, 125)), (1, (0, l1))] [(0, (r5 - r1))] M6 Q))) ∧ (¬ (¬ (M2 164 (9 + l1)) = 1) → zCt G h sl 0 0 y_Md_valueOf [(2, 125), (0, l1)] M2 (fun r8 M9 => (zI (r8 + r1)) ∧ (zX G (y_Md_zigs, h + 1, sl) (0, 0, 0, 0) 37 [(0, (2, 125)), (1, (0, l1))] [(0, (r8 + r1))] M9 Q))))))) : zCt G (h + 1) sl 0 0 y_Md_zigs [(2, 125), (0, l1)] M Q := by
  refine zCt.of (by decide +kernel) (Nat.le_of_ble_eq_true rfl) ?_
  refine x_aload_n (zdm d_Md_zigs_0 0 rfl) rfl (n := 0) rfl ?_
  refine x_iload_n (zdm d_Md_zigs_0 1 rfl) rfl (n := 1) rfl ?_
  refine x_iconst (zdm d_Md_zigs_0 2 rfl) (zIl rfl) ?_
  refine x_callVi (n := 2) (ci := 11) (zdm d_Md_zigs_0 3 rfl) k_Md_394 (As := [(0, l1), (0, 3)]) rfl rfl rfl ⟨_, _, rfl⟩ (Nat.le_of_ble_eq_true rfl) trivial H (fun r1 M2 hr H => ?_)
  refine x_istore_n (zdm d_Md_zigs_0 4 rfl) rfl (zlt rfl) rfl ?_
  refine x_aload_n (zdm d_Md_zigs_0 5 rfl) rfl (n := 1) rfl ?_
  refine x_getG (zdm d_Md_zigs_0 6 rfl) f_Md_130 rfl rfl (by decide) hsl rfl ?_
  refine x_bipush (zdm d_Md_zigs_0 7 rfl) (by decide) ?_
  refine x_iload_n (zdm d_Md_zigs_0 8 rfl) rfl (n := 2) rfl ?_
  obtain ⟨g3, H⟩ := H
  refine x_iadd (zdm d_Md_zigs_0 9 rfl) g3 ?_
  obtain ⟨g4, H⟩ := H
  refine x_iald (zdm d_Md_zigs_0 10 rfl) rfl g4 ?_
  refine x_iconst (zdm d_Md_zigs_0 11 rfl) (zIl rfl) ?_
  refine x_icmpne (tgt := 30) (zdm d_Md_zigs_0 12 rfl) (by decide) (fun c => ?_) (fun c => ?_)
  · have H := H.1 c
    refine x_aload_n (zdm d_Md_zigs_0 19 rfl) rfl (n := 1) rfl ?_
    refine x_iload_n (zdm d_Md_zigs_0 20 rfl) rfl (n := 2) rfl ?_
    refine x_callVi (n := 1) (ci := 11) (zdm d_Md_zigs_0 21 rfl) k_Md_430 (As := [(0, l1)]) rfl rfl rfl ⟨_, _, rfl⟩ (Nat.le_of_ble_eq_true rfl) trivial H (fun r5 M6 hr H => ?_)
    refine x_iload_n (zdm d_Md_zigs_0 22 rfl) rfl (n := 0) rfl ?_
    obtain ⟨g7, H⟩ := H
    refine x_isub (zdm d_Md_zigs_0 23 rfl) g7 ?_
    exact zX.sub [1, 2] rfl H
  · have H := H.2 c
    refine x_aload_n (zdm d_Md_zigs_0 13 rfl) rfl (n := 1) rfl ?_
    refine x_iload_n (zdm d_Md_zigs_0 14 rfl) rfl (n := 2) rfl ?_
    refine x_callVi (n := 1) (ci := 11) (zdm d_Md_zigs_0 15 rfl) k_Md_430 (As := [(0, l1)]) rfl rfl rfl ⟨_, _, rfl⟩ (Nat.le_of_ble_eq_true rfl) trivial H (fun r8 M9 hr H => ?_)
    refine x_iload_n (zdm d_Md_zigs_0 16 rfl) rfl (n := 0) rfl ?_
    obtain ⟨g10, H⟩ := H
    refine x_iadd (zdm d_Md_zigs_0 17 rfl) g10 ?_
    refine x_goto (tgt := 37) (zdm d_Md_zigs_0 18 rfl) (by decide) ?_
    exact zX.sub [1, 2] rfl H
set_option maxRecDepth 20000 in
set_option maxHeartbeats 4000000 in
theorem E_Md_arcs {G : zG} {h sl : Nat} (hsl : 2 ≤ sl) {l1 : Int} {M : zM} {Q : Int → zM → Prop} (H : zCt G h sl 0 0 y_Md_fieldOf [(2, 125), (0, l1), (0, 1)] M (fun r1 M2 => zCt G h sl 0 0 y_Md_fieldOf [(2, 125), (0, l1), (0, 2)] M2 (fun r3 M4 => zCt G h sl 0 0 y_Md_fieldOf [(2, 125), (0, l1), (0, 3)] M4 (fun r5 M6 => zCt G h sl 0 0 y_Md_fieldOf [(2, 125), (0, l1), (0, 6)] M6 (fun r7 M8 => zCt G h sl 0 0 y_Md_valueOf [(2, 125), (0, l1)] M8 (fun r9 M10 => (r1 ≤ r9 → (zI (r9 + r7)) ∧ ((zI (1 + l1)) ∧ ((r3 ≤ (r9 + r7) → (zI ((r9 + r7) - r3)) ∧ ((zI (((r9 + r7) - r3) * r5)) ∧ ((r7 ≠ 0) ∧ ((zI (Int.tdiv (((r9 + r7) - r3) * r5) r7)) ∧ ((0 ≤ (1 + l1) ∧ (1 + l1) < 98) ∧ (Q 0 (zwr M10 164 (1 + l1) (Int.tdiv (((r9 + r7) - r3) * r5) r7)))))))) ∧ (¬ r3 ≤ (r9 + r7) → (0 ≤ (1 + l1) ∧ (1 + l1) < 98) ∧ (Q 0 (zwr M10 164 (1 + l1) (r9 + r7))))))) ∧ (¬ r1 ≤ r9 → (zI (r9 + r5)) ∧ ((zI (1 + l1)) ∧ ((r1 ≤ (r9 + r5) → (zI ((r9 + r5) - r1)) ∧ ((zI (((r9 + r5) - r1) * r7)) ∧ ((r5 ≠ 0) ∧ ((zI (Int.tdiv (((r9 + r5) - r1) * r7) r5)) ∧ ((zI (r1 + (Int.tdiv (((r9 + r5) - r1) * r7) r5))) ∧ ((0 ≤ (1 + l1) ∧ (1 + l1) < 98) ∧ (Q 0 (zwr M10 164 (1 + l1) (r1 + (Int.tdiv (((r9 + r5) - r1) * r7) r5)))))))))) ∧ (¬ r1 ≤ (r9 + r5) → (0 ≤ (1 + l1) ∧ (1 + l1) < 98) ∧ (Q 0 (zwr M10 164 (1 + l1) (r9 + r5))))))))))))) : zCt G (h + 1) sl 0 0 y_Md_arcs [(2, 125), (0, l1)] M Q := by
  refine zCt.of (by decide +kernel) (Nat.le_of_ble_eq_true rfl) ?_
  refine x_aload_n (zdm d_Md_arcs_0 0 rfl) rfl (n := 0) rfl ?_
  refine x_iload_n (zdm d_Md_arcs_0 1 rfl) rfl (n := 1) rfl ?_
  refine x_iconst (zdm d_Md_arcs_0 2 rfl) (zIl rfl) ?_
  refine x_callVi (n := 2) (ci := 11) (zdm d_Md_arcs_0 3 rfl) k_Md_394 (As := [(0, l1), (0, 1)]) rfl rfl rfl ⟨_, _, rfl⟩ (Nat.le_of_ble_eq_true rfl) trivial H (fun r1 M2 hr H => ?_)
  refine x_istore_n (zdm d_Md_arcs_0 4 rfl) rfl (zlt rfl) rfl ?_
  refine x_aload_n (zdm d_Md_arcs_0 5 rfl) rfl (n := 1) rfl ?_
  refine x_iload_n (zdm d_Md_arcs_0 6 rfl) rfl (n := 2) rfl ?_
  refine x_iconst (zdm d_Md_arcs_0 7 rfl) (zIl rfl) ?_
  refine x_callVi (n := 2) (ci := 11) (zdm d_Md_arcs_0 8 rfl) k_Md_394 (As := [(0, l1), (0, 2)]) rfl rfl rfl ⟨_, _, rfl⟩ (Nat.le_of_ble_eq_true rfl) trivial H (fun r3 M4 hr H => ?_)
  refine x_istore_n (zdm d_Md_arcs_0 9 rfl) rfl (zlt rfl) rfl ?_
  refine x_aload_n (zdm d_Md_arcs_0 10 rfl) rfl (n := 2) rfl ?_
  refine x_iload_n (zdm d_Md_arcs_0 11 rfl) rfl (n := 3) rfl ?_
  refine x_iconst (zdm d_Md_arcs_0 12 rfl) (zIl rfl) ?_
  refine x_callVi (n := 2) (ci := 11) (zdm d_Md_arcs_0 13 rfl) k_Md_394 (As := [(0, l1), (0, 3)]) rfl rfl rfl ⟨_, _, rfl⟩ (Nat.le_of_ble_eq_true rfl) trivial H (fun r5 M6 hr H => ?_)
  refine x_istore (zdm d_Md_arcs_0 14 rfl) (zlt rfl) rfl ?_
  refine x_aload_n (zdm d_Md_arcs_0 15 rfl) rfl (n := 3) rfl ?_
  refine x_iload_n (zdm d_Md_arcs_0 16 rfl) rfl (n := 4) rfl ?_
  refine x_bipush (zdm d_Md_arcs_0 17 rfl) (by decide) ?_
  refine x_callVi (n := 2) (ci := 11) (zdm d_Md_arcs_0 18 rfl) k_Md_394 (As := [(0, l1), (0, 6)]) rfl rfl rfl ⟨_, _, rfl⟩ (Nat.le_of_ble_eq_true rfl) trivial H (fun r7 M8 hr H => ?_)
  refine x_istore (zdm d_Md_arcs_0 19 rfl) (zlt rfl) rfl ?_
  refine x_aload_n (zdm d_Md_arcs_0 20 rfl) rfl (n := 4) rfl ?_
  refine x_iload_n (zdm d_Md_arcs_0 21 rfl) rfl (n := 5) rfl ?_
  refine x_callVi (n := 1) (ci := 11) (zdm d_Md_arcs_0 22 rfl) k_Md_430 (As := [(0, l1)]) rfl rfl rfl ⟨_, _, rfl⟩ (Nat.le_of_ble_eq_true rfl) trivial H (fun r9 M10 hr H => ?_)
  refine x_istore (zdm d_Md_arcs_0 23 rfl) (zlt rfl) rfl ?_
  refine x_iload (zdm d_Md_arcs_0 24 rfl) (n := 0) rfl ?_
  refine x_iload_n (zdm d_Md_arcs_0 25 rfl) rfl (n := 4) rfl ?_
  refine x_icmpge (tgt := 85) (zdm d_Md_arcs_0 26 rfl) (by decide) (fun c => ?_) (fun c => ?_)
  · have H := H.1 c
    refine x_iload (zdm d_Md_arcs_0 52 rfl) (n := 0) rfl ?_
    refine x_iload (zdm d_Md_arcs_0 53 rfl) (n := 1) rfl ?_
    obtain ⟨g11, H⟩ := H
    refine x_iadd (zdm d_Md_arcs_0 54 rfl) g11 ?_
    refine x_istore (zdm d_Md_arcs_0 55 rfl) (zlt rfl) rfl ?_
    refine x_aload_n (zdm d_Md_arcs_0 56 rfl) rfl (n := 5) rfl ?_
    refine x_getG (zdm d_Md_arcs_0 57 rfl) f_Md_130 rfl rfl (by decide) hsl rfl ?_
    refine x_iconst (zdm d_Md_arcs_0 58 rfl) (zIl rfl) ?_
    refine x_iload_n (zdm d_Md_arcs_0 59 rfl) rfl (n := 6) rfl ?_
    obtain ⟨g12, H⟩ := H
    refine x_iadd (zdm d_Md_arcs_1 0 rfl) g12 ?_
    refine x_iload (zdm d_Md_arcs_1 1 rfl) (n := 0) rfl ?_
    refine x_iload_n (zdm d_Md_arcs_1 2 rfl) rfl (n := 3) rfl ?_
    refine x_icmpge (tgt := 110) (zdm d_Md_arcs_1 3 rfl) (by decide) (fun c => ?_) (fun c => ?_)
    · have H := H.1 c
      refine x_iload (zdm d_Md_arcs_1 6 rfl) (n := 0) rfl ?_
      refine x_iload_n (zdm d_Md_arcs_1 7 rfl) rfl (n := 3) rfl ?_
      obtain ⟨g13, H⟩ := H
      refine x_isub (zdm d_Md_arcs_1 8 rfl) g13 ?_
      refine x_iload (zdm d_Md_arcs_1 9 rfl) (n := 2) rfl ?_
      obtain ⟨g14, H⟩ := H
      refine x_imul (zdm d_Md_arcs_1 10 rfl) g14 ?_
      refine x_iload (zdm d_Md_arcs_1 11 rfl) (n := 1) rfl ?_
      obtain ⟨g15, H⟩ := H
      obtain ⟨g16, H⟩ := H
      refine x_idiv (zdm d_Md_arcs_1 12 rfl) g15 g16 ?_
      obtain ⟨g17, H⟩ := H
      refine x_iast (zdm d_Md_arcs_1 13 rfl) rfl g17 ?_
      exact x_return (zdm d_Md_arcs_1 14 rfl) rfl H
    · have H := H.2 c
      refine x_iload (zdm d_Md_arcs_1 4 rfl) (n := 0) rfl ?_
      refine x_goto (tgt := 120) (zdm d_Md_arcs_1 5 rfl) (by decide) ?_
      obtain ⟨g18, H⟩ := H
      refine x_iast (zdm d_Md_arcs_1 13 rfl) rfl g18 ?_
      exact x_return (zdm d_Md_arcs_1 14 rfl) rfl H
  · have H := H.2 c
    refine x_iload (zdm d_Md_arcs_0 27 rfl) (n := 0) rfl ?_
    refine x_iload (zdm d_Md_arcs_0 28 rfl) (n := 2) rfl ?_
    obtain ⟨g19, H⟩ := H
    refine x_iadd (zdm d_Md_arcs_0 29 rfl) g19 ?_
    refine x_istore (zdm d_Md_arcs_0 30 rfl) (zlt rfl) rfl ?_
    refine x_aload_n (zdm d_Md_arcs_0 31 rfl) rfl (n := 5) rfl ?_
    refine x_getG (zdm d_Md_arcs_0 32 rfl) f_Md_130 rfl rfl (by decide) hsl rfl ?_
    refine x_iconst (zdm d_Md_arcs_0 33 rfl) (zIl rfl) ?_
    refine x_iload_n (zdm d_Md_arcs_0 34 rfl) rfl (n := 6) rfl ?_
    obtain ⟨g20, H⟩ := H
    refine x_iadd (zdm d_Md_arcs_0 35 rfl) g20 ?_
    refine x_iload (zdm d_Md_arcs_0 36 rfl) (n := 0) rfl ?_
    refine x_iload_n (zdm d_Md_arcs_0 37 rfl) rfl (n := 4) rfl ?_
    refine x_icmpge (tgt := 69) (zdm d_Md_arcs_0 38 rfl) (by decide) (fun c => ?_) (fun c => ?_)
    · have H := H.1 c
      refine x_iload_n (zdm d_Md_arcs_0 41 rfl) rfl (n := 4) rfl ?_
      refine x_iload (zdm d_Md_arcs_0 42 rfl) (n := 0) rfl ?_
      refine x_iload_n (zdm d_Md_arcs_0 43 rfl) rfl (n := 4) rfl ?_
      obtain ⟨g21, H⟩ := H
      refine x_isub (zdm d_Md_arcs_0 44 rfl) g21 ?_
      refine x_iload (zdm d_Md_arcs_0 45 rfl) (n := 1) rfl ?_
      obtain ⟨g22, H⟩ := H
      refine x_imul (zdm d_Md_arcs_0 46 rfl) g22 ?_
      refine x_iload (zdm d_Md_arcs_0 47 rfl) (n := 2) rfl ?_
      obtain ⟨g23, H⟩ := H
      obtain ⟨g24, H⟩ := H
      refine x_idiv (zdm d_Md_arcs_0 48 rfl) g23 g24 ?_
      obtain ⟨g25, H⟩ := H
      refine x_iadd (zdm d_Md_arcs_0 49 rfl) g25 ?_
      obtain ⟨g26, H⟩ := H
      refine x_iast (zdm d_Md_arcs_0 50 rfl) rfl g26 ?_
      refine x_goto (tgt := 121) (zdm d_Md_arcs_0 51 rfl) (by decide) ?_
      exact x_return (zdm d_Md_arcs_1 14 rfl) rfl H
    · have H := H.2 c
      refine x_iload (zdm d_Md_arcs_0 39 rfl) (n := 0) rfl ?_
      refine x_goto (tgt := 81) (zdm d_Md_arcs_0 40 rfl) (by decide) ?_
      obtain ⟨g27, H⟩ := H
      refine x_iast (zdm d_Md_arcs_0 50 rfl) rfl g27 ?_
      refine x_goto (tgt := 121) (zdm d_Md_arcs_0 51 rfl) (by decide) ?_
      exact x_return (zdm d_Md_arcs_1 14 rfl) rfl H
