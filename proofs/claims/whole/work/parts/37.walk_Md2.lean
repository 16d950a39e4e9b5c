set_option maxRecDepth 20000 in
set_option maxHeartbeats 4000000 in
theorem E_Md_goesOn {G : zG} {h sl : Nat} (hsl : 2 ≤ sl) {l1 : Int} {M : zM} {Q : Int → zM → Prop} (H : zCt G h sl 0 0 y_Md_sortOf [(2, 125), (0, l1)] M (fun r1 M2 => (¬ r1 = 0 → (¬ r1 = 1 → (¬ r1 = 2 → (zI (1 + l1)) ∧ (zCt G h sl 0 0 y_Md_valueOf [(2, 125), (0, l1)] M2 (fun r4 M5 => zCt G h sl 0 0 y_Md_summed [(2, 125), (0, l1), (0, r4)] M5 (fun r6 M7 => (0 ≤ (1 + l1) ∧ (1 + l1) < 98) ∧ (Q 0 (zwr M7 164 (1 + l1) r6)))))) ∧ (¬ (¬ r1 = 2) → (zI (1 + l1)) ∧ (zCt G h sl 0 0 y_Md_valueOf [(2, 125), (0, l1)] M2 (fun r10 M11 => zCt G h sl 0 0 y_Md_valueOf [(2, 125), (0, l1)] M11 (fun r12 M13 => zCt G h sl 0 0 y_Md_summed [(2, 125), (0, l1), (0, r12)] M13 (fun r14 M15 => (zL (r10 + r14)) ∧ (zCt G h sl 0 0 y_Md_fieldOf [(2, 125), (0, l1), (0, 2)] M15 (fun r17 M18 => zCt G h sl 0 0 y_Md_around [(1, (r10 + r14)), (0, r17)] M18 (fun r19 M20 => (0 ≤ (1 + l1) ∧ (1 + l1) < 98) ∧ (Q 0 (zwr M20 164 (1 + l1) r19))))))))))) ∧ (¬ (¬ r1 = 1) → zCt G h sl 0 0 y_Md_arcs [(2, 125), (0, l1)] M2 (fun r22 M23 => Q 0 M23))) ∧ (¬ (¬ r1 = 0) → zCt G h sl 0 0 y_Md_zigs [(2, 125), (0, l1)] M2 (fun r24 M25 => Q 0 M25)))) : zCt G (h + 1) sl 0 0 y_Md_goesOn [(2, 125), (0, l1)] M Q := by
  refine zCt.of (by decide +kernel) (Nat.le_of_ble_eq_true rfl) ?_
  refine x_aload_n (zdm d_Md_goesOn_0 0 rfl) rfl (n := 0) rfl ?_
  refine x_iload_n (zdm d_Md_goesOn_0 1 rfl) rfl (n := 1) rfl ?_
  refine x_callVi (n := 1) (ci := 11) (zdm d_Md_goesOn_0 2 rfl) k_Md_424 (As := [(0, l1)]) rfl rfl rfl ⟨_, _, rfl⟩ (Nat.le_of_ble_eq_true rfl) trivial H (fun r1 M2 hr H => ?_)
  refine x_istore_n (zdm d_Md_goesOn_0 3 rfl) rfl (zlt rfl) rfl ?_
  refine x_iload_n (zdm d_Md_goesOn_0 4 rfl) rfl (n := 0) rfl ?_
  refine x_ifne (tgt := 18) (zdm d_Md_goesOn_0 5 rfl) (by decide) (fun c => ?_) (fun c => ?_)
  · have H := H.1 c
    refine x_iload_n (zdm d_Md_goesOn_0 10 rfl) rfl (n := 0) rfl ?_
    refine x_iconst (zdm d_Md_goesOn_0 11 rfl) (zIl rfl) ?_
    refine x_icmpne (tgt := 31) (zdm d_Md_goesOn_0 12 rfl) (by decide) (fun c => ?_) (fun c => ?_)
    · have H := H.1 c
      refine x_iload_n (zdm d_Md_goesOn_0 17 rfl) rfl (n := 0) rfl ?_
      refine x_iconst (zdm d_Md_goesOn_0 18 rfl) (zIl rfl) ?_
      refine x_icmpne (tgt := 74) (zdm d_Md_goesOn_0 19 rfl) (by decide) (fun c => ?_) (fun c => ?_)
      · have H := H.1 c
        refine x_aload_n (zdm d_Md_goesOn_0 44 rfl) rfl (n := 1) rfl ?_
        refine x_getG (zdm d_Md_goesOn_0 45 rfl) f_Md_130 rfl rfl (by decide) hsl rfl ?_
        refine x_iconst (zdm d_Md_goesOn_0 46 rfl) (zIl rfl) ?_
        refine x_iload_n (zdm d_Md_goesOn_0 47 rfl) rfl (n := 2) rfl ?_
        obtain ⟨g3, H⟩ := H
        refine x_iadd (zdm d_Md_goesOn_0 48 rfl) g3 ?_
        refine x_aload_n (zdm d_Md_goesOn_0 49 rfl) rfl (n := 1) rfl ?_
        refine x_iload_n (zdm d_Md_goesOn_0 50 rfl) rfl (n := 2) rfl ?_
        refine x_aload_n (zdm d_Md_goesOn_0 51 rfl) rfl (n := 1) rfl ?_
        refine x_iload_n (zdm d_Md_goesOn_0 52 rfl) rfl (n := 2) rfl ?_
        refine x_callVi (n := 1) (ci := 11) (zdm d_Md_goesOn_0 53 rfl) k_Md_430 (As := [(0, l1)]) rfl rfl rfl ⟨_, _, rfl⟩ (Nat.le_of_ble_eq_true rfl) trivial H (fun r4 M5 hr H => ?_)
        refine x_callVi (n := 2) (ci := 11) (zdm d_Md_goesOn_0 54 rfl) k_Md_427 (As := [(0, l1), (0, r4)]) rfl rfl rfl ⟨_, _, rfl⟩ (Nat.le_of_ble_eq_true rfl) trivial H (fun r6 M7 hr H => ?_)
        obtain ⟨g8, H⟩ := H
        refine x_iast (zdm d_Md_goesOn_0 55 rfl) rfl g8 ?_
        exact x_return (zdm d_Md_goesOn_0 56 rfl) rfl H
      · have H := H.2 c
        refine x_aload_n (zdm d_Md_goesOn_0 20 rfl) rfl (n := 1) rfl ?_
        refine x_getG (zdm d_Md_goesOn_0 21 rfl) f_Md_130 rfl rfl (by decide) hsl rfl ?_
        refine x_iconst (zdm d_Md_goesOn_0 22 rfl) (zIl rfl) ?_
        refine x_iload_n (zdm d_Md_goesOn_0 23 rfl) rfl (n := 2) rfl ?_
        obtain ⟨g9, H⟩ := H
        refine x_iadd (zdm d_Md_goesOn_0 24 rfl) g9 ?_
        refine x_aload_n (zdm d_Md_goesOn_0 25 rfl) rfl (n := 1) rfl ?_
        refine x_iload_n (zdm d_Md_goesOn_0 26 rfl) rfl (n := 2) rfl ?_
        refine x_callVi (n := 1) (ci := 11) (zdm d_Md_goesOn_0 27 rfl) k_Md_430 (As := [(0, l1)]) rfl rfl rfl ⟨_, _, rfl⟩ (Nat.le_of_ble_eq_true rfl) trivial H (fun r10 M11 hr H => ?_)
        refine x_i2l (zdm d_Md_goesOn_0 28 rfl) ?_
        refine x_aload_n (zdm d_Md_goesOn_0 29 rfl) rfl (n := 1) rfl ?_
        refine x_iload_n (zdm d_Md_goesOn_0 30 rfl) rfl (n := 2) rfl ?_
        refine x_aload_n (zdm d_Md_goesOn_0 31 rfl) rfl (n := 1) rfl ?_
        refine x_iload_n (zdm d_Md_goesOn_0 32 rfl) rfl (n := 2) rfl ?_
        refine x_callVi (n := 1) (ci := 11) (zdm d_Md_goesOn_0 33 rfl) k_Md_430 (As := [(0, l1)]) rfl rfl rfl ⟨_, _, rfl⟩ (Nat.le_of_ble_eq_true rfl) trivial H (fun r12 M13 hr H => ?_)
        refine x_callVi (n := 2) (ci := 11) (zdm d_Md_goesOn_0 34 rfl) k_Md_427 (As := [(0, l1), (0, r12)]) rfl rfl rfl ⟨_, _, rfl⟩ (Nat.le_of_ble_eq_true rfl) trivial H (fun r14 M15 hr H => ?_)
        refine x_i2l (zdm d_Md_goesOn_0 35 rfl) ?_
        obtain ⟨g16, H⟩ := H
        refine x_ladd (zdm d_Md_goesOn_0 36 rfl) g16 ?_
        refine x_aload_n (zdm d_Md_goesOn_0 37 rfl) rfl (n := 1) rfl ?_
        refine x_iload_n (zdm d_Md_goesOn_0 38 rfl) rfl (n := 2) rfl ?_
        refine x_iconst (zdm d_Md_goesOn_0 39 rfl) (zIl rfl) ?_
        refine x_callVi (n := 2) (ci := 11) (zdm d_Md_goesOn_0 40 rfl) k_Md_394 (As := [(0, l1), (0, 2)]) rfl rfl rfl ⟨_, _, rfl⟩ (Nat.le_of_ble_eq_true rfl) trivial H (fun r17 M18 hr H => ?_)
        refine x_callSi (n := 2) (zdm d_Md_goesOn_0 41 rfl) k_Md_439 (As := [(1, (r10 + r14)), (0, r17)]) rfl rfl (Nat.le_of_ble_eq_true rfl) trivial H (fun r19 M20 hr H => ?_)
        obtain ⟨g21, H⟩ := H
        refine x_iast (zdm d_Md_goesOn_0 42 rfl) rfl g21 ?_
        refine x_goto (tgt := 92) (zdm d_Md_goesOn_0 43 rfl) (by decide) ?_
        exact x_return (zdm d_Md_goesOn_0 56 rfl) rfl H
    · have H := H.2 c
      refine x_aload_n (zdm d_Md_goesOn_0 13 rfl) rfl (n := 1) rfl ?_
      refine x_iload_n (zdm d_Md_goesOn_0 14 rfl) rfl (n := 2) rfl ?_
      refine x_callVv (n := 1) (ci := 11) (zdm d_Md_goesOn_0 15 rfl) k_Md_436 (As := [(0, l1)]) rfl rfl rfl ⟨_, _, rfl⟩ (Nat.le_of_ble_eq_true rfl) rfl H (fun r22 M23 hr H => ?_)
      refine x_goto (tgt := 92) (zdm d_Md_goesOn_0 16 rfl) (by decide) ?_
      exact x_return (zdm d_Md_goesOn_0 56 rfl) rfl H
  · have H := H.2 c
    refine x_aload_n (zdm d_Md_goesOn_0 6 rfl) rfl (n := 1) rfl ?_
    refine x_iload_n (zdm d_Md_goesOn_0 7 rfl) rfl (n := 2) rfl ?_
    refine x_callVv (n := 1) (ci := 11) (zdm d_Md_goesOn_0 8 rfl) k_Md_433 (As := [(0, l1)]) rfl rfl rfl ⟨_, _, rfl⟩ (Nat.le_of_ble_eq_true rfl) rfl H (fun r24 M25 hr H => ?_)
    refine x_goto (tgt := 92) (zdm d_Md_goesOn_0 9 rfl) (by decide) ?_
    exact x_return (zdm d_Md_goesOn_0 56 rfl) rfl H
set_option maxRecDepth 20000 in
set_option maxHeartbeats 4000000 in
theorem B_Md_lineGoes_12 {G : zG} {h sl : Nat} (hsl : 2 ≤ sl) {u : Nat × Nat × Nat × Nat} {l1 : Int} {M : zM} {Q : Int → zM → Prop} (H : zCt G h sl 0 0 y_Md_columnMany [(2, 125)] M (fun r1 M2 => (r1 ≤ l1 → Q 0 M2) ∧ (¬ r1 ≤ l1 → zCt G h sl 0 0 y_Md_goesOn [(2, 125), (0, l1)] M2 (fun r3 M4 => (zI (l1 + 1)) ∧ (zX G (y_Md_lineGoes, h + 1, sl) u 12 [(0, (2, 125)), (1, (0, (l1 + 1)))] [] M4 Q))))) : zX G (y_Md_lineGoes, h + 1, sl) u 12 [(0, (2, 125)), (1, (0, l1))] [] M Q := by
  refine x_iload_n (zdm d_Md_lineGoes_0 10 rfl) rfl (n := 1) rfl ?_
  refine x_aload_n (zdm d_Md_lineGoes_0 11 rfl) rfl (n := 0) rfl ?_
  refine x_callVi (n := 0) (ci := 11) (zdm d_Md_lineGoes_0 12 rfl) k_Md_391 (As := []) rfl rfl rfl ⟨_, _, rfl⟩ (Nat.le_of_ble_eq_true rfl) trivial H (fun r1 M2 hr H => ?_)
  refine x_icmpge (tgt := 31) (zdm d_Md_lineGoes_0 13 rfl) (by decide) (fun c => ?_) (fun c => ?_)
  · have H := H.1 c
    exact x_return (zdm d_Md_lineGoes_0 19 rfl) rfl H
  · have H := H.2 c
    refine x_aload_n (zdm d_Md_lineGoes_0 14 rfl) rfl (n := 0) rfl ?_
    refine x_iload_n (zdm d_Md_lineGoes_0 15 rfl) rfl (n := 1) rfl ?_
    refine x_callVv (n := 1) (ci := 11) (zdm d_Md_lineGoes_0 16 rfl) k_Md_443 (As := [(0, l1)]) rfl rfl rfl ⟨_, _, rfl⟩ (Nat.le_of_ble_eq_true rfl) rfl H (fun r3 M4 hr H => ?_)
    obtain ⟨g5, H⟩ := H
    refine x_iinc (zdm d_Md_lineGoes_0 17 rfl) (n := 1) rfl g5 (zlt rfl) rfl ?_
    refine x_goto (tgt := 12) (zdm d_Md_lineGoes_0 18 rfl) (by decide) ?_
    exact zX.sub [1, 0] rfl H
set_option maxRecDepth 20000 in
set_option maxHeartbeats 4000000 in
theorem E_Md_lineGoes {G : zG} {h sl : Nat} (hsl : 2 ≤ sl) {M : zM} {Q : Int → zM → Prop} (H : (zI ((M 164 0) + 1)) ∧ (zX G (y_Md_lineGoes, h + 1, sl) (0, 0, 0, 0) 12 [(0, (2, 125)), (1, (0, 0))] [] (zwr M 164 0 ((M 164 0) + 1)) Q)) : zCt G (h + 1) sl 0 0 y_Md_lineGoes [(2, 125)] M Q := by
  refine zCt.of (by decide +kernel) (Nat.le_of_ble_eq_true rfl) ?_
  refine x_aload_n (zdm d_Md_lineGoes_0 0 rfl) rfl (n := 0) rfl ?_
  refine x_getG (zdm d_Md_lineGoes_0 1 rfl) f_Md_130 rfl rfl (by decide) hsl rfl ?_
  refine x_iconst (zdm d_Md_lineGoes_0 2 rfl) (zIl rfl) ?_
  refine x_dup2 (zdm d_Md_lineGoes_0 3 rfl) z0n1 z2n1 ?_
  refine x_iald (zdm d_Md_lineGoes_0 4 rfl) rfl ⟨by decide, by decide⟩ ?_
  refine x_iconst (zdm d_Md_lineGoes_0 5 rfl) (zIl rfl) ?_
  obtain ⟨g1, H⟩ := H
  refine x_iadd (zdm d_Md_lineGoes_0 6 rfl) g1 ?_
  refine x_iast (zdm d_Md_lineGoes_0 7 rfl) rfl ⟨by decide, by decide⟩ ?_
  refine x_iconst (zdm d_Md_lineGoes_0 8 rfl) (zIl rfl) ?_
  refine x_istore_n (zdm d_Md_lineGoes_0 9 rfl) rfl (zlt rfl) rfl ?_
  exact zX.sub [1, 0] rfl H
set_option maxRecDepth 20000 in
set_option maxHeartbeats 4000000 in
theorem E_Md_isMarked {G : zG} {h sl : Nat} (hsl : 2 ≤ sl) {M : zM} {Q : Int → zM → Prop} (H : ((M 125 52) = 0 → Q 0 M) ∧ (¬ (M 125 52) = 0 → zCt G h sl 0 0 y_Md_codesTell [(2, 125), (0, 8)] M (fun r1 M2 => (¬ r1 = 1 → Q 0 M2) ∧ (¬ (¬ r1 = 1) → Q 1 M2)))) : zCt G (h + 1) sl 0 0 y_Md_isMarked [(2, 125)] M Q := by
  refine zCt.of (by decide +kernel) (Nat.le_of_ble_eq_true rfl) ?_
  refine x_aload_n (zdm d_Md_isMarked_0 0 rfl) rfl (n := 0) rfl ?_
  refine x_getf (zdm d_Md_isMarked_0 1 rfl) f_Md_375 rfl rfl ?_
  refine x_ifeq (tgt := 22) (zdm d_Md_isMarked_0 2 rfl) (by decide) (fun c => ?_) (fun c => ?_)
  · have H := H.1 c
    refine x_iconst (zdm d_Md_isMarked_0 11 rfl) (zIl rfl) ?_
    exact x_ireturn (zdm d_Md_isMarked_0 12 rfl) (ty := .boolean) rfl (by decide) (Or.inl rfl) H
  · have H := H.2 c
    refine x_aload_n (zdm d_Md_isMarked_0 3 rfl) rfl (n := 0) rfl ?_
    refine x_bipush (zdm d_Md_isMarked_0 4 rfl) (by decide) ?_
    refine x_callVl (n := 1) (ci := 11) (zdm d_Md_isMarked_0 5 rfl) k_Md_414 (As := [(0, 8)]) rfl rfl rfl ⟨_, _, rfl⟩ (Nat.le_of_ble_eq_true rfl) rfl H (fun r1 M2 hr H => ?_)
    refine x_lconst (zdm d_Md_isMarked_0 6 rfl) (x := 1) rfl ?_
    refine x_lcmp_ne (tgt := 22) (zdm d_Md_isMarked_0 7 rfl) (zdm d_Md_isMarked_0 8 rfl) (by decide) (fun c => ?_) (fun c => ?_)
    · have H := H.1 c
      refine x_iconst (zdm d_Md_isMarked_0 11 rfl) (zIl rfl) ?_
      exact x_ireturn (zdm d_Md_isMarked_0 12 rfl) (ty := .boolean) rfl (by decide) (Or.inl rfl) H
    · have H := H.2 c
      refine x_iconst (zdm d_Md_isMarked_0 9 rfl) (zIl rfl) ?_
      refine x_goto (tgt := 23) (zdm d_Md_isMarked_0 10 rfl) (by decide) ?_
      exact x_ireturn (zdm d_Md_isMarked_0 12 rfl) (ty := .boolean) rfl (by decide) (Or.inr rfl) H
set_option maxRecDepth 20000 in
set_option maxHeartbeats 4000000 in
theorem B_Md_laysTrue_15 {G : zG} {h sl : Nat} (hsl : 2 ≤ sl) {u : Nat × Nat × Nat × Nat} {l1 l2 : Int} {M : zM} {Q : Int → zM → Prop} (H : (8 ≤ l2 → zCt G h sl 0 0 y_Md_lineGoes [(2, 125)] M (fun r1 M2 => (zI (l1 + 1)) ∧ (zX G (y_Md_laysTrue, h + 1, sl) u 6 [(0, (2, 125)), (1, (0, (l1 + 1)))] [] M2 Q))) ∧ (¬ 8 ≤ l2 → (zI (8 * l1)) ∧ ((zI ((8 * l1) + l2)) ∧ ((zI (1 + l2)) ∧ ((0 ≤ (1 + l2) ∧ (1 + l2) < 98) ∧ ((0 ≤ ((8 * l1) + l2) ∧ ((8 * l1) + l2) < 8000) ∧ ((zI (9 + l2)) ∧ ((0 ≤ (9 + l2) ∧ (9 + l2) < 98) ∧ ((zI (l2 + 1)) ∧ (zX G (y_Md_laysTrue, h + 1, sl) u 15 [(0, (2, 125)), (1, (0, l1)), (2, (0, (l2 + 1)))] [] (zwr (zwr M 165 ((8 * l1) + l2) (M 164 (1 + l2))) 166 ((8 * l1) + l2) ((zwr M 165 ((8 * l1) + l2) (M 164 (1 + l2))) 164 (9 + l2))) Q)))))))))) : zX G (y_Md_laysTrue, h + 1, sl) u 15 [(0, (2, 125)), (1, (0, l1)), (2, (0, l2))] [] M Q := by
  refine x_iload_n (zdm d_Md_laysTrue_0 9 rfl) rfl (n := 2) rfl ?_
  refine x_bipush (zdm d_Md_laysTrue_0 10 rfl) (by decide) ?_
  refine x_icmpge (tgt := 66) (zdm d_Md_laysTrue_0 11 rfl) (by decide) (fun c => ?_) (fun c => ?_)
  · have H := H.1 c
    refine x_aload_n (zdm d_Md_laysTrue_0 42 rfl) rfl (n := 0) rfl ?_
    refine x_callVv (n := 0) (ci := 11) (zdm d_Md_laysTrue_0 43 rfl) k_Md_446 (As := []) rfl rfl rfl ⟨_, _, rfl⟩ (Nat.le_of_ble_eq_true rfl) rfl H (fun r1 M2 hr H => ?_)
    obtain ⟨g3, H⟩ := H
    refine x_iinc (zdm d_Md_laysTrue_0 44 rfl) (n := 1) rfl g3 (zlt rfl) rfl ?_
    refine x_goto (tgt := 6) (zdm d_Md_laysTrue_0 45 rfl) (by decide) ?_
    exact zX.sub [1, 0] rfl H
  · have H := H.2 c
    refine x_aload_n (zdm d_Md_laysTrue_0 12 rfl) rfl (n := 0) rfl ?_
    refine x_getG (zdm d_Md_laysTrue_0 13 rfl) f_Md_133 rfl rfl (by decide) hsl rfl ?_
    refine x_bipush (zdm d_Md_laysTrue_0 14 rfl) (by decide) ?_
    refine x_iload_n (zdm d_Md_laysTrue_0 15 rfl) rfl (n := 1) rfl ?_
    obtain ⟨g4, H⟩ := H
    refine x_imul (zdm d_Md_laysTrue_0 16 rfl) g4 ?_
    refine x_iload_n (zdm d_Md_laysTrue_0 17 rfl) rfl (n := 2) rfl ?_
    obtain ⟨g5, H⟩ := H
    refine x_iadd (zdm d_Md_laysTrue_0 18 rfl) g5 ?_
    refine x_aload_n (zdm d_Md_laysTrue_0 19 rfl) rfl (n := 0) rfl ?_
    refine x_getG (zdm d_Md_laysTrue_0 20 rfl) f_Md_130 rfl rfl (by decide) hsl rfl ?_
    refine x_iconst (zdm d_Md_laysTrue_0 21 rfl) (zIl rfl) ?_
    refine x_iload_n (zdm d_Md_laysTrue_0 22 rfl) rfl (n := 2) rfl ?_
    obtain ⟨g6, H⟩ := H
    refine x_iadd (zdm d_Md_laysTrue_0 23 rfl) g6 ?_
    obtain ⟨g7, H⟩ := H
    refine x_iald (zdm d_Md_laysTrue_0 24 rfl) rfl g7 ?_
    obtain ⟨g8, H⟩ := H
    refine x_iast (zdm d_Md_laysTrue_0 25 rfl) rfl g8 ?_
    refine x_aload_n (zdm d_Md_laysTrue_0 26 rfl) rfl (n := 0) rfl ?_
    refine x_getG (zdm d_Md_laysTrue_0 27 rfl) f_Md_136 rfl rfl (by decide) hsl rfl ?_
    refine x_bipush (zdm d_Md_laysTrue_0 28 rfl) (by decide) ?_
    refine x_iload_n (zdm d_Md_laysTrue_0 29 rfl) rfl (n := 1) rfl ?_
    refine x_imul (zdm d_Md_laysTrue_0 30 rfl) g4 ?_
    refine x_iload_n (zdm d_Md_laysTrue_0 31 rfl) rfl (n := 2) rfl ?_
    refine x_iadd (zdm d_Md_laysTrue_0 32 rfl) g5 ?_
    refine x_aload_n (zdm d_Md_laysTrue_0 33 rfl) rfl (n := 0) rfl ?_
    refine x_getG (zdm d_Md_laysTrue_0 34 rfl) f_Md_130 rfl rfl (by decide) hsl rfl ?_
    refine x_bipush (zdm d_Md_laysTrue_0 35 rfl) (by decide) ?_
    refine x_iload_n (zdm d_Md_laysTrue_0 36 rfl) rfl (n := 2) rfl ?_
    obtain ⟨g9, H⟩ := H
    refine x_iadd (zdm d_Md_laysTrue_0 37 rfl) g9 ?_
    obtain ⟨g10, H⟩ := H
    refine x_iald (zdm d_Md_laysTrue_0 38 rfl) rfl g10 ?_
    refine x_iast (zdm d_Md_laysTrue_0 39 rfl) rfl g8 ?_
    obtain ⟨g11, H⟩ := H
    refine x_iinc (zdm d_Md_laysTrue_0 40 rfl) (n := 2) rfl g11 (zlt rfl) rfl ?_
    refine x_goto (tgt := 15) (zdm d_Md_laysTrue_0 41 rfl) (by decide) ?_
    exact zX.sub [1, 2, 0] rfl H
set_option maxRecDepth 20000 in
set_option maxHeartbeats 4000000 in
theorem B_Md_laysTrue_6 {G : zG} {h sl : Nat} (hsl : 2 ≤ sl) {u : Nat × Nat × Nat × Nat} {l1 : Int} {M : zM} {Q : Int → zM → Prop} (H : (999 < l1 → Q 0 M) ∧ (¬ 999 < l1 → zX G (y_Md_laysTrue, h + 1, sl) u 15 [(0, (2, 125)), (1, (0, l1)), (2, (0, 0))] [] M Q)) : zX G (y_Md_laysTrue, h + 1, sl) u 6 [(0, (2, 125)), (1, (0, l1))] [] M Q := by
  refine x_iload_n (zdm d_Md_laysTrue_0 4 rfl) rfl (n := 1) rfl ?_
  refine x_sipush (zdm d_Md_laysTrue_0 5 rfl) (by decide) ?_
  refine x_icmpgt (tgt := 76) (zdm d_Md_laysTrue_0 6 rfl) (by decide) (fun c => ?_) (fun c => ?_)
  · have H := H.1 c
    exact x_return (zdm d_Md_laysTrue_0 46 rfl) rfl H
  · have H := H.2 c
    refine x_iconst (zdm d_Md_laysTrue_0 7 rfl) (zIl rfl) ?_
    refine x_istore_n (zdm d_Md_laysTrue_0 8 rfl) rfl (zlt rfl) rfl ?_
    exact zX.sub [1, 2, 0] rfl H
set_option maxRecDepth 20000 in
set_option maxHeartbeats 4000000 in
theorem E_Md_laysTrue {G : zG} {h sl : Nat} (hsl : 2 ≤ sl) {M : zM} {Q : Int → zM → Prop} (H : zCt G h sl 0 0 y_Md_begins [(2, 125)] M (fun r1 M2 => zX G (y_Md_laysTrue, h + 1, sl) (0, 0, 0, 0) 6 [(0, (2, 125)), (1, (0, 0))] [] M2 Q)) : zCt G (h + 1) sl 0 0 y_Md_laysTrue [(2, 125)] M Q := by
  refine zCt.of (by decide +kernel) (Nat.le_of_ble_eq_true rfl) ?_
  refine x_aload_n (zdm d_Md_laysTrue_0 0 rfl) rfl (n := 0) rfl ?_
  refine x_callVv (n := 0) (ci := 11) (zdm d_Md_laysTrue_0 1 rfl) k_Md_382 (As := []) rfl rfl rfl ⟨_, _, rfl⟩ (Nat.le_of_ble_eq_true rfl) rfl H (fun r1 M2 hr H => ?_)
  refine x_iconst (zdm d_Md_laysTrue_0 2 rfl) (zIl rfl) ?_
  refine x_istore_n (zdm d_Md_laysTrue_0 3 rfl) rfl (zlt rfl) rfl ?_
  exact zX.sub [1, 0] rfl H
set_option maxRecDepth 20000 in
set_option maxHeartbeats 4000000 in
theorem E_Md_trueOf {G : zG} {h sl : Nat} (hsl : 2 ≤ sl) {l1 l2 : Int} {M : zM} {Q : Int → zM → Prop} (H : (zI (8 * l1)) ∧ ((zI ((8 * l1) + l2)) ∧ ((0 ≤ ((8 * l1) + l2) ∧ ((8 * l1) + l2) < 8000) ∧ (Q (M 165 ((8 * l1) + l2)) M)))) : zCt G h sl 0 0 y_Md_trueOf [(2, 125), (0, l1), (0, l2)] M Q := by
  refine zCt.of (by decide +kernel) (Nat.le_of_ble_eq_true rfl) ?_
  refine x_aload_n (zdm d_Md_trueOf_0 0 rfl) rfl (n := 0) rfl ?_
  refine x_getG (zdm d_Md_trueOf_0 1 rfl) f_Md_133 rfl rfl (by decide) hsl rfl ?_
  refine x_bipush (zdm d_Md_trueOf_0 2 rfl) (by decide) ?_
  refine x_iload_n (zdm d_Md_trueOf_0 3 rfl) rfl (n := 1) rfl ?_
  obtain ⟨g1, H⟩ := H
  refine x_imul (zdm d_Md_trueOf_0 4 rfl) g1 ?_
  refine x_iload_n (zdm d_Md_trueOf_0 5 rfl) rfl (n := 2) rfl ?_
  obtain ⟨g2, H⟩ := H
  refine x_iadd (zdm d_Md_trueOf_0 6 rfl) g2 ?_
  obtain ⟨g3, H⟩ := H
  refine x_iald (zdm d_Md_trueOf_0 7 rfl) rfl g3 ?_
  exact x_iret (zdm d_Md_trueOf_0 8 rfl) rfl H
set_option maxRecDepth 20000 in
set_option maxHeartbeats 4000000 in
theorem B_Md_wrongMany_4 {G : zG} {h sl : Nat} (hsl : 2 ≤ sl) {u : Nat × Nat × Nat × Nat} {l1 l2 : Int} {M : zM} {Q : Int → zM → Prop} (H : zCt G h sl 0 0 y_Md_columnMany [(2, 125)] M (fun r1 M2 => (r1 ≤ l2 → Q l1 M2) ∧ (¬ r1 ≤ l2 → zCt G h sl 0 0 y_Md_valueOf [(2, 125), (0, l2)] M2 (fun r3 M4 => zCt G h sl 0 0 y_Md_trueOf [(2, 125), (0, (M4 164 0)), (0, l2)] M4 (fun r5 M6 => (r3 = r5 → (zI (l2 + 1)) ∧ (zX G (y_Md_wrongMany, h + 1, sl) u 4 [(0, (2, 125)), (1, (0, l1)), (2, (0, (l2 + 1)))] [] M6 Q)) ∧ (¬ r3 = r5 → (zI (l1 + 1)) ∧ ((zI (l2 + 1)) ∧ (zX G (y_Md_wrongMany, h + 1, sl) u 4 [(0, (2, 125)), (1, (0, (l1 + 1))), (2, (0, (l2 + 1)))] [] M6 Q)))))))) : zX G (y_Md_wrongMany, h + 1, sl) u 4 [(0, (2, 125)), (1, (0, l1)), (2, (0, l2))] [] M Q := by
  refine x_iload_n (zdm d_Md_wrongMany_0 4 rfl) rfl (n := 2) rfl ?_
  refine x_aload_n (zdm d_Md_wrongMany_0 5 rfl) rfl (n := 0) rfl ?_
  refine x_callVi (n := 0) (ci := 11) (zdm d_Md_wrongMany_0 6 rfl) k_Md_391 (As := []) rfl rfl rfl ⟨_, _, rfl⟩ (Nat.le_of_ble_eq_true rfl) trivial H (fun r1 M2 hr H => ?_)
  refine x_icmpge (tgt := 40) (zdm d_Md_wrongMany_0 7 rfl) (by decide) (fun c => ?_) (fun c => ?_)
  · have H := H.1 c
    refine x_iload_n (zdm d_Md_wrongMany_0 22 rfl) rfl (n := 1) rfl ?_
    exact x_iret (zdm d_Md_wrongMany_0 23 rfl) rfl H
  · have H := H.2 c
    refine x_aload_n (zdm d_Md_wrongMany_0 8 rfl) rfl (n := 0) rfl ?_
    refine x_iload_n (zdm d_Md_wrongMany_0 9 rfl) rfl (n := 2) rfl ?_
    refine x_callVi (n := 1) (ci := 11) (zdm d_Md_wrongMany_0 10 rfl) k_Md_430 (As := [(0, l2)]) rfl rfl rfl ⟨_, _, rfl⟩ (Nat.le_of_ble_eq_true rfl) trivial H (fun r3 M4 hr H => ?_)
    refine x_aload_n (zdm d_Md_wrongMany_0 11 rfl) rfl (n := 0) rfl ?_
    refine x_aload_n (zdm d_Md_wrongMany_0 12 rfl) rfl (n := 0) rfl ?_
    refine x_getG (zdm d_Md_wrongMany_0 13 rfl) f_Md_130 rfl rfl (by decide) hsl rfl ?_
    refine x_iconst (zdm d_Md_wrongMany_0 14 rfl) (zIl rfl) ?_
    refine x_iald (zdm d_Md_wrongMany_0 15 rfl) rfl ⟨by decide, by decide⟩ ?_
    refine x_iload_n (zdm d_Md_wrongMany_0 16 rfl) rfl (n := 2) rfl ?_
    refine x_callVi (n := 2) (ci := 11) (zdm d_Md_wrongMany_0 17 rfl) k_Md_449 (As := [(0, (M4 164 0)), (0, l2)]) rfl rfl rfl ⟨_, _, rfl⟩ (Nat.le_of_ble_eq_true rfl) trivial H (fun r5 M6 hr H => ?_)
    refine x_icmpeq (tgt := 34) (zdm d_Md_wrongMany_0 18 rfl) (by decide) (fun c => ?_) (fun c => ?_)
    · have H := H.1 c
      obtain ⟨g7, H⟩ := H
      refine x_iinc (zdm d_Md_wrongMany_0 20 rfl) (n := 2) rfl g7 (zlt rfl) rfl ?_
      refine x_goto (tgt := 4) (zdm d_Md_wrongMany_0 21 rfl) (by decide) ?_
      exact zX.sub [1, 2, 0] rfl H
    · have H := H.2 c
      obtain ⟨g8, H⟩ := H
      refine x_iinc (zdm d_Md_wrongMany_0 19 rfl) (n := 1) rfl g8 (zlt rfl) rfl ?_
      obtain ⟨g9, H⟩ := H
      refine x_iinc (zdm d_Md_wrongMany_0 20 rfl) (n := 2) rfl g9 (zlt rfl) rfl ?_
      refine x_goto (tgt := 4) (zdm d_Md_wrongMany_0 21 rfl) (by decide) ?_
      exact zX.sub [2, 1, 0] rfl H
set_option maxRecDepth 20000 in
set_option maxHeartbeats 4000000 in
theorem E_Md_wrongMany {G : zG} {h sl : Nat} (hsl : 2 ≤ sl) {M : zM} {Q : Int → zM → Prop} (H : zX G (y_Md_wrongMany, h + 1, sl) (0, 0, 0, 0) 4 [(0, (2, 125)), (1, (0, 0)), (2, (0, 0))] [] M Q) : zCt G (h + 1) sl 0 0 y_Md_wrongMany [(2, 125)] M Q := by
  refine zCt.of (by decide +kernel) (Nat.le_of_ble_eq_true rfl) ?_
  refine x_iconst (zdm d_Md_wrongMany_0 0 rfl) (zIl rfl) ?_
  refine x_istore_n (zdm d_Md_wrongMany_0 1 rfl) rfl (zlt rfl) rfl ?_
  refine x_iconst (zdm d_Md_wrongMany_0 2 rfl) (zIl rfl) ?_
  refine x_istore_n (zdm d_Md_wrongMany_0 3 rfl) rfl (zlt rfl) rfl ?_
  exact zX.sub [2, 1, 0] rfl H
set_option maxRecDepth 20000 in
set_option maxHeartbeats 4000000 in
theorem B_Md_isKept_55 {G : zG} {h sl : Nat} (hsl : 2 ≤ sl) {u : Nat × Nat × Nat × Nat} {M : zM} {Q : Int → zM → Prop} (H : (zI (2 * (M 164 17))) ∧ ((zI (18 + (2 * (M 164 17)))) ∧ ((zI ((18 + (2 * (M 164 17))) - 2)) ∧ ((0 ≤ ((18 + (2 * (M 164 17))) - 2) ∧ ((18 + (2 * (M 164 17))) - 2) < 98) ∧ ((zI (((18 + (2 * (M 164 17))) - 2) + 1)) ∧ (zCt G h sl 0 0 y_Md_wrongMany [(2, 125)] (zwr M 164 ((18 + (2 * (M 164 17))) - 2) (M 164 0)) (fun r6 M7 => (0 ≤ (((18 + (2 * (M 164 17))) - 2) + 1) ∧ (((18 + (2 * (M 164 17))) - 2) + 1) < 98) ∧ (Q 0 (zwr M7 164 (((18 + (2 * (M 164 17))) - 2) + 1) r6))))))))) : zX G (y_Md_isKept, h + 1, sl) u 55 [(0, (2, 125))] [] M Q := by
  refine x_bipush (zdm d_Md_isKept_0 32 rfl) (by decide) ?_
  refine x_iconst (zdm d_Md_isKept_0 33 rfl) (zIl rfl) ?_
  refine x_aload_n (zdm d_Md_isKept_0 34 rfl) rfl (n := 0) rfl ?_
  refine x_getG (zdm d_Md_isKept_0 35 rfl) f_Md_130 rfl rfl (by decide) hsl rfl ?_
  refine x_bipush (zdm d_Md_isKept_0 36 rfl) (by decide) ?_
  refine x_iald (zdm d_Md_isKept_0 37 rfl) rfl ⟨by decide, by decide⟩ ?_
  obtain ⟨g1, H⟩ := H
  refine x_imul (zdm d_Md_isKept_0 38 rfl) g1 ?_
  obtain ⟨g2, H⟩ := H
  refine x_iadd (zdm d_Md_isKept_0 39 rfl) g2 ?_
  refine x_iconst (zdm d_Md_isKept_0 40 rfl) (zIl rfl) ?_
  obtain ⟨g3, H⟩ := H
  refine x_isub (zdm d_Md_isKept_0 41 rfl) g3 ?_
  refine x_istore_n (zdm d_Md_isKept_0 42 rfl) rfl (zlt rfl) rfl ?_
  refine x_aload_n (zdm d_Md_isKept_0 43 rfl) rfl (n := 1) rfl ?_
  refine x_getG (zdm d_Md_isKept_0 44 rfl) f_Md_130 rfl rfl (by decide) hsl rfl ?_
  refine x_iload_n (zdm d_Md_isKept_0 45 rfl) rfl (n := 0) rfl ?_
  refine x_aload_n (zdm d_Md_isKept_0 46 rfl) rfl (n := 1) rfl ?_
  refine x_getG (zdm d_Md_isKept_0 47 rfl) f_Md_130 rfl rfl (by decide) hsl rfl ?_
  refine x_iconst (zdm d_Md_isKept_0 48 rfl) (zIl rfl) ?_
  refine x_iald (zdm d_Md_isKept_0 49 rfl) rfl ⟨by decide, by decide⟩ ?_
  obtain ⟨g4, H⟩ := H
  refine x_iast (zdm d_Md_isKept_0 50 rfl) rfl g4 ?_
  refine x_aload_n (zdm d_Md_isKept_0 51 rfl) rfl (n := 1) rfl ?_
  refine x_getG (zdm d_Md_isKept_0 52 rfl) f_Md_130 rfl rfl (by decide) hsl rfl ?_
  refine x_iload_n (zdm d_Md_isKept_0 53 rfl) rfl (n := 0) rfl ?_
  refine x_iconst (zdm d_Md_isKept_0 54 rfl) (zIl rfl) ?_
  obtain ⟨g5, H⟩ := H
  refine x_iadd (zdm d_Md_isKept_0 55 rfl) g5 ?_
  refine x_aload_n (zdm d_Md_isKept_0 56 rfl) rfl (n := 1) rfl ?_
  refine x_callVi (n := 0) (ci := 11) (zdm d_Md_isKept_0 57 rfl) k_Md_452 (As := []) rfl rfl rfl ⟨_, _, rfl⟩ (Nat.le_of_ble_eq_true rfl) trivial H (fun r6 M7 hr H => ?_)
  obtain ⟨g8, H⟩ := H
  refine x_iast (zdm d_Md_isKept_0 58 rfl) rfl g8 ?_
  exact x_return (zdm d_Md_isKept_0 59 rfl) rfl H
set_option maxRecDepth 20000 in
set_option maxHeartbeats 4000000 in
theorem B_Md_isKept_15 {G : zG} {h sl : Nat} (hsl : 2 ≤ sl) {u : Nat × Nat × Nat × Nat} {l1 : Int} {M : zM} {Q : Int → zM → Prop} (H : (96 ≤ l1 → zX G (y_Md_isKept, h + 1, sl) u 55 [(0, (2, 125))] [] M Q) ∧ (¬ 96 ≤ l1 → (zI (l1 + 2)) ∧ ((0 ≤ (l1 + 2) ∧ (l1 + 2) < 98) ∧ ((0 ≤ l1 ∧ l1 < 98) ∧ ((zI (l1 + 1)) ∧ (zX G (y_Md_isKept, h + 1, sl) u 15 [(0, (2, 125)), (1, (0, (l1 + 1)))] [] (zwr M 164 l1 (M 164 (l1 + 2))) Q)))))) : zX G (y_Md_isKept, h + 1, sl) u 15 [(0, (2, 125)), (1, (0, l1))] [] M Q := by
  refine x_iload_n (zdm d_Md_isKept_0 8 rfl) rfl (n := 1) rfl ?_
  refine x_bipush (zdm d_Md_isKept_0 9 rfl) (by decide) ?_
  refine x_icmpge (tgt := 41) (zdm d_Md_isKept_0 10 rfl) (by decide) (fun c => ?_) (fun c => ?_)
  · have H := H.1 c
    refine x_goto (tgt := 55) (zdm d_Md_isKept_0 23 rfl) (by decide) ?_
    exact zX.sub [0] rfl H
  · have H := H.2 c
    refine x_aload_n (zdm d_Md_isKept_0 11 rfl) rfl (n := 0) rfl ?_
    refine x_getG (zdm d_Md_isKept_0 12 rfl) f_Md_130 rfl rfl (by decide) hsl rfl ?_
    refine x_iload_n (zdm d_Md_isKept_0 13 rfl) rfl (n := 1) rfl ?_
    refine x_aload_n (zdm d_Md_isKept_0 14 rfl) rfl (n := 0) rfl ?_
    refine x_getG (zdm d_Md_isKept_0 15 rfl) f_Md_130 rfl rfl (by decide) hsl rfl ?_
    refine x_iload_n (zdm d_Md_isKept_0 16 rfl) rfl (n := 1) rfl ?_
    refine x_iconst (zdm d_Md_isKept_0 17 rfl) (zIl rfl) ?_
    obtain ⟨g1, H⟩ := H
    refine x_iadd (zdm d_Md_isKept_0 18 rfl) g1 ?_
    obtain ⟨g2, H⟩ := H
    refine x_iald (zdm d_Md_isKept_0 19 rfl) rfl g2 ?_
    obtain ⟨g3, H⟩ := H
    refine x_iast (zdm d_Md_isKept_0 20 rfl) rfl g3 ?_
    obtain ⟨g4, H⟩ := H
    refine x_iinc (zdm d_Md_isKept_0 21 rfl) (n := 1) rfl g4 (zlt rfl) rfl ?_
    refine x_goto (tgt := 15) (zdm d_Md_isKept_0 22 rfl) (by decide) ?_
    exact zX.sub [1, 0] rfl H
set_option maxRecDepth 20000 in
set_option maxHeartbeats 4000000 in
theorem E_Md_isKept {G : zG} {h sl : Nat} (hsl : 2 ≤ sl) {M : zM} {Q : Int → zM → Prop} (H : (¬ (M 164 17) = 40 → (zI ((M 164 17) + 1)) ∧ (zX G (y_Md_isKept, h + 1, sl) (0, 0, 0, 0) 55 [(0, (2, 125))] [] (zwr M 164 17 ((M 164 17) + 1)) Q)) ∧ (¬ (¬ (M 164 17) = 40) → zX G (y_Md_isKept, h + 1, sl) (0, 0, 0, 0) 15 [(0, (2, 125)), (1, (0, 18))] [] M Q)) : zCt G (h + 1) sl 0 0 y_Md_isKept [(2, 125)] M Q := by
  refine zCt.of (by decide +kernel) (Nat.le_of_ble_eq_true rfl) ?_
  refine x_aload_n (zdm d_Md_isKept_0 0 rfl) rfl (n := 0) rfl ?_
  refine x_getG (zdm d_Md_isKept_0 1 rfl) f_Md_130 rfl rfl (by decide) hsl rfl ?_
  refine x_bipush (zdm d_Md_isKept_0 2 rfl) (by decide) ?_
  refine x_iald (zdm d_Md_isKept_0 3 rfl) rfl ⟨by decide, by decide⟩ ?_
  refine x_bipush (zdm d_Md_isKept_0 4 rfl) (by decide) ?_
  refine x_icmpne (tgt := 44) (zdm d_Md_isKept_0 5 rfl) (by decide) (fun c => ?_) (fun c => ?_)
  · have H := H.1 c
    refine x_aload_n (zdm d_Md_isKept_0 24 rfl) rfl (n := 0) rfl ?_
    refine x_getG (zdm d_Md_isKept_0 25 rfl) f_Md_130 rfl rfl (by decide) hsl rfl ?_
    refine x_bipush (zdm d_Md_isKept_0 26 rfl) (by decide) ?_
    refine x_dup2 (zdm d_Md_isKept_0 27 rfl) z0n1 z2n1 ?_
    refine x_iald (zdm d_Md_isKept_0 28 rfl) rfl ⟨by decide, by decide⟩ ?_
    refine x_iconst (zdm d_Md_isKept_0 29 rfl) (zIl rfl) ?_
    obtain ⟨g1, H⟩ := H
    refine x_iadd (zdm d_Md_isKept_0 30 rfl) g1 ?_
    refine x_iast (zdm d_Md_isKept_0 31 rfl) rfl ⟨by decide, by decide⟩ ?_
    exact H
  · have H := H.2 c
    refine x_bipush (zdm d_Md_isKept_0 6 rfl) (by decide) ?_
    refine x_istore_n (zdm d_Md_isKept_0 7 rfl) rfl (zlt rfl) rfl ?_
    exact zX.sub [1, 0] rfl H
set_option maxRecDepth 20000 in
set_option maxHeartbeats 4000000 in
theorem B_Md_putsAside_7 {G : zG} {h sl : Nat} (hsl : 2 ≤ sl) {u : Nat × Nat × Nat × Nat} {l1 : Int} {M : zM} {Q : Int → zM → Prop} (H : (17 ≤ l1 → Q 0 M) ∧ (¬ 17 ≤ l1 → (0 ≤ l1 ∧ l1 < 98) ∧ ((0 ≤ l1 ∧ l1 < 17) ∧ ((zI (l1 + 1)) ∧ (zX G (y_Md_putsAside, h, sl) u 7 [(0, (2, 125)), (1, (0, (l1 + 1)))] [] (zwr M 167 l1 (M 164 l1)) Q))))) : zX G (y_Md_putsAside, h, sl) u 7 [(0, (2, 125)), (1, (0, l1))] [] M Q := by
  refine x_iload_n (zdm d_Md_putsAside_0 5 rfl) rfl (n := 1) rfl ?_
  refine x_bipush (zdm d_Md_putsAside_0 6 rfl) (by decide) ?_
  refine x_icmpge (tgt := 31) (zdm d_Md_putsAside_0 7 rfl) (by decide) (fun c => ?_) (fun c => ?_)
  · have H := H.1 c
    exact x_return (zdm d_Md_putsAside_0 18 rfl) rfl H
  · have H := H.2 c
    refine x_aload_n (zdm d_Md_putsAside_0 8 rfl) rfl (n := 0) rfl ?_
    refine x_getG (zdm d_Md_putsAside_0 9 rfl) f_Md_139 rfl rfl (by decide) hsl rfl ?_
    refine x_iload_n (zdm d_Md_putsAside_0 10 rfl) rfl (n := 1) rfl ?_
    refine x_aload_n (zdm d_Md_putsAside_0 11 rfl) rfl (n := 0) rfl ?_
    refine x_getG (zdm d_Md_putsAside_0 12 rfl) f_Md_130 rfl rfl (by decide) hsl rfl ?_
    refine x_iload_n (zdm d_Md_putsAside_0 13 rfl) rfl (n := 1) rfl ?_
    obtain ⟨g1, H⟩ := H
    refine x_iald (zdm d_Md_putsAside_0 14 rfl) rfl g1 ?_
    obtain ⟨g2, H⟩ := H
    refine x_iast (zdm d_Md_putsAside_0 15 rfl) rfl g2 ?_
    obtain ⟨g3, H⟩ := H
    refine x_iinc (zdm d_Md_putsAside_0 16 rfl) (n := 1) rfl g3 (zlt rfl) rfl ?_
    refine x_goto (tgt := 7) (zdm d_Md_putsAside_0 17 rfl) (by decide) ?_
    exact zX.sub [1, 0] rfl H
set_option maxRecDepth 20000 in
set_option maxHeartbeats 4000000 in
theorem E_Md_putsAside {G : zG} {h sl : Nat} (hsl : 2 ≤ sl) {M : zM} {Q : Int → zM → Prop} (H : zX G (y_Md_putsAside, h, sl) (0, 0, 0, 0) 7 [(0, (2, 125)), (1, (0, 0))] [] (zwr M 125 57 1) Q) : zCt G h sl 0 0 y_Md_putsAside [(2, 125)] M Q := by
  refine zCt.of (by decide +kernel) (Nat.le_of_ble_eq_true rfl) ?_
  refine x_aload_n (zdm d_Md_putsAside_0 0 rfl) rfl (n := 0) rfl ?_
  refine x_iconst (zdm d_Md_putsAside_0 1 rfl) (zIl rfl) ?_
  refine x_putf (zdm d_Md_putsAside_0 2 rfl) f_Md_455 rfl ⟨rfl, (Or.inr rfl)⟩ (Or.inl rfl) ?_
  refine x_iconst (zdm d_Md_putsAside_0 3 rfl) (zIl rfl) ?_
  refine x_istore_n (zdm d_Md_putsAside_0 4 rfl) rfl (zlt rfl) rfl ?_
  exact zX.sub [1, 0] rfl H
set_option maxRecDepth 20000 in
set_option maxHeartbeats 4000000 in
theorem B_Md_triesAnew_2 {G : zG} {h sl : Nat} (hsl : 2 ≤ sl) {u : Nat × Nat × Nat × Nat} {l1 : Int} {M : zM} {Q : Int → zM → Prop} (H : (17 ≤ l1 → Q 0 M) ∧ (¬ 17 ≤ l1 → (0 ≤ l1 ∧ l1 < 17) ∧ ((0 ≤ l1 ∧ l1 < 98) ∧ ((zI (l1 + 1)) ∧ (zX G (y_Md_triesAnew, h, sl) u 2 [(0, (2, 125)), (1, (0, (l1 + 1)))] [] (zwr M 164 l1 (M 167 l1)) Q))))) : zX G (y_Md_triesAnew, h, sl) u 2 [(0, (2, 125)), (1, (0, l1))] [] M Q := by
  refine x_iload_n (zdm d_Md_triesAnew_0 2 rfl) rfl (n := 1) rfl ?_
  refine x_bipush (zdm d_Md_triesAnew_0 3 rfl) (by decide) ?_
  refine x_icmpge (tgt := 26) (zdm d_Md_triesAnew_0 4 rfl) (by decide) (fun c => ?_) (fun c => ?_)
  · have H := H.1 c
    exact x_return (zdm d_Md_triesAnew_0 15 rfl) rfl H
  · have H := H.2 c
    refine x_aload_n (zdm d_Md_triesAnew_0 5 rfl) rfl (n := 0) rfl ?_
    refine x_getG (zdm d_Md_triesAnew_0 6 rfl) f_Md_130 rfl rfl (by decide) hsl rfl ?_
    refine x_iload_n (zdm d_Md_triesAnew_0 7 rfl) rfl (n := 1) rfl ?_
    refine x_aload_n (zdm d_Md_triesAnew_0 8 rfl) rfl (n := 0) rfl ?_
    refine x_getG (zdm d_Md_triesAnew_0 9 rfl) f_Md_139 rfl rfl (by decide) hsl rfl ?_
    refine x_iload_n (zdm d_Md_triesAnew_0 10 rfl) rfl (n := 1) rfl ?_
    obtain ⟨g1, H⟩ := H
    refine x_iald (zdm d_Md_triesAnew_0 11 rfl) rfl g1 ?_
    obtain ⟨g2, H⟩ := H
    refine x_iast (zdm d_Md_triesAnew_0 12 rfl) rfl g2 ?_
    obtain ⟨g3, H⟩ := H
    refine x_iinc (zdm d_Md_triesAnew_0 13 rfl) (n := 1) rfl g3 (zlt rfl) rfl ?_
    refine x_goto (tgt := 2) (zdm d_Md_triesAnew_0 14 rfl) (by decide) ?_
    exact zX.sub [1, 0] rfl H
set_option maxRecDepth 20000 in
set_option maxHeartbeats 4000000 in
theorem E_Md_triesAnew {G : zG} {h sl : Nat} (hsl : 2 ≤ sl) {M : zM} {Q : Int → zM → Prop} (H : zX G (y_Md_triesAnew, h, sl) (0, 0, 0, 0) 2 [(0, (2, 125)), (1, (0, 0))] [] M Q) : zCt G h sl 0 0 y_Md_triesAnew [(2, 125)] M Q := by
  refine zCt.of (by decide +kernel) (Nat.le_of_ble_eq_true rfl) ?_
  refine x_iconst (zdm d_Md_triesAnew_0 0 rfl) (zIl rfl) ?_
  refine x_istore_n (zdm d_Md_triesAnew_0 1 rfl) rfl (zlt rfl) rfl ?_
  exact zX.sub [1, 0] rfl H
set_option maxRecDepth 20000 in
set_option maxHeartbeats 4000000 in
theorem E_Md_takesBack {G : zG} {h sl : Nat} (hsl : 2 ≤ sl) {M : zM} {Q : Int → zM → Prop} (H : zCt G h sl 0 0 y_Md_triesAnew [(2, 125)] M (fun r1 M2 => Q 0 (zwr M2 125 57 0))) : zCt G (h + 1) sl 0 0 y_Md_takesBack [(2, 125)] M Q := by
  refine zCt.of (by decide +kernel) (Nat.le_of_ble_eq_true rfl) ?_
  refine x_aload_n (zdm d_Md_takesBack_0 0 rfl) rfl (n := 0) rfl ?_
  refine x_callVv (n := 0) (ci := 11) (zdm d_Md_takesBack_0 1 rfl) k_Md_458 (As := []) rfl rfl rfl ⟨_, _, rfl⟩ (Nat.le_of_ble_eq_true rfl) rfl H (fun r1 M2 hr H => ?_)
  refine x_aload_n (zdm d_Md_takesBack_0 2 rfl) rfl (n := 0) rfl ?_
  refine x_iconst (zdm d_Md_takesBack_0 3 rfl) (zIl rfl) ?_
  refine x_putf (zdm d_Md_takesBack_0 4 rfl) f_Md_455 rfl ⟨rfl, (Or.inl rfl)⟩ (Or.inl rfl) ?_
  exact x_return (zdm d_Md_takesBack_0 5 rfl) rfl H
set_option maxRecDepth 20000 in
set_option maxHeartbeats 4000000 in
theorem E_Md_isAhead {G : zG} {h sl : Nat} (hsl : 2 ≤ sl) {l1 l3 l4 : Int} {M : zM} {Q : Int → zM → Prop} (H : zCt G h sl 0 0 y_Md_isIn [(1, l1), (1, l3), (1, l4)] M (fun r1 M2 => (r1 = 0 → Q 0 M2) ∧ (¬ r1 = 0 → (zL ((M2 164 0) + l1)) ∧ ((999 < ((M2 164 0) + l1) → Q 0 M2) ∧ (¬ 999 < ((M2 164 0) + l1) → Q 1 M2))))) : zCt G (h + 1) sl 0 0 y_Md_isAhead [(2, 125), (1, l1), (0, l3), (0, l4)] M Q := by
  refine zCt.of (by decide +kernel) (Nat.le_of_ble_eq_true rfl) ?_
  refine x_lload_n (zdm d_Md_isAhead_0 0 rfl) rfl (n := 1) rfl ?_
  refine x_iload_n (zdm d_Md_isAhead_0 1 rfl) rfl (n := 2) rfl ?_
  refine x_i2l (zdm d_Md_isAhead_0 2 rfl) ?_
  refine x_iload (zdm d_Md_isAhead_0 3 rfl) (n := 3) rfl ?_
  refine x_i2l (zdm d_Md_isAhead_0 4 rfl) ?_
  refine x_callSi (n := 3) (zdm d_Md_isAhead_0 5 rfl) k_Md_280 (As := [(1, l1), (1, l3), (1, l4)]) rfl rfl (Nat.le_of_ble_eq_true rfl) trivial H (fun r1 M2 hr H => ?_)
  have b3 : r1 = 0 ∨ r1 = 1 := hr
  refine x_ifeq (tgt := 32) (zdm d_Md_isAhead_0 6 rfl) (by decide) (fun c => ?_) (fun c => ?_)
  · have H := H.1 c
    refine x_iconst (zdm d_Md_isAhead_0 19 rfl) (zIl rfl) ?_
    exact x_ireturn (zdm d_Md_isAhead_0 20 rfl) (ty := .boolean) rfl (by decide) (Or.inl rfl) H
  · have H := H.2 c
    refine x_aload_n (zdm d_Md_isAhead_0 7 rfl) rfl (n := 0) rfl ?_
    refine x_getG (zdm d_Md_isAhead_0 8 rfl) f_Md_130 rfl rfl (by decide) hsl rfl ?_
    refine x_iconst (zdm d_Md_isAhead_0 9 rfl) (zIl rfl) ?_
    refine x_iald (zdm d_Md_isAhead_0 10 rfl) rfl ⟨by decide, by decide⟩ ?_
    refine x_i2l (zdm d_Md_isAhead_0 11 rfl) ?_
    refine x_lload_n (zdm d_Md_isAhead_0 12 rfl) rfl (n := 1) rfl ?_
    obtain ⟨g4, H⟩ := H
    refine x_ladd (zdm d_Md_isAhead_0 13 rfl) g4 ?_
    refine x_ldc2 (zdm d_Md_isAhead_0 14 rfl) (n := 999) (zLl rfl) w_Md_461 ?_
    refine x_lcmp_gt (tgt := 32) (zdm d_Md_isAhead_0 15 rfl) (zdm d_Md_isAhead_0 16 rfl) (by decide) (fun c => ?_) (fun c => ?_)
    · have H := H.1 c
      refine x_iconst (zdm d_Md_isAhead_0 19 rfl) (zIl rfl) ?_
      exact x_ireturn (zdm d_Md_isAhead_0 20 rfl) (ty := .boolean) rfl (by decide) (Or.inl rfl) H
    · have H := H.2 c
      refine x_iconst (zdm d_Md_isAhead_0 17 rfl) (zIl rfl) ?_
      refine x_goto (tgt := 33) (zdm d_Md_isAhead_0 18 rfl) (by decide) ?_
      exact x_ireturn (zdm d_Md_isAhead_0 20 rfl) (ty := .boolean) rfl (by decide) (Or.inr rfl) H
set_option maxRecDepth 20000 in
set_option maxHeartbeats 4000000 in
theorem B_Md_bits_4 {G : zG} {h sl : Nat} (hsl : 2 ≤ sl) {u : Nat × Nat × Nat × Nat} {l1 l2 : Int} {M : zM} {Q : Int → zM → Prop} (H : (l2 = 0 → Q l1 M) ∧ (¬ l2 = 0 → (zI (l1 + 1)) ∧ ((zI (l2 - 1)) ∧ (zX G (y_Md_bits, h, sl) u 4 [(1, (0, (l1 + 1))), (2, (0, (zand l2 (l2 - 1))))] [] M Q)))) : zX G (y_Md_bits, h, sl) u 4 [(1, (0, l1)), (2, (0, l2))] [] M Q := by
  refine x_iload_n (zdm d_Md_bits_0 4 rfl) rfl (n := 1) rfl ?_
  refine x_ifeq (tgt := 20) (zdm d_Md_bits_0 5 rfl) (by decide) (fun c => ?_) (fun c => ?_)
  · have H := H.1 c
    refine x_iload_n (zdm d_Md_bits_0 14 rfl) rfl (n := 0) rfl ?_
    exact x_iret (zdm d_Md_bits_0 15 rfl) rfl H
  · have H := H.2 c
    obtain ⟨g1, H⟩ := H
    refine x_iinc (zdm d_Md_bits_0 6 rfl) (n := 0) rfl g1 (zlt rfl) rfl ?_
    refine x_iload_n (zdm d_Md_bits_0 7 rfl) rfl (n := 1) rfl ?_
    refine x_iload_n (zdm d_Md_bits_0 8 rfl) rfl (n := 1) rfl ?_
    refine x_iconst (zdm d_Md_bits_0 9 rfl) (zIl rfl) ?_
    obtain ⟨g2, H⟩ := H
    refine x_isub (zdm d_Md_bits_0 10 rfl) g2 ?_
    refine x_iand (zdm d_Md_bits_0 11 rfl) ?_
    refine x_istore_n (zdm d_Md_bits_0 12 rfl) rfl (zlt rfl) rfl ?_
    refine x_goto (tgt := 4) (zdm d_Md_bits_0 13 rfl) (by decide) ?_
    exact zX.sub [1, 0] rfl H
set_option maxRecDepth 20000 in
set_option maxHeartbeats 4000000 in
theorem E_Md_bits {G : zG} {h sl : Nat} (hsl : 2 ≤ sl) {l0 : Int} {M : zM} {Q : Int → zM → Prop} (H : zX G (y_Md_bits, h, sl) (0, 0, 0, 0) 4 [(1, (0, 0)), (2, (0, l0))] [] M Q) : zCt G h sl 0 0 y_Md_bits [(0, l0)] M Q := by
  refine zCt.of (by decide +kernel) (Nat.le_of_ble_eq_true rfl) ?_
  refine x_iconst (zdm d_Md_bits_0 0 rfl) (zIl rfl) ?_
  refine x_istore_n (zdm d_Md_bits_0 1 rfl) rfl (zlt rfl) rfl ?_
  refine x_iload_n (zdm d_Md_bits_0 2 rfl) rfl (n := 1) rfl ?_
  refine x_istore_n (zdm d_Md_bits_0 3 rfl) rfl (zlt rfl) rfl ?_
  exact zX.sub [1, 0] rfl H
set_option maxRecDepth 20000 in
set_option maxHeartbeats 4000000 in
theorem E_Md_has {G : zG} {h sl : Nat} (hsl : 2 ≤ sl) {l1 : Int} {M : zM} {Q : Int → zM → Prop} (H : (l1 = 0 → zCt G h sl 0 0 y_Md_columnMany [(2, 125)] M (fun r1 M2 => Q r1 M2)) ∧ (l1 = 1 → Q (M 164 0) M) ∧ (l1 = 2 → zCt G h sl 0 0 y_Md_isMarked [(2, 125)] M (fun r3 M4 => (r3 = 0 → Q 0 M4) ∧ (¬ r3 = 0 → Q 1 M4))) ∧ (l1 = 3 → zCt G h sl 0 0 y_Md_wrongMany [(2, 125)] M (fun r6 M7 => Q r6 M7)) ∧ (l1 = 4 → Q (M 164 17) M) ∧ (l1 = 5 → Q (M 125 62) M) ∧ (l1 = 6 → Q (M 125 66) M) ∧ ((l1 < 0 ∨ 6 < l1) → Q (-1) M)) : zCt G (h + 1) sl 0 0 y_Md_has [(2, 125), (0, l1)] M Q := by
  refine zCt.of (by decide +kernel) (Nat.le_of_ble_eq_true rfl) ?_
  refine x_iload_n (zdm d_Md_has_0 0 rfl) rfl (n := 1) rfl ?_
  by_cases c0 : l1 = 0
  · refine x_tsw (tgt := 44) (zdm d_Md_has_0 1 rfl) c0 (by decide) rfl (by decide) ?_
    have H := H.1 c0
    refine x_aload_n (zdm d_Md_has_0 2 rfl) rfl (n := 0) rfl ?_
    refine x_callVi (n := 0) (ci := 11) (zdm d_Md_has_0 3 rfl) k_Md_391 (As := []) rfl rfl rfl ⟨_, _, rfl⟩ (Nat.le_of_ble_eq_true rfl) trivial H (fun r1 M2 hr H => ?_)
    exact x_iret (zdm d_Md_has_0 4 rfl) rfl H
  · skip
    by_cases c1 : l1 = 1
    · refine x_tsw (tgt := 49) (zdm d_Md_has_0 1 rfl) c1 (by decide) rfl (by decide) ?_
      have H := H.2.1 c1
      refine x_aload_n (zdm d_Md_has_0 5 rfl) rfl (n := 0) rfl ?_
      refine x_getG (zdm d_Md_has_0 6 rfl) f_Md_130 rfl rfl (by decide) hsl rfl ?_
      refine x_iconst (zdm d_Md_has_0 7 rfl) (zIl rfl) ?_
      refine x_iald (zdm d_Md_has_0 8 rfl) rfl ⟨by decide, by decide⟩ ?_
      exact x_iret (zdm d_Md_has_0 9 rfl) rfl H
    · skip
      by_cases c2 : l1 = 2
      · refine x_tsw (tgt := 56) (zdm d_Md_has_0 1 rfl) c2 (by decide) rfl (by decide) ?_
        have H := H.2.2.1 c2
        refine x_aload_n (zdm d_Md_has_0 10 rfl) rfl (n := 0) rfl ?_
        refine x_callVi (n := 0) (ci := 11) (zdm d_Md_has_0 11 rfl) k_Md_463 (As := []) rfl rfl rfl ⟨_, _, rfl⟩ (Nat.le_of_ble_eq_true rfl) trivial H (fun r3 M4 hr H => ?_)
        have b5 : r3 = 0 ∨ r3 = 1 := hr
        refine x_ifeq (tgt := 67) (zdm d_Md_has_0 12 rfl) (by decide) (fun c => ?_) (fun c => ?_)
        · have H := H.1 c
          refine x_iconst (zdm d_Md_has_0 15 rfl) (zIl rfl) ?_
          exact x_iret (zdm d_Md_has_0 16 rfl) rfl H
        · have H := H.2 c
          refine x_iconst (zdm d_Md_has_0 13 rfl) (zIl rfl) ?_
          refine x_goto (tgt := 68) (zdm d_Md_has_0 14 rfl) (by decide) ?_
          exact x_iret (zdm d_Md_has_0 16 rfl) rfl H
      · skip
        by_cases c3 : l1 = 3
        · refine x_tsw (tgt := 69) (zdm d_Md_has_0 1 rfl) c3 (by decide) rfl (by decide) ?_
          have H := H.2.2.2.1 c3
          refine x_aload_n (zdm d_Md_has_0 17 rfl) rfl (n := 0) rfl ?_
          refine x_callVi (n := 0) (ci := 11) (zdm d_Md_has_0 18 rfl) k_Md_452 (As := []) rfl rfl rfl ⟨_, _, rfl⟩ (Nat.le_of_ble_eq_true rfl) trivial H (fun r6 M7 hr H => ?_)
          exact x_iret (zdm d_Md_has_0 19 rfl) rfl H
        · skip
          by_cases c4 : l1 = 4
          · refine x_tsw (tgt := 74) (zdm d_Md_has_0 1 rfl) c4 (by decide) rfl (by decide) ?_
            have H := H.2.2.2.2.1 c4
            refine x_aload_n (zdm d_Md_has_0 20 rfl) rfl (n := 0) rfl ?_
            refine x_getG (zdm d_Md_has_0 21 rfl) f_Md_130 rfl rfl (by decide) hsl rfl ?_
            refine x_bipush (zdm d_Md_has_0 22 rfl) (by decide) ?_
            refine x_iald (zdm d_Md_has_0 23 rfl) rfl ⟨by decide, by decide⟩ ?_
            exact x_iret (zdm d_Md_has_0 24 rfl) rfl H
          · skip
            by_cases c5 : l1 = 5
            · refine x_tsw (tgt := 82) (zdm d_Md_has_0 1 rfl) c5 (by decide) rfl (by decide) ?_
              have H := H.2.2.2.2.2.1 c5
              refine x_aload_n (zdm d_Md_has_0 25 rfl) rfl (n := 0) rfl ?_
              refine x_getf (zdm d_Md_has_0 26 rfl) f_Md_388 rfl rfl ?_
              exact x_iret (zdm d_Md_has_0 27 rfl) rfl H
            · skip
              by_cases c6 : l1 = 6
              · refine x_tsw (tgt := 87) (zdm d_Md_has_0 1 rfl) c6 (by decide) rfl (by decide) ?_
                have H := H.2.2.2.2.2.2.1 c6
                refine x_aload_n (zdm d_Md_has_0 28 rfl) rfl (n := 0) rfl ?_
                refine x_getf (zdm d_Md_has_0 29 rfl) f_Md_385 rfl rfl ?_
                exact x_iret (zdm d_Md_has_0 30 rfl) rfl H
              · skip
                have cd : (l1 < 0 ∨ 6 < l1) := by omega
                refine x_tswd (tgt := 92) (zdm d_Md_has_0 1 rfl) cd (by decide) ?_
                have H := H.2.2.2.2.2.2.2 cd
                refine x_iconst (zdm d_Md_has_0 31 rfl) (zIl rfl) ?_
                exact x_iret (zdm d_Md_has_0 32 rfl) rfl H
set_option maxRecDepth 20000 in
set_option maxHeartbeats 4000000 in
theorem B_Md_letter_74 {G : zG} {h sl : Nat} (hsl : 2 ≤ sl) {u : Nat × Nat × Nat × Nat} {l2 l3 l6 : Int} {M : zM} {Q : Int → zM → Prop} (H : (l6 ≤ l2 → Q (zl2i (Int.tmod l3 27)) M) ∧ (¬ l6 ≤ l2 → (zL (Int.tdiv l3 27)) ∧ ((zI (l6 + (-1))) ∧ (zX G (y_Md_letter, h + 1, sl) u 74 [(2, (0, l2)), (3, (1, (Int.tdiv l3 27))), (6, (0, (l6 + (-1))))] [] M Q)))) : zX G (y_Md_letter, h + 1, sl) u 74 [(2, (0, l2)), (3, (1, l3)), (6, (0, l6))] [] M Q := by
  refine x_iload (zdm d_Md_letter_0 43 rfl) (n := 2) rfl ?_
  refine x_iload_n (zdm d_Md_letter_0 44 rfl) rfl (n := 0) rfl ?_
  refine x_icmple (tgt := 92) (zdm d_Md_letter_0 45 rfl) (by decide) (fun c => ?_) (fun c => ?_)
  · have H := H.1 c
    refine x_lload_n (zdm d_Md_letter_0 52 rfl) rfl (n := 1) rfl ?_
    refine x_ldc2 (zdm d_Md_letter_0 53 rfl) (n := 27) (zLl rfl) w_Md_291 ?_
    refine x_lrem (zdm d_Md_letter_0 54 rfl) (by decide) ?_
    refine x_l2i (zdm d_Md_letter_0 55 rfl) ?_
    exact x_iret (zdm d_Md_letter_0 56 rfl) rfl H
  · have H := H.2 c
    refine x_lload_n (zdm d_Md_letter_0 46 rfl) rfl (n := 1) rfl ?_
    refine x_ldc2 (zdm d_Md_letter_0 47 rfl) (n := 27) (zLl rfl) w_Md_291 ?_
    obtain ⟨g1, H⟩ := H
    refine x_ldiv (zdm d_Md_letter_0 48 rfl) (by decide) g1 ?_
    refine x_lstore_n (zdm d_Md_letter_0 49 rfl) rfl (zlt rfl) rfl ?_
    obtain ⟨g2, H⟩ := H
    refine x_iinc (zdm d_Md_letter_0 50 rfl) (n := 2) rfl g2 (zlt rfl) rfl ?_
    refine x_goto (tgt := 74) (zdm d_Md_letter_0 51 rfl) (by decide) ?_
    exact zX.sub [2, 1, 0] rfl H
set_option maxRecDepth 20000 in
set_option maxHeartbeats 4000000 in
theorem B_Md_letter_39 {G : zG} {h sl : Nat} (hsl : 2 ≤ sl) {u : Nat × Nat × Nat × Nat} {l2 l3 l5 l6 : Int} {M : zM} {Q : Int → zM → Prop} (H : (l6 ≤ 0 → (l2 < l5 → (zI (l5 - 1)) ∧ (zX G (y_Md_letter, h + 1, sl) u 74 [(2, (0, l2)), (3, (1, l3)), (6, (0, (l5 - 1)))] [] M Q)) ∧ (¬ l2 < l5 → Q 0 M)) ∧ (¬ l6 ≤ 0 → (zI (l5 + 1)) ∧ ((zL (Int.tdiv l6 27)) ∧ (zX G (y_Md_letter, h + 1, sl) u 39 [(2, (0, l2)), (3, (1, l3)), (5, (0, (l5 + 1))), (6, (1, (Int.tdiv l6 27)))] [] M Q)))) : zX G (y_Md_letter, h + 1, sl) u 39 [(2, (0, l2)), (3, (1, l3)), (5, (0, l5)), (6, (1, l6))] [] M Q := by
  refine x_lload (zdm d_Md_letter_0 24 rfl) (n := 3) rfl ?_
  refine x_lconst (zdm d_Md_letter_0 25 rfl) (x := 0) rfl ?_
  refine x_lcmp_le (tgt := 60) (zdm d_Md_letter_0 26 rfl) (zdm d_Md_letter_0 27 rfl) (by decide) (fun c => ?_) (fun c => ?_)
  · have H := H.1 c
    refine x_iload_n (zdm d_Md_letter_0 34 rfl) rfl (n := 0) rfl ?_
    refine x_iload (zdm d_Md_letter_0 35 rfl) (n := 2) rfl ?_
    refine x_icmplt (tgt := 68) (zdm d_Md_letter_0 36 rfl) (by decide) (fun c => ?_) (fun c => ?_)
    · have H := H.1 c
      refine x_iload (zdm d_Md_letter_0 39 rfl) (n := 2) rfl ?_
      refine x_iconst (zdm d_Md_letter_0 40 rfl) (zIl rfl) ?_
      obtain ⟨g1, H⟩ := H
      refine x_isub (zdm d_Md_letter_0 41 rfl) g1 ?_
      refine x_istore (zdm d_Md_letter_0 42 rfl) (zlt rfl) rfl ?_
      exact zX.sub [1, 2, 0] rfl H
    · have H := H.2 c
      refine x_iconst (zdm d_Md_letter_0 37 rfl) (zIl rfl) ?_
      exact x_iret (zdm d_Md_letter_0 38 rfl) rfl H
  · have H := H.2 c
    obtain ⟨g2, H⟩ := H
    refine x_iinc (zdm d_Md_letter_0 28 rfl) (n := 2) rfl g2 (zlt rfl) rfl ?_
    refine x_lload (zdm d_Md_letter_0 29 rfl) (n := 3) rfl ?_
    refine x_ldc2 (zdm d_Md_letter_0 30 rfl) (n := 27) (zLl rfl) w_Md_291 ?_
    obtain ⟨g3, H⟩ := H
    refine x_ldiv (zdm d_Md_letter_0 31 rfl) (by decide) g3 ?_
    refine x_lstore (zdm d_Md_letter_0 32 rfl) (zlt rfl) rfl ?_
    refine x_goto (tgt := 39) (zdm d_Md_letter_0 33 rfl) (by decide) ?_
    exact zX.sub [2, 3, 1, 0] rfl H
set_option maxRecDepth 20000 in
set_option maxHeartbeats 4000000 in
theorem E_Md_letter {G : zG} {h sl : Nat} (hsl : 2 ≤ sl) {l1 l2 : Int} {M : zM} {Q : Int → zM → Prop} (H : zCt G h sl 0 0 y_Md_isColumn [(2, 125), (1, l1)] M (fun r1 M2 => (r1 = 0 → Q (-1) M2) ∧ (¬ r1 = 0 → zCt G h sl 0 0 y_Md_isIn [(1, l2), (1, 0), (1, 5)] M2 (fun r4 M5 => (¬ r4 = 0 → (zI (8 + l1)) ∧ ((0 ≤ (8 + l1) ∧ (8 + l1) < 16) ∧ (zX G (y_Md_letter, h + 1, sl) (0, 0, 0, 0) 39 [(2, (0, l2)), (3, (1, (M5 159 (8 + l1)))), (5, (0, 0)), (6, (1, (M5 159 (8 + l1))))] [] M5 Q))) ∧ (¬ (¬ r4 = 0) → Q (-1) M5))))) : zCt G (h + 1) sl 0 0 y_Md_letter [(2, 125), (0, l1), (0, l2)] M Q := by
  refine zCt.of (by decide +kernel) (Nat.le_of_ble_eq_true rfl) ?_
  refine x_aload_n (zdm d_Md_letter_0 0 rfl) rfl (n := 0) rfl ?_
  refine x_iload_n (zdm d_Md_letter_0 1 rfl) rfl (n := 1) rfl ?_
  refine x_i2l (zdm d_Md_letter_0 2 rfl) ?_
  refine x_callVi (n := 1) (ci := 11) (zdm d_Md_letter_0 3 rfl) k_Md_466 (As := [(1, l1)]) rfl rfl rfl ⟨_, _, rfl⟩ (Nat.le_of_ble_eq_true rfl) trivial H (fun r1 M2 hr H => ?_)
  have b3 : r1 = 0 ∨ r1 = 1 := hr
  refine x_ifeq (tgt := 21) (zdm d_Md_letter_0 4 rfl) (by decide) (fun c => ?_) (fun c => ?_)
  · have H := H.1 c
    refine x_iconst (zdm d_Md_letter_0 11 rfl) (zIl rfl) ?_
    exact x_iret (zdm d_Md_letter_0 12 rfl) rfl H
  · have H := H.2 c
    refine x_iload_n (zdm d_Md_letter_0 5 rfl) rfl (n := 2) rfl ?_
    refine x_i2l (zdm d_Md_letter_0 6 rfl) ?_
    refine x_lconst (zdm d_Md_letter_0 7 rfl) (x := 0) rfl ?_
    refine x_ldc2 (zdm d_Md_letter_0 8 rfl) (n := 5) (zLl rfl) w_Md_470 ?_
    refine x_callSi (n := 3) (zdm d_Md_letter_0 9 rfl) k_Md_280 (As := [(1, l2), (1, 0), (1, 5)]) rfl rfl (Nat.le_of_ble_eq_true rfl) trivial H (fun r4 M5 hr H => ?_)
    have b6 : r4 = 0 ∨ r4 = 1 := hr
    refine x_ifne (tgt := 23) (zdm d_Md_letter_0 10 rfl) (by decide) (fun c => ?_) (fun c => ?_)
    · have H := H.1 c
      refine x_aload_n (zdm d_Md_letter_0 13 rfl) rfl (n := 0) rfl ?_
      refine x_getG (zdm d_Md_letter_0 14 rfl) f_Md_114 rfl rfl (by decide) hsl rfl ?_
      refine x_bipush (zdm d_Md_letter_0 15 rfl) (by decide) ?_
      refine x_iload_n (zdm d_Md_letter_0 16 rfl) rfl (n := 1) rfl ?_
      obtain ⟨g7, H⟩ := H
      refine x_iadd (zdm d_Md_letter_0 17 rfl) g7 ?_
      obtain ⟨g8, H⟩ := H
      refine x_lald (zdm d_Md_letter_0 18 rfl) rfl g8 ?_
      refine x_lstore_n (zdm d_Md_letter_0 19 rfl) rfl (zlt rfl) rfl ?_
      refine x_iconst (zdm d_Md_letter_0 20 rfl) (zIl rfl) ?_
      refine x_istore (zdm d_Md_letter_0 21 rfl) (zlt rfl) rfl ?_
      refine x_lload_n (zdm d_Md_letter_0 22 rfl) rfl (n := 1) rfl ?_
      refine x_lstore (zdm d_Md_letter_0 23 rfl) (zlt rfl) rfl ?_
      exact zX.sub [5, 2, 1, 0] rfl H
    · have H := H.2 c
      refine x_iconst (zdm d_Md_letter_0 11 rfl) (zIl rfl) ?_
      exact x_iret (zdm d_Md_letter_0 12 rfl) rfl H
set_option maxRecDepth 20000 in
set_option maxHeartbeats 4000000 in
theorem E_Md_leastOf {G : zG} {h sl : Nat} (hsl : 2 ≤ sl) {l1 : Int} {M : zM} {Q : Int → zM → Prop} (H : zCt G h sl 0 0 y_Md_sortOf [(2, 125), (0, l1)] M (fun r1 M2 => (¬ r1 = 0 → Q 0 M2) ∧ (¬ (¬ r1 = 0) → zCt G h sl 0 0 y_Md_fieldOf [(2, 125), (0, l1), (0, 1)] M2 (fun r3 M4 => Q r3 M4)))) : zCt G (h + 1) sl 0 0 y_Md_leastOf [(2, 125), (0, l1)] M Q := by
  refine zCt.of (by decide +kernel) (Nat.le_of_ble_eq_true rfl) ?_
  refine x_aload_n (zdm d_Md_leastOf_0 0 rfl) rfl (n := 0) rfl ?_
  refine x_iload_n (zdm d_Md_leastOf_0 1 rfl) rfl (n := 1) rfl ?_
  refine x_callVi (n := 1) (ci := 11) (zdm d_Md_leastOf_0 2 rfl) k_Md_424 (As := [(0, l1)]) rfl rfl rfl ⟨_, _, rfl⟩ (Nat.le_of_ble_eq_true rfl) trivial H (fun r1 M2 hr H => ?_)
  refine x_ifne (tgt := 17) (zdm d_Md_leastOf_0 3 rfl) (by decide) (fun c => ?_) (fun c => ?_)
  · have H := H.1 c
    refine x_iconst (zdm d_Md_leastOf_0 9 rfl) (zIl rfl) ?_
    exact x_iret (zdm d_Md_leastOf_0 10 rfl) rfl H
  · have H := H.2 c
    refine x_aload_n (zdm d_Md_leastOf_0 4 rfl) rfl (n := 0) rfl ?_
    refine x_iload_n (zdm d_Md_leastOf_0 5 rfl) rfl (n := 1) rfl ?_
    refine x_iconst (zdm d_Md_leastOf_0 6 rfl) (zIl rfl) ?_
    refine x_callVi (n := 2) (ci := 11) (zdm d_Md_leastOf_0 7 rfl) k_Md_394 (As := [(0, l1), (0, 1)]) rfl rfl rfl ⟨_, _, rfl⟩ (Nat.le_of_ble_eq_true rfl) trivial H (fun r3 M4 hr H => ?_)
    refine x_goto (tgt := 18) (zdm d_Md_leastOf_0 8 rfl) (by decide) ?_
    exact x_iret (zdm d_Md_leastOf_0 10 rfl) rfl H
set_option maxRecDepth 20000 in
set_option maxHeartbeats 4000000 in
theorem E_Md_mostOf {G : zG} {h sl : Nat} (hsl : 2 ≤ sl) {l1 : Int} {M : zM} {Q : Int → zM → Prop} (H : zCt G h sl 0 0 y_Md_sortOf [(2, 125), (0, l1)] M (fun r1 M2 => (¬ r1 = 0 → zCt G h sl 0 0 y_Md_sortOf [(2, 125), (0, l1)] M2 (fun r3 M4 => (¬ r3 = 3 → zCt G h sl 0 0 y_Md_fieldOf [(2, 125), (0, l1), (0, 2)] M4 (fun r5 M6 => (zI (r5 - 1)) ∧ (Q (r5 - 1) M6))) ∧ (¬ (¬ r3 = 3) → Q 0 M4))) ∧ (¬ (¬ r1 = 0) → zCt G h sl 0 0 y_Md_fieldOf [(2, 125), (0, l1), (0, 2)] M2 (fun r8 M9 => Q r8 M9)))) : zCt G (h + 1) sl 0 0 y_Md_mostOf [(2, 125), (0, l1)] M Q := by
  refine zCt.of (by decide +kernel) (Nat.le_of_ble_eq_true rfl) ?_
  refine x_aload_n (zdm d_Md_mostOf_0 0 rfl) rfl (n := 0) rfl ?_
  refine x_iload_n (zdm d_Md_mostOf_0 1 rfl) rfl (n := 1) rfl ?_
  refine x_callVi (n := 1) (ci := 11) (zdm d_Md_mostOf_0 2 rfl) k_Md_424 (As := [(0, l1)]) rfl rfl rfl ⟨_, _, rfl⟩ (Nat.le_of_ble_eq_true rfl) trivial H (fun r1 M2 hr H => ?_)
  refine x_ifne (tgt := 17) (zdm d_Md_mostOf_0 3 rfl) (by decide) (fun c => ?_) (fun c => ?_)
  · have H := H.1 c
    refine x_aload_n (zdm d_Md_mostOf_0 9 rfl) rfl (n := 0) rfl ?_
    refine x_iload_n (zdm d_Md_mostOf_0 10 rfl) rfl (n := 1) rfl ?_
    refine x_callVi (n := 1) (ci := 11) (zdm d_Md_mostOf_0 11 rfl) k_Md_424 (As := [(0, l1)]) rfl rfl rfl ⟨_, _, rfl⟩ (Nat.le_of_ble_eq_true rfl) trivial H (fun r3 M4 hr H => ?_)
    refine x_iconst (zdm d_Md_mostOf_0 12 rfl) (zIl rfl) ?_
    refine x_icmpne (tgt := 30) (zdm d_Md_mostOf_0 13 rfl) (by decide) (fun c => ?_) (fun c => ?_)
    · have H := H.1 c
      refine x_aload_n (zdm d_Md_mostOf_0 16 rfl) rfl (n := 0) rfl ?_
      refine x_iload_n (zdm d_Md_mostOf_0 17 rfl) rfl (n := 1) rfl ?_
      refine x_iconst (zdm d_Md_mostOf_0 18 rfl) (zIl rfl) ?_
      refine x_callVi (n := 2) (ci := 11) (zdm d_Md_mostOf_0 19 rfl) k_Md_394 (As := [(0, l1), (0, 2)]) rfl rfl rfl ⟨_, _, rfl⟩ (Nat.le_of_ble_eq_true rfl) trivial H (fun r5 M6 hr H => ?_)
      refine x_iconst (zdm d_Md_mostOf_0 20 rfl) (zIl rfl) ?_
      obtain ⟨g7, H⟩ := H
      refine x_isub (zdm d_Md_mostOf_0 21 rfl) g7 ?_
      exact x_iret (zdm d_Md_mostOf_0 22 rfl) rfl H
    · have H := H.2 c
      refine x_iconst (zdm d_Md_mostOf_0 14 rfl) (zIl rfl) ?_
      refine x_goto (tgt := 38) (zdm d_Md_mostOf_0 15 rfl) (by decide) ?_
      exact x_iret (zdm d_Md_mostOf_0 22 rfl) rfl H
  · have H := H.2 c
    refine x_aload_n (zdm d_Md_mostOf_0 4 rfl) rfl (n := 0) rfl ?_
    refine x_iload_n (zdm d_Md_mostOf_0 5 rfl) rfl (n := 1) rfl ?_
    refine x_iconst (zdm d_Md_mostOf_0 6 rfl) (zIl rfl) ?_
    refine x_callVi (n := 2) (ci := 11) (zdm d_Md_mostOf_0 7 rfl) k_Md_394 (As := [(0, l1), (0, 2)]) rfl rfl rfl ⟨_, _, rfl⟩ (Nat.le_of_ble_eq_true rfl) trivial H (fun r8 M9 hr H => ?_)
    refine x_goto (tgt := 38) (zdm d_Md_mostOf_0 8 rfl) (by decide) ?_
    exact x_iret (zdm d_Md_mostOf_0 22 rfl) rfl H
set_option maxRecDepth 20000 in
set_option maxHeartbeats 4000000 in
theorem E_Md_column {G : zG} {h sl : Nat} (hsl : 2 ≤ sl) {l1 l2 : Int} {M : zM} {Q : Int → zM → Prop} (H : zCt G h sl 0 0 y_Md_isColumn [(2, 125), (1, l1)] M (fun r1 M2 => (¬ r1 = 0 → (l2 = 0 → zCt G h sl 0 0 y_Md_sortOf [(2, 125), (0, l1)] M2 (fun r4 M5 => Q r4 M5)) ∧ (l2 = 1 → (zI (9 + l1)) ∧ ((0 ≤ (9 + l1) ∧ (9 + l1) < 98) ∧ (Q (M2 164 (9 + l1)) M2))) ∧ (l2 = 2 → zCt G h sl 0 0 y_Md_leastOf [(2, 125), (0, l1)] M2 (fun r8 M9 => Q r8 M9)) ∧ (l2 = 3 → zCt G h sl 0 0 y_Md_mostOf [(2, 125), (0, l1)] M2 (fun r10 M11 => Q r10 M11)) ∧ ((l2 < 0 ∨ 3 < l2) → Q (-1) M2)) ∧ (¬ (¬ r1 = 0) → Q (-1) M2))) : zCt G (h + 1) sl 0 0 y_Md_column [(2, 125), (0, l1), (0, l2)] M Q := by
  refine zCt.of (by decide +kernel) (Nat.le_of_ble_eq_true rfl) ?_
  refine x_aload_n (zdm d_Md_column_0 0 rfl) rfl (n := 0) rfl ?_
  refine x_iload_n (zdm d_Md_column_0 1 rfl) rfl (n := 1) rfl ?_
  refine x_i2l (zdm d_Md_column_0 2 rfl) ?_
  refine x_callVi (n := 1) (ci := 11) (zdm d_Md_column_0 3 rfl) k_Md_466 (As := [(1, l1)]) rfl rfl rfl ⟨_, _, rfl⟩ (Nat.le_of_ble_eq_true rfl) trivial H (fun r1 M2 hr H => ?_)
  have b3 : r1 = 0 ∨ r1 = 1 := hr
  refine x_ifne (tgt := 11) (zdm d_Md_column_0 4 rfl) (by decide) (fun c => ?_) (fun c => ?_)
  · have H := H.1 c
    refine x_iload_n (zdm d_Md_column_0 7 rfl) rfl (n := 2) rfl ?_
    by_cases c0 : l2 = 0
    · refine x_tsw (tgt := 44) (zdm d_Md_column_0 8 rfl) c0 (by decide) rfl (by decide) ?_
      have H := H.1 c0
      refine x_aload_n (zdm d_Md_column_0 9 rfl) rfl (n := 0) rfl ?_
      refine x_iload_n (zdm d_Md_column_0 10 rfl) rfl (n := 1) rfl ?_
      refine x_callVi (n := 1) (ci := 11) (zdm d_Md_column_0 11 rfl) k_Md_424 (As := [(0, l1)]) rfl rfl rfl ⟨_, _, rfl⟩ (Nat.le_of_ble_eq_true rfl) trivial H (fun r4 M5 hr H => ?_)
      exact x_iret (zdm d_Md_column_0 12 rfl) rfl H
    · skip
      by_cases c1 : l2 = 1
      · refine x_tsw (tgt := 50) (zdm d_Md_column_0 8 rfl) c1 (by decide) rfl (by decide) ?_
        have H := H.2.1 c1
        refine x_aload_n (zdm d_Md_column_0 13 rfl) rfl (n := 0) rfl ?_
        refine x_getG (zdm d_Md_column_0 14 rfl) f_Md_130 rfl rfl (by decide) hsl rfl ?_
        refine x_bipush (zdm d_Md_column_0 15 rfl) (by decide) ?_
        refine x_iload_n (zdm d_Md_column_0 16 rfl) rfl (n := 1) rfl ?_
        obtain ⟨g6, H⟩ := H
        refine x_iadd (zdm d_Md_column_0 17 rfl) g6 ?_
        obtain ⟨g7, H⟩ := H
        refine x_iald (zdm d_Md_column_0 18 rfl) rfl g7 ?_
        exact x_iret (zdm d_Md_column_0 19 rfl) rfl H
      · skip
        by_cases c2 : l2 = 2
        · refine x_tsw (tgt := 60) (zdm d_Md_column_0 8 rfl) c2 (by decide) rfl (by decide) ?_
          have H := H.2.2.1 c2
          refine x_aload_n (zdm d_Md_column_0 20 rfl) rfl (n := 0) rfl ?_
          refine x_iload_n (zdm d_Md_column_0 21 rfl) rfl (n := 1) rfl ?_
          refine x_callVi (n := 1) (ci := 11) (zdm d_Md_column_0 22 rfl) k_Md_472 (As := [(0, l1)]) rfl rfl rfl ⟨_, _, rfl⟩ (Nat.le_of_ble_eq_true rfl) trivial H (fun r8 M9 hr H => ?_)
          exact x_iret (zdm d_Md_column_0 23 rfl) rfl H
        · skip
          by_cases c3 : l2 = 3
          · refine x_tsw (tgt := 66) (zdm d_Md_column_0 8 rfl) c3 (by decide) rfl (by decide) ?_
            have H := H.2.2.2.1 c3
            refine x_aload_n (zdm d_Md_column_0 24 rfl) rfl (n := 0) rfl ?_
            refine x_iload_n (zdm d_Md_column_0 25 rfl) rfl (n := 1) rfl ?_
            refine x_callVi (n := 1) (ci := 11) (zdm d_Md_column_0 26 rfl) k_Md_475 (As := [(0, l1)]) rfl rfl rfl ⟨_, _, rfl⟩ (Nat.le_of_ble_eq_true rfl) trivial H (fun r10 M11 hr H => ?_)
            exact x_iret (zdm d_Md_column_0 27 rfl) rfl H
          · skip
            have cd : (l2 < 0 ∨ 3 < l2) := by omega
            refine x_tswd (tgt := 72) (zdm d_Md_column_0 8 rfl) cd (by decide) ?_
            have H := H.2.2.2.2 cd
            refine x_iconst (zdm d_Md_column_0 28 rfl) (zIl rfl) ?_
            exact x_iret (zdm d_Md_column_0 29 rfl) rfl H
  · have H := H.2 c
    refine x_iconst (zdm d_Md_column_0 5 rfl) (zIl rfl) ?_
    exact x_iret (zdm d_Md_column_0 6 rfl) rfl H
set_option maxRecDepth 20000 in
set_option maxHeartbeats 4000000 in
theorem E_Md_value {G : zG} {h sl : Nat} (hsl : 2 ≤ sl) {l1 l2 : Int} {M : zM} {Q : Int → zM → Prop} (H : zCt G h sl 0 0 y_Md_isColumn [(2, 125), (1, l1)] M (fun r1 M2 => (r1 = 0 → Q (-1000000000000000) M2) ∧ (¬ r1 = 0 → zCt G h sl 0 0 y_Md_isIn [(1, l2), (1, 0), (1, 1)] M2 (fun r4 M5 => (¬ r4 = 0 → (¬ l2 = 0 → zCt G h sl 0 0 y_Md_trueOf [(2, 125), (0, (M5 164 0)), (0, l1)] M5 (fun r7 M8 => Q r7 M8)) ∧ (¬ (¬ l2 = 0) → zCt G h sl 0 0 y_Md_valueOf [(2, 125), (0, l1)] M5 (fun r9 M10 => Q r9 M10))) ∧ (¬ (¬ r4 = 0) → Q (-1000000000000000) M5))))) : zCt G (h + 1) sl 0 0 y_Md_value [(2, 125), (0, l1), (0, l2)] M Q := by
  refine zCt.of (by decide +kernel) (Nat.le_of_ble_eq_true rfl) ?_
  refine x_aload_n (zdm d_Md_value_0 0 rfl) rfl (n := 0) rfl ?_
  refine x_iload_n (zdm d_Md_value_0 1 rfl) rfl (n := 1) rfl ?_
  refine x_i2l (zdm d_Md_value_0 2 rfl) ?_
  refine x_callVi (n := 1) (ci := 11) (zdm d_Md_value_0 3 rfl) k_Md_466 (As := [(1, l1)]) rfl rfl rfl ⟨_, _, rfl⟩ (Nat.le_of_ble_eq_true rfl) trivial H (fun r1 M2 hr H => ?_)
  have b3 : r1 = 0 ∨ r1 = 1 := hr
  refine x_ifeq (tgt := 19) (zdm d_Md_value_0 4 rfl) (by decide) (fun c => ?_) (fun c => ?_)
  · have H := H.1 c
    refine x_ldc2 (zdm d_Md_value_0 11 rfl) (n := (-1000000000000000)) (zLl rfl) w_Md_478 ?_
    exact x_lreturn (zdm d_Md_value_0 12 rfl) rfl H
  · have H := H.2 c
    refine x_iload_n (zdm d_Md_value_0 5 rfl) rfl (n := 2) rfl ?_
    refine x_i2l (zdm d_Md_value_0 6 rfl) ?_
    refine x_lconst (zdm d_Md_value_0 7 rfl) (x := 0) rfl ?_
    refine x_lconst (zdm d_Md_value_0 8 rfl) (x := 1) rfl ?_
    refine x_callSi (n := 3) (zdm d_Md_value_0 9 rfl) k_Md_280 (As := [(1, l2), (1, 0), (1, 1)]) rfl rfl (Nat.le_of_ble_eq_true rfl) trivial H (fun r4 M5 hr H => ?_)
    have b6 : r4 = 0 ∨ r4 = 1 := hr
    refine x_ifne (tgt := 23) (zdm d_Md_value_0 10 rfl) (by decide) (fun c => ?_) (fun c => ?_)
    · have H := H.1 c
      refine x_iload_n (zdm d_Md_value_0 13 rfl) rfl (n := 2) rfl ?_
      refine x_ifne (tgt := 36) (zdm d_Md_value_0 14 rfl) (by decide) (fun c => ?_) (fun c => ?_)
      · have H := H.1 c
        refine x_aload_n (zdm d_Md_value_0 20 rfl) rfl (n := 0) rfl ?_
        refine x_aload_n (zdm d_Md_value_0 21 rfl) rfl (n := 0) rfl ?_
        refine x_getG (zdm d_Md_value_0 22 rfl) f_Md_130 rfl rfl (by decide) hsl rfl ?_
        refine x_iconst (zdm d_Md_value_0 23 rfl) (zIl rfl) ?_
        refine x_iald (zdm d_Md_value_0 24 rfl) rfl ⟨by decide, by decide⟩ ?_
        refine x_iload_n (zdm d_Md_value_0 25 rfl) rfl (n := 1) rfl ?_
        refine x_callVi (n := 2) (ci := 11) (zdm d_Md_value_0 26 rfl) k_Md_449 (As := [(0, (M5 164 0)), (0, l1)]) rfl rfl rfl ⟨_, _, rfl⟩ (Nat.le_of_ble_eq_true rfl) trivial H (fun r7 M8 hr H => ?_)
        refine x_i2l (zdm d_Md_value_0 27 rfl) ?_
        exact x_lreturn (zdm d_Md_value_0 28 rfl) rfl H
      · have H := H.2 c
        refine x_aload_n (zdm d_Md_value_0 15 rfl) rfl (n := 0) rfl ?_
        refine x_iload_n (zdm d_Md_value_0 16 rfl) rfl (n := 1) rfl ?_
        refine x_callVi (n := 1) (ci := 11) (zdm d_Md_value_0 17 rfl) k_Md_430 (As := [(0, l1)]) rfl rfl rfl ⟨_, _, rfl⟩ (Nat.le_of_ble_eq_true rfl) trivial H (fun r9 M10 hr H => ?_)
        refine x_i2l (zdm d_Md_value_0 18 rfl) ?_
        refine x_goto (tgt := 48) (zdm d_Md_value_0 19 rfl) (by decide) ?_
        exact x_lreturn (zdm d_Md_value_0 28 rfl) rfl H
    · have H := H.2 c
      refine x_ldc2 (zdm d_Md_value_0 11 rfl) (n := (-1000000000000000)) (zLl rfl) w_Md_478 ?_
      exact x_lreturn (zdm d_Md_value_0 12 rfl) rfl H
set_option maxRecDepth 20000 in
set_option maxHeartbeats 4000000 in
theorem E_Md_kept {G : zG} {h sl : Nat} (hsl : 2 ≤ sl) {l1 l2 : Int} {M : zM} {Q : Int → zM → Prop} (H : (zI ((M 164 17) - 1)) ∧ (zCt G h sl 0 0 y_Md_isIn [(1, l1), (1, 0), (1, ((M 164 17) - 1))] M (fun r2 M3 => (r2 = 0 → Q (-1) M3) ∧ (¬ r2 = 0 → zCt G h sl 0 0 y_Md_isIn [(1, l2), (1, 0), (1, 1)] M3 (fun r5 M6 => (r5 = 0 → Q (-1) M6) ∧ (¬ r5 = 0 → (zI (2 * l1)) ∧ ((zI (18 + (2 * l1))) ∧ ((zI ((18 + (2 * l1)) + l2)) ∧ ((0 ≤ ((18 + (2 * l1)) + l2) ∧ ((18 + (2 * l1)) + l2) < 98) ∧ (Q (M6 164 ((18 + (2 * l1)) + l2)) M6)))))))))) : zCt G (h + 1) sl 0 0 y_Md_kept [(2, 125), (0, l1), (0, l2)] M Q := by
  refine zCt.of (by decide +kernel) (Nat.le_of_ble_eq_true rfl) ?_
  refine x_iload_n (zdm d_Md_kept_0 0 rfl) rfl (n := 1) rfl ?_
  refine x_i2l (zdm d_Md_kept_0 1 rfl) ?_
  refine x_lconst (zdm d_Md_kept_0 2 rfl) (x := 0) rfl ?_
  refine x_aload_n (zdm d_Md_kept_0 3 rfl) rfl (n := 0) rfl ?_
  refine x_getG (zdm d_Md_kept_0 4 rfl) f_Md_130 rfl rfl (by decide) hsl rfl ?_
  refine x_bipush (zdm d_Md_kept_0 5 rfl) (by decide) ?_
  refine x_iald (zdm d_Md_kept_0 6 rfl) rfl ⟨by decide, by decide⟩ ?_
  refine x_iconst (zdm d_Md_kept_0 7 rfl) (zIl rfl) ?_
  obtain ⟨g1, H⟩ := H
  refine x_isub (zdm d_Md_kept_0 8 rfl) g1 ?_
  refine x_i2l (zdm d_Md_kept_0 9 rfl) ?_
  refine x_callSi (n := 3) (zdm d_Md_kept_0 10 rfl) k_Md_280 (As := [(1, l1), (1, 0), (1, ((M 164 17) - 1))]) rfl rfl (Nat.le_of_ble_eq_true rfl) trivial H (fun r2 M3 hr H => ?_)
  have b4 : r2 = 0 ∨ r2 = 1 := hr
  refine x_ifeq (tgt := 45) (zdm d_Md_kept_0 11 rfl) (by decide) (fun c => ?_) (fun c => ?_)
  · have H := H.1 c
    refine x_iconst (zdm d_Md_kept_0 29 rfl) (zIl rfl) ?_
    exact x_iret (zdm d_Md_kept_0 30 rfl) rfl H
  · have H := H.2 c
    refine x_iload_n (zdm d_Md_kept_0 12 rfl) rfl (n := 2) rfl ?_
    refine x_i2l (zdm d_Md_kept_0 13 rfl) ?_
    refine x_lconst (zdm d_Md_kept_0 14 rfl) (x := 0) rfl ?_
    refine x_lconst (zdm d_Md_kept_0 15 rfl) (x := 1) rfl ?_
    refine x_callSi (n := 3) (zdm d_Md_kept_0 16 rfl) k_Md_280 (As := [(1, l2), (1, 0), (1, 1)]) rfl rfl (Nat.le_of_ble_eq_true rfl) trivial H (fun r5 M6 hr H => ?_)
    have b7 : r5 = 0 ∨ r5 = 1 := hr
    refine x_ifeq (tgt := 45) (zdm d_Md_kept_0 17 rfl) (by decide) (fun c => ?_) (fun c => ?_)
    · have H := H.1 c
      refine x_iconst (zdm d_Md_kept_0 29 rfl) (zIl rfl) ?_
      exact x_iret (zdm d_Md_kept_0 30 rfl) rfl H
    · have H := H.2 c
      refine x_aload_n (zdm d_Md_kept_0 18 rfl) rfl (n := 0) rfl ?_
      refine x_getG (zdm d_Md_kept_0 19 rfl) f_Md_130 rfl rfl (by decide) hsl rfl ?_
      refine x_bipush (zdm d_Md_kept_0 20 rfl) (by decide) ?_
      refine x_iconst (zdm d_Md_kept_0 21 rfl) (zIl rfl) ?_
      refine x_iload_n (zdm d_Md_kept_0 22 rfl) rfl (n := 1) rfl ?_
      obtain ⟨g8, H⟩ := H
      refine x_imul (zdm d_Md_kept_0 23 rfl) g8 ?_
      obtain ⟨g9, H⟩ := H
      refine x_iadd (zdm d_Md_kept_0 24 rfl) g9 ?_
      refine x_iload_n (zdm d_Md_kept_0 25 rfl) rfl (n := 2) rfl ?_
      obtain ⟨g10, H⟩ := H
      refine x_iadd (zdm d_Md_kept_0 26 rfl) g10 ?_
      obtain ⟨g11, H⟩ := H
      refine x_iald (zdm d_Md_kept_0 27 rfl) rfl g11 ?_
      refine x_goto (tgt := 46) (zdm d_Md_kept_0 28 rfl) (by decide) ?_
      exact x_iret (zdm d_Md_kept_0 30 rfl) rfl H
set_option maxRecDepth 20000 in
set_option maxHeartbeats 4000000 in
theorem B_Md_laysAhead_94 {G : zG} {h sl : Nat} (hsl : 2 ≤ sl) {u : Nat × Nat × Nat × Nat} {M : zM} {Q : Int → zM → Prop} (H : zCt G h sl 0 0 y_Md_takesBack [(2, 125)] M (fun r1 M2 => Q 0 M2)) : zX G (y_Md_laysAhead, h + 1, sl) u 94 [(0, (2, 125))] [] M Q := by
  refine x_aload_n (zdm d_Md_laysAhead_0 50 rfl) rfl (n := 0) rfl ?_
  refine x_callVv (n := 0) (ci := 11) (zdm d_Md_laysAhead_0 51 rfl) k_Md_486 (As := []) rfl rfl rfl ⟨_, _, rfl⟩ (Nat.le_of_ble_eq_true rfl) rfl H (fun r1 M2 hr H => ?_)
  exact x_return (zdm d_Md_laysAhead_0 52 rfl) rfl H
set_option maxRecDepth 20000 in
set_option maxHeartbeats 4000000 in
theorem B_Md_laysAhead_33 {G : zG} {h sl : Nat} (hsl : 2 ≤ sl) {u : Nat × Nat × Nat × Nat} {l1 : Int} {M : zM} {Q : Int → zM → Prop} (H : (8 ≤ l1 → zCt G h sl 0 0 y_Md_isMarked [(2, 125)] M (fun r1 M2 => (0 ≤ (M 125 61) ∧ (M 125 61) < 201) ∧ ((zI (((zwr M2 169 (M 125 61) r1) 125 61) + 1)) ∧ (zCt G h sl 0 0 y_Md_lineGoes [(2, 125)] (zwr (zwr M2 169 (M 125 61) r1) 125 61 (((zwr M2 169 (M 125 61) r1) 125 61) + 1)) (fun r6 M7 => zX G (y_Md_laysAhead, h + 1, sl) u 9 [(0, (2, 125))] [] M7 Q))))) ∧ (¬ 8 ≤ l1 → (zI (8 * (M 125 61))) ∧ ((zI ((8 * (M 125 61)) + l1)) ∧ (zCt G h sl 0 0 y_Md_valueOf [(2, 125), (0, l1)] M (fun r10 M11 => (0 ≤ ((8 * (M 125 61)) + l1) ∧ ((8 * (M 125 61)) + l1) < 1608) ∧ ((zI (l1 + 1)) ∧ (zX G (y_Md_laysAhead, h + 1, sl) u 33 [(0, (2, 125)), (1, (0, (l1 + 1)))] [] (zwr M11 168 ((8 * (M 125 61)) + l1) r10) Q))))))) : zX G (y_Md_laysAhead, h + 1, sl) u 33 [(0, (2, 125)), (1, (0, l1))] [] M Q := by
  refine x_iload_n (zdm d_Md_laysAhead_0 17 rfl) rfl (n := 1) rfl ?_
  refine x_bipush (zdm d_Md_laysAhead_0 18 rfl) (by decide) ?_
  refine x_icmpge (tgt := 64) (zdm d_Md_laysAhead_0 19 rfl) (by decide) (fun c => ?_) (fun c => ?_)
  · have H := H.1 c
    refine x_aload_n (zdm d_Md_laysAhead_0 34 rfl) rfl (n := 0) rfl ?_
    refine x_getG (zdm d_Md_laysAhead_0 35 rfl) f_Md_145 rfl rfl (by decide) hsl rfl ?_
    refine x_aload_n (zdm d_Md_laysAhead_0 36 rfl) rfl (n := 0) rfl ?_
    refine x_getf (zdm d_Md_laysAhead_0 37 rfl) f_Md_480 rfl rfl ?_
    refine x_aload_n (zdm d_Md_laysAhead_0 38 rfl) rfl (n := 0) rfl ?_
    refine x_callVi (n := 0) (ci := 11) (zdm d_Md_laysAhead_0 39 rfl) k_Md_463 (As := []) rfl rfl rfl ⟨_, _, rfl⟩ (Nat.le_of_ble_eq_true rfl) trivial H (fun r1 M2 hr H => ?_)
    have b3 : r1 = 0 ∨ r1 = 1 := hr
    obtain ⟨g4, H⟩ := H
    refine x_zast (zdm d_Md_laysAhead_0 40 rfl) rfl g4 b3 ?_
    refine x_aload_n (zdm d_Md_laysAhead_0 41 rfl) rfl (n := 0) rfl ?_
    refine x_dup (zdm d_Md_laysAhead_0 42 rfl) z2n1 ?_
    refine x_getf (zdm d_Md_laysAhead_0 43 rfl) f_Md_480 rfl rfl ?_
    refine x_iconst (zdm d_Md_laysAhead_0 44 rfl) (zIl rfl) ?_
    obtain ⟨g5, H⟩ := H
    refine x_iadd (zdm d_Md_laysAhead_0 45 rfl) g5 ?_
    refine x_putf (zdm d_Md_laysAhead_0 46 rfl) f_Md_480 rfl ⟨rfl, trivial⟩ (Or.inl rfl) ?_
    refine x_aload_n (zdm d_Md_laysAhead_0 47 rfl) rfl (n := 0) rfl ?_
    refine x_callVv (n := 0) (ci := 11) (zdm d_Md_laysAhead_0 48 rfl) k_Md_446 (As := []) rfl rfl rfl ⟨_, _, rfl⟩ (Nat.le_of_ble_eq_true rfl) rfl H (fun r6 M7 hr H => ?_)
    refine x_goto (tgt := 9) (zdm d_Md_laysAhead_0 49 rfl) (by decide) ?_
    exact zX.sub [0] rfl H
  · have H := H.2 c
    refine x_aload_n (zdm d_Md_laysAhead_0 20 rfl) rfl (n := 0) rfl ?_
    refine x_getG (zdm d_Md_laysAhead_0 21 rfl) f_Md_142 rfl rfl (by decide) hsl rfl ?_
    refine x_bipush (zdm d_Md_laysAhead_0 22 rfl) (by decide) ?_
    refine x_aload_n (zdm d_Md_laysAhead_0 23 rfl) rfl (n := 0) rfl ?_
    refine x_getf (zdm d_Md_laysAhead_0 24 rfl) f_Md_480 rfl rfl ?_
    obtain ⟨g8, H⟩ := H
    refine x_imul (zdm d_Md_laysAhead_0 25 rfl) g8 ?_
    refine x_iload_n (zdm d_Md_laysAhead_0 26 rfl) rfl (n := 1) rfl ?_
    obtain ⟨g9, H⟩ := H
    refine x_iadd (zdm d_Md_laysAhead_0 27 rfl) g9 ?_
    refine x_aload_n (zdm d_Md_laysAhead_0 28 rfl) rfl (n := 0) rfl ?_
    refine x_iload_n (zdm d_Md_laysAhead_0 29 rfl) rfl (n := 1) rfl ?_
    refine x_callVi (n := 1) (ci := 11) (zdm d_Md_laysAhead_0 30 rfl) k_Md_430 (As := [(0, l1)]) rfl rfl rfl ⟨_, _, rfl⟩ (Nat.le_of_ble_eq_true rfl) trivial H (fun r10 M11 hr H => ?_)
    obtain ⟨g12, H⟩ := H
    refine x_iast (zdm d_Md_laysAhead_0 31 rfl) rfl g12 ?_
    obtain ⟨g13, H⟩ := H
    refine x_iinc (zdm d_Md_laysAhead_0 32 rfl) (n := 1) rfl g13 (zlt rfl) rfl ?_
    refine x_goto (tgt := 33) (zdm d_Md_laysAhead_0 33 rfl) (by decide) ?_
    exact zX.sub [1, 0] rfl H
set_option maxRecDepth 20000 in
set_option maxHeartbeats 4000000 in
theorem B_Md_laysAhead_9 {G : zG} {h sl : Nat} (hsl : 2 ≤ sl) {u : Nat × Nat × Nat × Nat} {M : zM} {Q : Int → zM → Prop} (H : (200 < (M 125 61) → zX G (y_Md_laysAhead, h + 1, sl) u 94 [(0, (2, 125))] [] M Q) ∧ (¬ 200 < (M 125 61) → (999 < (M 164 0) → zX G (y_Md_laysAhead, h + 1, sl) u 94 [(0, (2, 125))] [] M Q) ∧ (¬ 999 < (M 164 0) → zX G (y_Md_laysAhead, h + 1, sl) u 33 [(0, (2, 125)), (1, (0, 0))] [] M Q))) : zX G (y_Md_laysAhead, h + 1, sl) u 9 [(0, (2, 125))] [] M Q := by
  refine x_aload_n (zdm d_Md_laysAhead_0 5 rfl) rfl (n := 0) rfl ?_
  refine x_getf (zdm d_Md_laysAhead_0 6 rfl) f_Md_480 rfl rfl ?_
  refine x_sipush (zdm d_Md_laysAhead_0 7 rfl) (by decide) ?_
  refine x_icmpgt (tgt := 94) (zdm d_Md_laysAhead_0 8 rfl) (by decide) (fun c => ?_) (fun c => ?_)
  · have H := H.1 c
    exact H
  · have H := H.2 c
    refine x_aload_n (zdm d_Md_laysAhead_0 9 rfl) rfl (n := 0) rfl ?_
    refine x_getG (zdm d_Md_laysAhead_0 10 rfl) f_Md_130 rfl rfl (by decide) hsl rfl ?_
    refine x_iconst (zdm d_Md_laysAhead_0 11 rfl) (zIl rfl) ?_
    refine x_iald (zdm d_Md_laysAhead_0 12 rfl) rfl ⟨by decide, by decide⟩ ?_
    refine x_sipush (zdm d_Md_laysAhead_0 13 rfl) (by decide) ?_
    refine x_icmpgt (tgt := 94) (zdm d_Md_laysAhead_0 14 rfl) (by decide) (fun c => ?_) (fun c => ?_)
    · have H := H.1 c
      exact H
    · have H := H.2 c
      refine x_iconst (zdm d_Md_laysAhead_0 15 rfl) (zIl rfl) ?_
      refine x_istore_n (zdm d_Md_laysAhead_0 16 rfl) rfl (zlt rfl) rfl ?_
      exact zX.sub [1, 0] rfl H
set_option maxRecDepth 20000 in
set_option maxHeartbeats 4000000 in
theorem E_Md_laysAhead {G : zG} {h sl : Nat} (hsl : 2 ≤ sl) {M : zM} {Q : Int → zM → Prop} (H : zCt G h sl 0 0 y_Md_putsAside [(2, 125)] (zwr M 125 61 0) (fun r1 M2 => zX G (y_Md_laysAhead, h + 1, sl) (0, 0, 0, 0) 9 [(0, (2, 125))] [] M2 Q)) : zCt G (h + 1) sl 0 0 y_Md_laysAhead [(2, 125)] M Q := by
  refine zCt.of (by decide +kernel) (Nat.le_of_ble_eq_true rfl) ?_
  refine x_aload_n (zdm d_Md_laysAhead_0 0 rfl) rfl (n := 0) rfl ?_
  refine x_iconst (zdm d_Md_laysAhead_0 1 rfl) (zIl rfl) ?_
  refine x_putf (zdm d_Md_laysAhead_0 2 rfl) f_Md_480 rfl ⟨rfl, trivial⟩ (Or.inl rfl) ?_
  refine x_aload_n (zdm d_Md_laysAhead_0 3 rfl) rfl (n := 0) rfl ?_
  refine x_callVv (n := 0) (ci := 11) (zdm d_Md_laysAhead_0 4 rfl) k_Md_483 (As := []) rfl rfl rfl ⟨_, _, rfl⟩ (Nat.le_of_ble_eq_true rfl) rfl H (fun r1 M2 hr H => ?_)
  exact H
set_option maxRecDepth 20000 in
set_option maxHeartbeats 4000000 in
theorem E_Md_later {G : zG} {h sl : Nat} (hsl : 2 ≤ sl) {l1 l2 : Int} {M : zM} {Q : Int → zM → Prop} (H : zCt G h sl 0 0 y_Md_isColumn [(2, 125), (1, l1)] M (fun r1 M2 => (r1 = 0 → Q (-1000000000000000) M2) ∧ (¬ r1 = 0 → zCt G h sl 0 0 y_Md_isAhead [(2, 125), (1, l2), (0, 0), (0, 200)] M2 (fun r4 M5 => (¬ r4 = 0 → zCt G h sl 0 0 y_Md_laysAhead [(2, 125)] M5 (fun r7 M8 => (zI (8 * l2)) ∧ ((zI ((8 * l2) + l1)) ∧ ((0 ≤ ((8 * l2) + l1) ∧ ((8 * l2) + l1) < 1608) ∧ (Q (M8 168 ((8 * l2) + l1)) M8))))) ∧ (¬ (¬ r4 = 0) → Q (-1000000000000000) M5))))) : zCt G (h + 1) sl 0 0 y_Md_later [(2, 125), (0, l1), (0, l2)] M Q := by
  refine zCt.of (by decide +kernel) (Nat.le_of_ble_eq_true rfl) ?_
  refine x_aload_n (zdm d_Md_later_0 0 rfl) rfl (n := 0) rfl ?_
  refine x_iload_n (zdm d_Md_later_0 1 rfl) rfl (n := 1) rfl ?_
  refine x_i2l (zdm d_Md_later_0 2 rfl) ?_
  refine x_callVi (n := 1) (ci := 11) (zdm d_Md_later_0 3 rfl) k_Md_466 (As := [(1, l1)]) rfl rfl rfl ⟨_, _, rfl⟩ (Nat.le_of_ble_eq_true rfl) trivial H (fun r1 M2 hr H => ?_)
  have b3 : r1 = 0 ∨ r1 = 1 := hr
  refine x_ifeq (tgt := 22) (zdm d_Md_later_0 4 rfl) (by decide) (fun c => ?_) (fun c => ?_)
  · have H := H.1 c
    refine x_ldc2 (zdm d_Md_later_0 12 rfl) (n := (-1000000000000000)) (zLl rfl) w_Md_478 ?_
    exact x_lreturn (zdm d_Md_later_0 13 rfl) rfl H
  · have H := H.2 c
    refine x_aload_n (zdm d_Md_later_0 5 rfl) rfl (n := 0) rfl ?_
    refine x_iload_n (zdm d_Md_later_0 6 rfl) rfl (n := 2) rfl ?_
    refine x_i2l (zdm d_Md_later_0 7 rfl) ?_
    refine x_iconst (zdm d_Md_later_0 8 rfl) (zIl rfl) ?_
    refine x_sipush (zdm d_Md_later_0 9 rfl) (by decide) ?_
    refine x_callVi (n := 3) (ci := 11) (zdm d_Md_later_0 10 rfl) k_Md_489 (As := [(1, l2), (0, 0), (0, 200)]) rfl rfl rfl ⟨_, _, rfl⟩ (Nat.le_of_ble_eq_true rfl) trivial H (fun r4 M5 hr H => ?_)
    have b6 : r4 = 0 ∨ r4 = 1 := hr
    refine x_ifne (tgt := 26) (zdm d_Md_later_0 11 rfl) (by decide) (fun c => ?_) (fun c => ?_)
    · have H := H.1 c
      refine x_aload_n (zdm d_Md_later_0 14 rfl) rfl (n := 0) rfl ?_
      refine x_callVv (n := 0) (ci := 11) (zdm d_Md_later_0 15 rfl) k_Md_493 (As := []) rfl rfl rfl ⟨_, _, rfl⟩ (Nat.le_of_ble_eq_true rfl) rfl H (fun r7 M8 hr H => ?_)
      refine x_aload_n (zdm d_Md_later_0 16 rfl) rfl (n := 0) rfl ?_
      refine x_getG (zdm d_Md_later_0 17 rfl) f_Md_142 rfl rfl (by decide) hsl rfl ?_
      refine x_bipush (zdm d_Md_later_0 18 rfl) (by decide) ?_
      refine x_iload_n (zdm d_Md_later_0 19 rfl) rfl (n := 2) rfl ?_
      obtain ⟨g9, H⟩ := H
      refine x_imul (zdm d_Md_later_0 20 rfl) g9 ?_
      refine x_iload_n (zdm d_Md_later_0 21 rfl) rfl (n := 1) rfl ?_
      obtain ⟨g10, H⟩ := H
      refine x_iadd (zdm d_Md_later_0 22 rfl) g10 ?_
      obtain ⟨g11, H⟩ := H
      refine x_iald (zdm d_Md_later_0 23 rfl) rfl g11 ?_
      refine x_i2l (zdm d_Md_later_0 24 rfl) ?_
      exact x_lreturn (zdm d_Md_later_0 25 rfl) rfl H
    · have H := H.2 c
      refine x_ldc2 (zdm d_Md_later_0 12 rfl) (n := (-1000000000000000)) (zLl rfl) w_Md_478 ?_
      exact x_lreturn (zdm d_Md_later_0 13 rfl) rfl H
set_option maxRecDepth 20000 in
set_option maxHeartbeats 4000000 in
theorem B_Md_bounds_88 {G : zG} {h sl : Nat} (hsl : 2 ≤ sl) {u : Nat × Nat × Nat × Nat} {l1 l2 l3 l4 l5 l6 : Int} {M : zM} {Q : Int → zM → Prop} (H : (zI (8 * l6)) ∧ ((zI ((8 * l6) + l1)) ∧ ((0 ≤ ((8 * l6) + l1) ∧ ((8 * l6) + l1) < 1608) ∧ ((zI (8 * l4)) ∧ ((zI ((8 * l4) + l1)) ∧ ((0 ≤ ((8 * l4) + l1) ∧ ((8 * l4) + l1) < 1608) ∧ (((M 168 ((8 * l4) + l1)) ≤ (M 168 ((8 * l6) + l1)) → (zI (l6 + 1)) ∧ (zX G (y_Md_bounds, h + 1, sl) u 51 [(0, (2, 125)), (1, (0, l1)), (2, (0, l2)), (3, (0, l3)), (4, (0, l4)), (5, (0, l5)), (6, (0, (l6 + 1)))] [] M Q)) ∧ (¬ (M 168 ((8 * l4) + l1)) ≤ (M 168 ((8 * l6) + l1)) → (zI (l6 + 1)) ∧ (zX G (y_Md_bounds, h + 1, sl) u 51 [(0, (2, 125)), (1, (0, l1)), (2, (0, l2)), (3, (0, l3)), (4, (0, l6)), (5, (0, l5)), (6, (0, (l6 + 1)))] [] M Q))))))))) : zX G (y_Md_bounds, h + 1, sl) u 88 [(0, (2, 125)), (1, (0, l1)), (2, (0, l2)), (3, (0, l3)), (4, (0, l4)), (5, (0, l5)), (6, (0, l6))] [] M Q := by
  refine x_aload_n (zdm d_Md_bounds_0 50 rfl) rfl (n := 0) rfl ?_
  refine x_getG (zdm d_Md_bounds_0 51 rfl) f_Md_142 rfl rfl (by decide) hsl rfl ?_
  refine x_bipush (zdm d_Md_bounds_0 52 rfl) (by decide) ?_
  refine x_iload (zdm d_Md_bounds_0 53 rfl) (n := 6) rfl ?_
  obtain ⟨g1, H⟩ := H
  refine x_imul (zdm d_Md_bounds_0 54 rfl) g1 ?_
  refine x_iload_n (zdm d_Md_bounds_0 55 rfl) rfl (n := 1) rfl ?_
  obtain ⟨g2, H⟩ := H
  refine x_iadd (zdm d_Md_bounds_0 56 rfl) g2 ?_
  obtain ⟨g3, H⟩ := H
  refine x_iald (zdm d_Md_bounds_0 57 rfl) rfl g3 ?_
  refine x_aload_n (zdm d_Md_bounds_0 58 rfl) rfl (n := 0) rfl ?_
  refine x_getG (zdm d_Md_bounds_0 59 rfl) f_Md_142 rfl rfl (by decide) hsl rfl ?_
  refine x_bipush (zdm d_Md_bounds_1 0 rfl) (by decide) ?_
  refine x_iload (zdm d_Md_bounds_1 1 rfl) (n := 4) rfl ?_
  obtain ⟨g4, H⟩ := H
  refine x_imul (zdm d_Md_bounds_1 2 rfl) g4 ?_
  refine x_iload_n (zdm d_Md_bounds_1 3 rfl) rfl (n := 1) rfl ?_
  obtain ⟨g5, H⟩ := H
  refine x_iadd (zdm d_Md_bounds_1 4 rfl) g5 ?_
  obtain ⟨g6, H⟩ := H
  refine x_iald (zdm d_Md_bounds_1 5 rfl) rfl g6 ?_
  refine x_icmpge (tgt := 119) (zdm d_Md_bounds_1 6 rfl) (by decide) (fun c => ?_) (fun c => ?_)
  · have H := H.1 c
    obtain ⟨g7, H⟩ := H
    refine x_iinc (zdm d_Md_bounds_1 9 rfl) (n := 6) rfl g7 (zlt rfl) rfl ?_
    refine x_goto (tgt := 51) (zdm d_Md_bounds_1 10 rfl) (by decide) ?_
    exact zX.sub [1, 2, 3, 4, 5, 6, 0] rfl H
  · have H := H.2 c
    refine x_iload (zdm d_Md_bounds_1 7 rfl) (n := 6) rfl ?_
    refine x_istore (zdm d_Md_bounds_1 8 rfl) (zlt rfl) rfl ?_
    obtain ⟨g8, H⟩ := H
    refine x_iinc (zdm d_Md_bounds_1 9 rfl) (n := 6) rfl g8 (zlt rfl) rfl ?_
    refine x_goto (tgt := 51) (zdm d_Md_bounds_1 10 rfl) (by decide) ?_
    exact zX.sub [2, 3, 4, 5, 1, 6, 0] rfl H
set_option maxRecDepth 20000 in
set_option maxHeartbeats 4000000 in
theorem B_Md_bounds_51 {G : zG} {h sl : Nat} (hsl : 2 ≤ sl) {u : Nat × Nat × Nat × Nat} {l1 l2 l3 l4 l5 l6 : Int} {M : zM} {Q : Int → zM → Prop} (H : (l2 < l6 → (¬ l3 = 0 → (¬ l3 = 1 → (¬ l3 = 2 → Q l4 M) ∧ (¬ (¬ l3 = 2) → (zI (8 * l4)) ∧ ((zI ((8 * l4) + l1)) ∧ ((0 ≤ ((8 * l4) + l1) ∧ ((8 * l4) + l1) < 1608) ∧ (Q (M 168 ((8 * l4) + l1)) M))))) ∧ (¬ (¬ l3 = 1) → Q l5 M)) ∧ (¬ (¬ l3 = 0) → (zI (8 * l5)) ∧ ((zI ((8 * l5) + l1)) ∧ ((0 ≤ ((8 * l5) + l1) ∧ ((8 * l5) + l1) < 1608) ∧ (Q (M 168 ((8 * l5) + l1)) M))))) ∧ (¬ l2 < l6 → (zI (8 * l6)) ∧ ((zI ((8 * l6) + l1)) ∧ ((0 ≤ ((8 * l6) + l1) ∧ ((8 * l6) + l1) < 1608) ∧ ((zI (8 * l5)) ∧ ((zI ((8 * l5) + l1)) ∧ ((0 ≤ ((8 * l5) + l1) ∧ ((8 * l5) + l1) < 1608) ∧ (((M 168 ((8 * l6) + l1)) ≤ (M 168 ((8 * l5) + l1)) → zX G (y_Md_bounds, h + 1, sl) u 88 [(0, (2, 125)), (1, (0, l1)), (2, (0, l2)), (3, (0, l3)), (4, (0, l4)), (5, (0, l5)), (6, (0, l6))] [] M Q) ∧ (¬ (M 168 ((8 * l6) + l1)) ≤ (M 168 ((8 * l5) + l1)) → zX G (y_Md_bounds, h + 1, sl) u 88 [(0, (2, 125)), (1, (0, l1)), (2, (0, l2)), (3, (0, l3)), (4, (0, l4)), (5, (0, l6)), (6, (0, l6))] [] M Q))))))))) : zX G (y_Md_bounds, h + 1, sl) u 51 [(0, (2, 125)), (1, (0, l1)), (2, (0, l2)), (3, (0, l3)), (4, (0, l4)), (5, (0, l5)), (6, (0, l6))] [] M Q := by
  refine x_iload (zdm d_Md_bounds_0 28 rfl) (n := 6) rfl ?_
  refine x_iload_n (zdm d_Md_bounds_0 29 rfl) rfl (n := 2) rfl ?_
  refine x_icmpgt (tgt := 125) (zdm d_Md_bounds_0 30 rfl) (by decide) (fun c => ?_) (fun c => ?_)
  · have H := H.1 c
    refine x_iload_n (zdm d_Md_bounds_1 11 rfl) rfl (n := 3) rfl ?_
    refine x_ifne (tgt := 145) (zdm d_Md_bounds_1 12 rfl) (by decide) (fun c => ?_) (fun c => ?_)
    · have H := H.1 c
      refine x_iload_n (zdm d_Md_bounds_1 23 rfl) rfl (n := 3) rfl ?_
      refine x_iconst (zdm d_Md_bounds_1 24 rfl) (zIl rfl) ?_
      refine x_icmpne (tgt := 156) (zdm d_Md_bounds_1 25 rfl) (by decide) (fun c => ?_) (fun c => ?_)
      · have H := H.1 c
        refine x_iload_n (zdm d_Md_bounds_1 29 rfl) rfl (n := 3) rfl ?_
        refine x_iconst (zdm d_Md_bounds_1 30 rfl) (zIl rfl) ?_
        refine x_icmpne (tgt := 177) (zdm d_Md_bounds_1 31 rfl) (by decide) (fun c => ?_) (fun c => ?_)
        · have H := H.1 c
          refine x_iload (zdm d_Md_bounds_1 42 rfl) (n := 4) rfl ?_
          refine x_i2l (zdm d_Md_bounds_1 43 rfl) ?_
          exact x_lreturn (zdm d_Md_bounds_1 44 rfl) rfl H
        · have H := H.2 c
          refine x_aload_n (zdm d_Md_bounds_1 32 rfl) rfl (n := 0) rfl ?_
          refine x_getG (zdm d_Md_bounds_1 33 rfl) f_Md_142 rfl rfl (by decide) hsl rfl ?_
          refine x_bipush (zdm d_Md_bounds_1 34 rfl) (by decide) ?_
          refine x_iload (zdm d_Md_bounds_1 35 rfl) (n := 4) rfl ?_
          obtain ⟨g1, H⟩ := H
          refine x_imul (zdm d_Md_bounds_1 36 rfl) g1 ?_
          refine x_iload_n (zdm d_Md_bounds_1 37 rfl) rfl (n := 1) rfl ?_
          obtain ⟨g2, H⟩ := H
          refine x_iadd (zdm d_Md_bounds_1 38 rfl) g2 ?_
          obtain ⟨g3, H⟩ := H
          refine x_iald (zdm d_Md_bounds_1 39 rfl) rfl g3 ?_
          refine x_i2l (zdm d_Md_bounds_1 40 rfl) ?_
          refine x_goto (tgt := 180) (zdm d_Md_bounds_1 41 rfl) (by decide) ?_
          exact x_lreturn (zdm d_Md_bounds_1 44 rfl) rfl H
      · have H := H.2 c
        refine x_iload (zdm d_Md_bounds_1 26 rfl) (n := 5) rfl ?_
        refine x_i2l (zdm d_Md_bounds_1 27 rfl) ?_
        refine x_goto (tgt := 180) (zdm d_Md_bounds_1 28 rfl) (by decide) ?_
        exact x_lreturn (zdm d_Md_bounds_1 44 rfl) rfl H
    · have H := H.2 c
      refine x_aload_n (zdm d_Md_bounds_1 13 rfl) rfl (n := 0) rfl ?_
      refine x_getG (zdm d_Md_bounds_1 14 rfl) f_Md_142 rfl rfl (by decide) hsl rfl ?_
      refine x_bipush (zdm d_Md_bounds_1 15 rfl) (by decide) ?_
      refine x_iload (zdm d_Md_bounds_1 16 rfl) (n := 5) rfl ?_
      obtain ⟨g4, H⟩ := H
      refine x_imul (zdm d_Md_bounds_1 17 rfl) g4 ?_
      refine x_iload_n (zdm d_Md_bounds_1 18 rfl) rfl (n := 1) rfl ?_
      obtain ⟨g5, H⟩ := H
      refine x_iadd (zdm d_Md_bounds_1 19 rfl) g5 ?_
      obtain ⟨g6, H⟩ := H
      refine x_iald (zdm d_Md_bounds_1 20 rfl) rfl g6 ?_
      refine x_i2l (zdm d_Md_bounds_1 21 rfl) ?_
      refine x_goto (tgt := 180) (zdm d_Md_bounds_1 22 rfl) (by decide) ?_
      exact x_lreturn (zdm d_Md_bounds_1 44 rfl) rfl H
  · have H := H.2 c
    refine x_aload_n (zdm d_Md_bounds_0 31 rfl) rfl (n := 0) rfl ?_
    refine x_getG (zdm d_Md_bounds_0 32 rfl) f_Md_142 rfl rfl (by decide) hsl rfl ?_
    refine x_bipush (zdm d_Md_bounds_0 33 rfl) (by decide) ?_
    refine x_iload (zdm d_Md_bounds_0 34 rfl) (n := 6) rfl ?_
    obtain ⟨g7, H⟩ := H
    refine x_imul (zdm d_Md_bounds_0 35 rfl) g7 ?_
    refine x_iload_n (zdm d_Md_bounds_0 36 rfl) rfl (n := 1) rfl ?_
    obtain ⟨g8, H⟩ := H
    refine x_iadd (zdm d_Md_bounds_0 37 rfl) g8 ?_
    obtain ⟨g9, H⟩ := H
    refine x_iald (zdm d_Md_bounds_0 38 rfl) rfl g9 ?_
    refine x_aload_n (zdm d_Md_bounds_0 39 rfl) rfl (n := 0) rfl ?_
    refine x_getG (zdm d_Md_bounds_0 40 rfl) f_Md_142 rfl rfl (by decide) hsl rfl ?_
    refine x_bipush (zdm d_Md_bounds_0 41 rfl) (by decide) ?_
    refine x_iload (zdm d_Md_bounds_0 42 rfl) (n := 5) rfl ?_
    obtain ⟨g10, H⟩ := H
    refine x_imul (zdm d_Md_bounds_0 43 rfl) g10 ?_
    refine x_iload_n (zdm d_Md_bounds_0 44 rfl) rfl (n := 1) rfl ?_
    obtain ⟨g11, H⟩ := H
    refine x_iadd (zdm d_Md_bounds_0 45 rfl) g11 ?_
    obtain ⟨g12, H⟩ := H
    refine x_iald (zdm d_Md_bounds_0 46 rfl) rfl g12 ?_
    refine x_icmple (tgt := 88) (zdm d_Md_bounds_0 47 rfl) (by decide) (fun c => ?_) (fun c => ?_)
    · have H := H.1 c
      exact H
    · have H := H.2 c
      refine x_iload (zdm d_Md_bounds_0 48 rfl) (n := 6) rfl ?_
      refine x_istore (zdm d_Md_bounds_0 49 rfl) (zlt rfl) rfl ?_
      exact zX.sub [1, 2, 3, 4, 5, 0, 6] rfl H
set_option maxRecDepth 20000 in
set_option maxHeartbeats 4000000 in
theorem E_Md_bounds {G : zG} {h sl : Nat} (hsl : 2 ≤ sl) {l1 l2 l3 : Int} {M : zM} {Q : Int → zM → Prop} (H : zCt G h sl 0 0 y_Md_isColumn [(2, 125), (1, l1)] M (fun r1 M2 => (r1 = 0 → Q (-1000000000000000) M2) ∧ (¬ r1 = 0 → zCt G h sl 0 0 y_Md_isAhead [(2, 125), (1, l2), (0, 0), (0, 200)] M2 (fun r4 M5 => (r4 = 0 → Q (-1000000000000000) M5) ∧ (¬ r4 = 0 → zCt G h sl 0 0 y_Md_isIn [(1, l3), (1, 0), (1, 3)] M5 (fun r7 M8 => (¬ r7 = 0 → zCt G h sl 0 0 y_Md_laysAhead [(2, 125)] M8 (fun r10 M11 => zX G (y_Md_bounds, h + 1, sl) (0, 0, 0, 0) 51 [(0, (2, 125)), (1, (0, l1)), (2, (0, l2)), (3, (0, l3)), (4, (0, 0)), (5, (0, 0)), (6, (0, 1))] [] M11 Q)) ∧ (¬ (¬ r7 = 0) → Q (-1000000000000000) M8))))))) : zCt G (h + 1) sl 0 0 y_Md_bounds [(2, 125), (0, l1), (0, l2), (0, l3)] M Q := by
  refine zCt.of (by decide +kernel) (Nat.le_of_ble_eq_true rfl) ?_
  refine x_aload_n (zdm d_Md_bounds_0 0 rfl) rfl (n := 0) rfl ?_
  refine x_iload_n (zdm d_Md_bounds_0 1 rfl) rfl (n := 1) rfl ?_
  refine x_i2l (zdm d_Md_bounds_0 2 rfl) ?_
  refine x_callVi (n := 1) (ci := 11) (zdm d_Md_bounds_0 3 rfl) k_Md_466 (As := [(1, l1)]) rfl rfl rfl ⟨_, _, rfl⟩ (Nat.le_of_ble_eq_true rfl) trivial H (fun r1 M2 hr H => ?_)
  have b3 : r1 = 0 ∨ r1 = 1 := hr
  refine x_ifeq (tgt := 34) (zdm d_Md_bounds_0 4 rfl) (by decide) (fun c => ?_) (fun c => ?_)
  · have H := H.1 c
    refine x_ldc2 (zdm d_Md_bounds_0 18 rfl) (n := (-1000000000000000)) (zLl rfl) w_Md_478 ?_
    exact x_lreturn (zdm d_Md_bounds_0 19 rfl) rfl H
  · have H := H.2 c
    refine x_aload_n (zdm d_Md_bounds_0 5 rfl) rfl (n := 0) rfl ?_
    refine x_iload_n (zdm d_Md_bounds_0 6 rfl) rfl (n := 2) rfl ?_
    refine x_i2l (zdm d_Md_bounds_0 7 rfl) ?_
    refine x_iconst (zdm d_Md_bounds_0 8 rfl) (zIl rfl) ?_
    refine x_sipush (zdm d_Md_bounds_0 9 rfl) (by decide) ?_
    refine x_callVi (n := 3) (ci := 11) (zdm d_Md_bounds_0 10 rfl) k_Md_489 (As := [(1, l2), (0, 0), (0, 200)]) rfl rfl rfl ⟨_, _, rfl⟩ (Nat.le_of_ble_eq_true rfl) trivial H (fun r4 M5 hr H => ?_)
    have b6 : r4 = 0 ∨ r4 = 1 := hr
    refine x_ifeq (tgt := 34) (zdm d_Md_bounds_0 11 rfl) (by decide) (fun c => ?_) (fun c => ?_)
    · have H := H.1 c
      refine x_ldc2 (zdm d_Md_bounds_0 18 rfl) (n := (-1000000000000000)) (zLl rfl) w_Md_478 ?_
      exact x_lreturn (zdm d_Md_bounds_0 19 rfl) rfl H
    · have H := H.2 c
      refine x_iload_n (zdm d_Md_bounds_0 12 rfl) rfl (n := 3) rfl ?_
      refine x_i2l (zdm d_Md_bounds_0 13 rfl) ?_
      refine x_lconst (zdm d_Md_bounds_0 14 rfl) (x := 0) rfl ?_
      refine x_ldc2 (zdm d_Md_bounds_0 15 rfl) (n := 3) (zLl rfl) w_Md_496 ?_
      refine x_callSi (n := 3) (zdm d_Md_bounds_0 16 rfl) k_Md_280 (As := [(1, l3), (1, 0), (1, 3)]) rfl rfl (Nat.le_of_ble_eq_true rfl) trivial H (fun r7 M8 hr H => ?_)
      have b9 : r7 = 0 ∨ r7 = 1 := hr
      refine x_ifne (tgt := 38) (zdm d_Md_bounds_0 17 rfl) (by decide) (fun c => ?_) (fun c => ?_)
      · have H := H.1 c
        refine x_iconst (zdm d_Md_bounds_0 20 rfl) (zIl rfl) ?_
        refine x_istore (zdm d_Md_bounds_0 21 rfl) (zlt rfl) rfl ?_
        refine x_iconst (zdm d_Md_bounds_0 22 rfl) (zIl rfl) ?_
        refine x_istore (zdm d_Md_bounds_0 23 rfl) (zlt rfl) rfl ?_
        refine x_aload_n (zdm d_Md_bounds_0 24 rfl) rfl (n := 2) rfl ?_
        refine x_callVv (n := 0) (ci := 11) (zdm d_Md_bounds_0 25 rfl) k_Md_493 (As := []) rfl rfl rfl ⟨_, _, rfl⟩ (Nat.le_of_ble_eq_true rfl) rfl H (fun r10 M11 hr H => ?_)
        refine x_iconst (zdm d_Md_bounds_0 26 rfl) (zIl rfl) ?_
        refine x_istore (zdm d_Md_bounds_0 27 rfl) (zlt rfl) rfl ?_
        exact zX.sub [3, 4, 5, 6, 2, 1, 0] rfl H
      · have H := H.2 c
        refine x_ldc2 (zdm d_Md_bounds_0 18 rfl) (n := (-1000000000000000)) (zLl rfl) w_Md_478 ?_
        exact x_lreturn (zdm d_Md_bounds_0 19 rfl) rfl H
set_option maxRecDepth 20000 in
set_option maxHeartbeats 4000000 in
theorem B_Md_period_97 {G : zG} {h sl : Nat} (hsl : 2 ≤ sl) {u : Nat × Nat × Nat × Nat} {l4 : Int} {M : zM} {Q : Int → zM → Prop} (H : zCt G h sl 0 0 y_Md_takesBack [(2, 125)] M (fun r1 M2 => Q l4 M2)) : zX G (y_Md_period, h + 1, sl) u 97 [(0, (2, 125)), (4, (0, l4))] [] M Q := by
  refine x_aload_n (zdm d_Md_period_0 55 rfl) rfl (n := 0) rfl ?_
  refine x_callVv (n := 0) (ci := 11) (zdm d_Md_period_0 56 rfl) k_Md_486 (As := []) rfl rfl rfl ⟨_, _, rfl⟩ (Nat.le_of_ble_eq_true rfl) rfl H (fun r1 M2 hr H => ?_)
  refine x_iload (zdm d_Md_period_0 57 rfl) (n := 1) rfl ?_
  exact x_iret (zdm d_Md_period_0 58 rfl) rfl H
set_option maxRecDepth 20000 in
set_option maxHeartbeats 4000000 in
theorem B_Md_period_46 {G : zG} {h sl : Nat} (hsl : 2 ≤ sl) {u : Nat × Nat × Nat × Nat} {l1 l2 l3 l4 l5 : Int} {M : zM} {Q : Int → zM → Prop} (H : (999 < l5 → zX G (y_Md_period, h + 1, sl) u 97 [(0, (2, 125)), (4, (0, l4))] [] M Q) ∧ (¬ 999 < l5 → (¬ l4 = (-1) → zX G (y_Md_period, h + 1, sl) u 97 [(0, (2, 125)), (4, (0, l4))] [] M Q) ∧ (¬ (¬ l4 = (-1)) → zCt G h sl 0 0 y_Md_goesOn [(2, 125), (0, l1)] M (fun r1 M2 => zCt G h sl 0 0 y_Md_valueOf [(2, 125), (0, l1)] M2 (fun r3 M4 => (¬ r3 = l2 → (zI (l5 + 1)) ∧ (zX G (y_Md_period, h + 1, sl) u 46 [(0, (2, 125)), (1, (0, l1)), (2, (0, l2)), (3, (0, l3)), (4, (0, l4)), (5, (0, (l5 + 1)))] [] M4 Q)) ∧ (¬ (¬ r3 = l2) → (zI (9 + l1)) ∧ ((0 ≤ (9 + l1) ∧ (9 + l1) < 98) ∧ ((¬ (M4 164 (9 + l1)) = l3 → (zI (l5 + 1)) ∧ (zX G (y_Md_period, h + 1, sl) u 46 [(0, (2, 125)), (1, (0, l1)), (2, (0, l2)), (3, (0, l3)), (4, (0, l4)), (5, (0, (l5 + 1)))] [] M4 Q)) ∧ (¬ (¬ (M4 164 (9 + l1)) = l3) → (zI (l5 + 1)) ∧ (zX G (y_Md_period, h + 1, sl) u 46 [(0, (2, 125)), (1, (0, l1)), (2, (0, l2)), (3, (0, l3)), (4, (0, l5)), (5, (0, (l5 + 1)))] [] M4 Q)))))))))) : zX G (y_Md_period, h + 1, sl) u 46 [(0, (2, 125)), (1, (0, l1)), (2, (0, l2)), (3, (0, l3)), (4, (0, l4)), (5, (0, l5))] [] M Q := by
  refine x_iload (zdm d_Md_period_0 29 rfl) (n := 5) rfl ?_
  refine x_sipush (zdm d_Md_period_0 30 rfl) (by decide) ?_
  refine x_icmpgt (tgt := 97) (zdm d_Md_period_0 31 rfl) (by decide) (fun c => ?_) (fun c => ?_)
  · have H := H.1 c
    exact zX.sub [0, 4] rfl H
  · have H := H.2 c
    refine x_iload (zdm d_Md_period_0 32 rfl) (n := 4) rfl ?_
    refine x_iconst (zdm d_Md_period_0 33 rfl) (zIl rfl) ?_
    refine x_icmpne (tgt := 97) (zdm d_Md_period_0 34 rfl) (by decide) (fun c => ?_) (fun c => ?_)
    · have H := H.1 c
      exact zX.sub [0, 4] rfl H
    · have H := H.2 c
      refine x_aload_n (zdm d_Md_period_0 35 rfl) rfl (n := 0) rfl ?_
      refine x_iload_n (zdm d_Md_period_0 36 rfl) rfl (n := 1) rfl ?_
      refine x_callVv (n := 1) (ci := 11) (zdm d_Md_period_0 37 rfl) k_Md_443 (As := [(0, l1)]) rfl rfl rfl ⟨_, _, rfl⟩ (Nat.le_of_ble_eq_true rfl) rfl H (fun r1 M2 hr H => ?_)
      refine x_aload_n (zdm d_Md_period_0 38 rfl) rfl (n := 0) rfl ?_
      refine x_iload_n (zdm d_Md_period_0 39 rfl) rfl (n := 1) rfl ?_
      refine x_callVi (n := 1) (ci := 11) (zdm d_Md_period_0 40 rfl) k_Md_430 (As := [(0, l1)]) rfl rfl rfl ⟨_, _, rfl⟩ (Nat.le_of_ble_eq_true rfl) trivial H (fun r3 M4 hr H => ?_)
      refine x_iload_n (zdm d_Md_period_0 41 rfl) rfl (n := 2) rfl ?_
      refine x_icmpne (tgt := 91) (zdm d_Md_period_0 42 rfl) (by decide) (fun c => ?_) (fun c => ?_)
      · have H := H.1 c
        obtain ⟨g5, H⟩ := H
        refine x_iinc (zdm d_Md_period_0 53 rfl) (n := 5) rfl g5 (zlt rfl) rfl ?_
        refine x_goto (tgt := 46) (zdm d_Md_period_0 54 rfl) (by decide) ?_
        exact zX.sub [1, 2, 3, 4, 5, 0] rfl H
      · have H := H.2 c
        refine x_aload_n (zdm d_Md_period_0 43 rfl) rfl (n := 0) rfl ?_
        refine x_getG (zdm d_Md_period_0 44 rfl) f_Md_130 rfl rfl (by decide) hsl rfl ?_
        refine x_bipush (zdm d_Md_period_0 45 rfl) (by decide) ?_
        refine x_iload_n (zdm d_Md_period_0 46 rfl) rfl (n := 1) rfl ?_
        obtain ⟨g6, H⟩ := H
        refine x_iadd (zdm d_Md_period_0 47 rfl) g6 ?_
        obtain ⟨g7, H⟩ := H
        refine x_iald (zdm d_Md_period_0 48 rfl) rfl g7 ?_
        refine x_iload_n (zdm d_Md_period_0 49 rfl) rfl (n := 3) rfl ?_
        refine x_icmpne (tgt := 91) (zdm d_Md_period_0 50 rfl) (by decide) (fun c => ?_) (fun c => ?_)
        · have H := H.1 c
          obtain ⟨g8, H⟩ := H
          refine x_iinc (zdm d_Md_period_0 53 rfl) (n := 5) rfl g8 (zlt rfl) rfl ?_
          refine x_goto (tgt := 46) (zdm d_Md_period_0 54 rfl) (by decide) ?_
          exact zX.sub [1, 2, 3, 4, 5, 0] rfl H
        · have H := H.2 c
          refine x_iload (zdm d_Md_period_0 51 rfl) (n := 5) rfl ?_
          refine x_istore (zdm d_Md_period_0 52 rfl) (zlt rfl) rfl ?_
          obtain ⟨g9, H⟩ := H
          refine x_iinc (zdm d_Md_period_0 53 rfl) (n := 5) rfl g9 (zlt rfl) rfl ?_
          refine x_goto (tgt := 46) (zdm d_Md_period_0 54 rfl) (by decide) ?_
          exact zX.sub [2, 3, 4, 5, 1, 0] rfl H
set_option maxRecDepth 20000 in
set_option maxHeartbeats 4000000 in
theorem E_Md_period {G : zG} {h sl : Nat} (hsl : 2 ≤ sl) {l1 : Int} {M : zM} {Q : Int → zM → Prop} (H : zCt G h sl 0 0 y_Md_isColumn [(2, 125), (1, l1)] M (fun r1 M2 => (r1 = 0 → Q (-1) M2) ∧ (¬ r1 = 0 → zCt G h sl 0 0 y_Md_sortOf [(2, 125), (0, l1)] M2 (fun r4 M5 => (r4 ≤ 1 → zCt G h sl 0 0 y_Md_valueOf [(2, 125), (0, l1)] M5 (fun r6 M7 => (zI (9 + l1)) ∧ ((0 ≤ (9 + l1) ∧ (9 + l1) < 98) ∧ (zCt G h sl 0 0 y_Md_putsAside [(2, 125)] M7 (fun r10 M11 => zX G (y_Md_period, h + 1, sl) (0, 0, 0, 0) 46 [(0, (2, 125)), (1, (0, l1)), (2, (0, r6)), (3, (0, (M7 164 (9 + l1)))), (4, (0, (-1))), (5, (0, 1))] [] M11 Q))))) ∧ (¬ r4 ≤ 1 → Q (-1) M5))))) : zCt G (h + 1) sl 0 0 y_Md_period [(2, 125), (0, l1)] M Q := by
  refine zCt.of (by decide +kernel) (Nat.le_of_ble_eq_true rfl) ?_
  refine x_aload_n (zdm d_Md_period_0 0 rfl) rfl (n := 0) rfl ?_
  refine x_iload_n (zdm d_Md_period_0 1 rfl) rfl (n := 1) rfl ?_
  refine x_i2l (zdm d_Md_period_0 2 rfl) ?_
  refine x_callVi (n := 1) (ci := 11) (zdm d_Md_period_0 3 rfl) k_Md_466 (As := [(1, l1)]) rfl rfl rfl ⟨_, _, rfl⟩ (Nat.le_of_ble_eq_true rfl) trivial H (fun r1 M2 hr H => ?_)
  have b3 : r1 = 0 ∨ r1 = 1 := hr
  refine x_ifeq (tgt := 18) (zdm d_Md_period_0 4 rfl) (by decide) (fun c => ?_) (fun c => ?_)
  · have H := H.1 c
    refine x_iconst (zdm d_Md_period_0 10 rfl) (zIl rfl) ?_
    exact x_iret (zdm d_Md_period_0 11 rfl) rfl H
  · have H := H.2 c
    refine x_aload_n (zdm d_Md_period_0 5 rfl) rfl (n := 0) rfl ?_
    refine x_iload_n (zdm d_Md_period_0 6 rfl) rfl (n := 1) rfl ?_
    refine x_callVi (n := 1) (ci := 11) (zdm d_Md_period_0 7 rfl) k_Md_424 (As := [(0, l1)]) rfl rfl rfl ⟨_, _, rfl⟩ (Nat.le_of_ble_eq_true rfl) trivial H (fun r4 M5 hr H => ?_)
    refine x_iconst (zdm d_Md_period_0 8 rfl) (zIl rfl) ?_
    refine x_icmple (tgt := 20) (zdm d_Md_period_0 9 rfl) (by decide) (fun c => ?_) (fun c => ?_)
    · have H := H.1 c
      refine x_aload_n (zdm d_Md_period_0 12 rfl) rfl (n := 0) rfl ?_
      refine x_iload_n (zdm d_Md_period_0 13 rfl) rfl (n := 1) rfl ?_
      refine x_callVi (n := 1) (ci := 11) (zdm d_Md_period_0 14 rfl) k_Md_430 (As := [(0, l1)]) rfl rfl rfl ⟨_, _, rfl⟩ (Nat.le_of_ble_eq_true rfl) trivial H (fun r6 M7 hr H => ?_)
      refine x_istore_n (zdm d_Md_period_0 15 rfl) rfl (zlt rfl) rfl ?_
      refine x_aload_n (zdm d_Md_period_0 16 rfl) rfl (n := 1) rfl ?_
      refine x_getG (zdm d_Md_period_0 17 rfl) f_Md_130 rfl rfl (by decide) hsl rfl ?_
      refine x_bipush (zdm d_Md_period_0 18 rfl) (by decide) ?_
      refine x_iload_n (zdm d_Md_period_0 19 rfl) rfl (n := 2) rfl ?_
      obtain ⟨g8, H⟩ := H
      refine x_iadd (zdm d_Md_period_0 20 rfl) g8 ?_
      obtain ⟨g9, H⟩ := H
      refine x_iald (zdm d_Md_period_0 21 rfl) rfl g9 ?_
      refine x_istore_n (zdm d_Md_period_0 22 rfl) rfl (zlt rfl) rfl ?_
      refine x_iconst (zdm d_Md_period_0 23 rfl) (zIl rfl) ?_
      refine x_istore (zdm d_Md_period_0 24 rfl) (zlt rfl) rfl ?_
      refine x_aload_n (zdm d_Md_period_0 25 rfl) rfl (n := 3) rfl ?_
      refine x_callVv (n := 0) (ci := 11) (zdm d_Md_period_0 26 rfl) k_Md_483 (As := []) rfl rfl rfl ⟨_, _, rfl⟩ (Nat.le_of_ble_eq_true rfl) rfl H (fun r10 M11 hr H => ?_)
      refine x_iconst (zdm d_Md_period_0 27 rfl) (zIl rfl) ?_
      refine x_istore (zdm d_Md_period_0 28 rfl) (zlt rfl) rfl ?_
      exact zX.sub [4, 5, 3, 2, 1, 0] rfl H
    · have H := H.2 c
      refine x_iconst (zdm d_Md_period_0 10 rfl) (zIl rfl) ?_
      exact x_iret (zdm d_Md_period_0 11 rfl) rfl H
set_option maxRecDepth 20000 in
set_option maxHeartbeats 4000000 in
theorem B_Md_when_17 {G : zG} {h sl : Nat} (hsl : 2 ≤ sl) {u : Nat × Nat × Nat × Nat} {l1 l2 l3 : Int} {M : zM} {Q : Int → zM → Prop} (H : ((M 125 61) ≤ l3 → Q (-1) M) ∧ (¬ (M 125 61) ≤ l3 → (zI (8 * l3)) ∧ ((zI ((8 * l3) + l1)) ∧ ((0 ≤ ((8 * l3) + l1) ∧ ((8 * l3) + l1) < 1608) ∧ ((¬ (M 168 ((8 * l3) + l1)) = l2 → (zI (l3 + 1)) ∧ (zX G (y_Md_when, h + 1, sl) u 17 [(0, (2, 125)), (1, (0, l1)), (2, (0, l2)), (3, (0, (l3 + 1)))] [] M Q)) ∧ (¬ (¬ (M 168 ((8 * l3) + l1)) = l2) → Q l3 M)))))) : zX G (y_Md_when, h + 1, sl) u 17 [(0, (2, 125)), (1, (0, l1)), (2, (0, l2)), (3, (0, l3))] [] M Q := by
  refine x_iload_n (zdm d_Md_when_0 11 rfl) rfl (n := 3) rfl ?_
  refine x_aload_n (zdm d_Md_when_0 12 rfl) rfl (n := 0) rfl ?_
  refine x_getf (zdm d_Md_when_0 13 rfl) f_Md_480 rfl rfl ?_
  refine x_icmpge (tgt := 48) (zdm d_Md_when_0 14 rfl) (by decide) (fun c => ?_) (fun c => ?_)
  · have H := H.1 c
    refine x_iconst (zdm d_Md_when_0 29 rfl) (zIl rfl) ?_
    exact x_iret (zdm d_Md_when_0 30 rfl) rfl H
  · have H := H.2 c
    refine x_aload_n (zdm d_Md_when_0 15 rfl) rfl (n := 0) rfl ?_
    refine x_getG (zdm d_Md_when_0 16 rfl) f_Md_142 rfl rfl (by decide) hsl rfl ?_
    refine x_bipush (zdm d_Md_when_0 17 rfl) (by decide) ?_
    refine x_iload_n (zdm d_Md_when_0 18 rfl) rfl (n := 3) rfl ?_
    obtain ⟨g1, H⟩ := H
    refine x_imul (zdm d_Md_when_0 19 rfl) g1 ?_
    refine x_iload_n (zdm d_Md_when_0 20 rfl) rfl (n := 1) rfl ?_
    obtain ⟨g2, H⟩ := H
    refine x_iadd (zdm d_Md_when_0 21 rfl) g2 ?_
    obtain ⟨g3, H⟩ := H
    refine x_iald (zdm d_Md_when_0 22 rfl) rfl g3 ?_
    refine x_iload_n (zdm d_Md_when_0 23 rfl) rfl (n := 2) rfl ?_
    refine x_icmpne (tgt := 42) (zdm d_Md_when_0 24 rfl) (by decide) (fun c => ?_) (fun c => ?_)
    · have H := H.1 c
      obtain ⟨g4, H⟩ := H
      refine x_iinc (zdm d_Md_when_0 27 rfl) (n := 3) rfl g4 (zlt rfl) rfl ?_
      refine x_goto (tgt := 17) (zdm d_Md_when_0 28 rfl) (by decide) ?_
      exact zX.sub [1, 2, 3, 0] rfl H
    · have H := H.2 c
      refine x_iload_n (zdm d_Md_when_0 25 rfl) rfl (n := 3) rfl ?_
      exact x_iret (zdm d_Md_when_0 26 rfl) rfl H
set_option maxRecDepth 20000 in
set_option maxHeartbeats 4000000 in
theorem E_Md_when {G : zG} {h sl : Nat} (hsl : 2 ≤ sl) {l1 l2 : Int} {M : zM} {Q : Int → zM → Prop} (H : zCt G h sl 0 0 y_Md_isColumn [(2, 125), (1, l1)] M (fun r1 M2 => (¬ r1 = 0 → zCt G h sl 0 0 y_Md_laysAhead [(2, 125)] M2 (fun r4 M5 => zX G (y_Md_when, h + 1, sl) (0, 0, 0, 0) 17 [(0, (2, 125)), (1, (0, l1)), (2, (0, l2)), (3, (0, 0))] [] M5 Q)) ∧ (¬ (¬ r1 = 0) → Q (-1) M2))) : zCt G (h + 1) sl 0 0 y_Md_when [(2, 125), (0, l1), (0, l2)] M Q := by
  refine zCt.of (by decide +kernel) (Nat.le_of_ble_eq_true rfl) ?_
  refine x_aload_n (zdm d_Md_when_0 0 rfl) rfl (n := 0) rfl ?_
  refine x_iload_n (zdm d_Md_when_0 1 rfl) rfl (n := 1) rfl ?_
  refine x_i2l (zdm d_Md_when_0 2 rfl) ?_
  refine x_callVi (n := 1) (ci := 11) (zdm d_Md_when_0 3 rfl) k_Md_466 (As := [(1, l1)]) rfl rfl rfl ⟨_, _, rfl⟩ (Nat.le_of_ble_eq_true rfl) trivial H (fun r1 M2 hr H => ?_)
  have b3 : r1 = 0 ∨ r1 = 1 := hr
  refine x_ifne (tgt := 11) (zdm d_Md_when_0 4 rfl) (by decide) (fun c => ?_) (fun c => ?_)
  · have H := H.1 c
    refine x_aload_n (zdm d_Md_when_0 7 rfl) rfl (n := 0) rfl ?_
    refine x_callVv (n := 0) (ci := 11) (zdm d_Md_when_0 8 rfl) k_Md_493 (As := []) rfl rfl rfl ⟨_, _, rfl⟩ (Nat.le_of_ble_eq_true rfl) rfl H (fun r4 M5 hr H => ?_)
    refine x_iconst (zdm d_Md_when_0 9 rfl) (zIl rfl) ?_
    refine x_istore_n (zdm d_Md_when_0 10 rfl) rfl (zlt rfl) rfl ?_
    exact zX.sub [1, 2, 3, 0] rfl H
  · have H := H.2 c
    refine x_iconst (zdm d_Md_when_0 5 rfl) (zIl rfl) ?_
    exact x_iret (zdm d_Md_when_0 6 rfl) rfl H
set_option maxRecDepth 20000 in
set_option maxHeartbeats 4000000 in
theorem B_Md_meet_31 {G : zG} {h sl : Nat} (hsl : 2 ≤ sl) {u : Nat × Nat × Nat × Nat} {l1 l2 l3 : Int} {M : zM} {Q : Int → zM → Prop} (H : ((M 125 61) ≤ l3 → Q (-1) M) ∧ (¬ (M 125 61) ≤ l3 → (zI (8 * l3)) ∧ ((zI ((8 * l3) + l1)) ∧ ((0 ≤ ((8 * l3) + l1) ∧ ((8 * l3) + l1) < 1608) ∧ ((zI ((8 * l3) + l2)) ∧ ((0 ≤ ((8 * l3) + l2) ∧ ((8 * l3) + l2) < 1608) ∧ ((¬ (M 168 ((8 * l3) + l1)) = (M 168 ((8 * l3) + l2)) → (zI (l3 + 1)) ∧ (zX G (y_Md_meet, h + 1, sl) u 31 [(0, (2, 125)), (1, (0, l1)), (2, (0, l2)), (3, (0, (l3 + 1)))] [] M Q)) ∧ (¬ (¬ (M 168 ((8 * l3) + l1)) = (M 168 ((8 * l3) + l2))) → Q l3 M)))))))) : zX G (y_Md_meet, h + 1, sl) u 31 [(0, (2, 125)), (1, (0, l1)), (2, (0, l2)), (3, (0, l3))] [] M Q := by
  refine x_iload_n (zdm d_Md_meet_0 19 rfl) rfl (n := 3) rfl ?_
  refine x_aload_n (zdm d_Md_meet_0 20 rfl) rfl (n := 0) rfl ?_
  refine x_getf (zdm d_Md_meet_0 21 rfl) f_Md_480 rfl rfl ?_
  refine x_icmpge (tgt := 72) (zdm d_Md_meet_0 22 rfl) (by decide) (fun c => ?_) (fun c => ?_)
  · have H := H.1 c
    refine x_iconst (zdm d_Md_meet_0 44 rfl) (zIl rfl) ?_
    exact x_iret (zdm d_Md_meet_0 45 rfl) rfl H
  · have H := H.2 c
    refine x_aload_n (zdm d_Md_meet_0 23 rfl) rfl (n := 0) rfl ?_
    refine x_getG (zdm d_Md_meet_0 24 rfl) f_Md_142 rfl rfl (by decide) hsl rfl ?_
    refine x_bipush (zdm d_Md_meet_0 25 rfl) (by decide) ?_
    refine x_iload_n (zdm d_Md_meet_0 26 rfl) rfl (n := 3) rfl ?_
    obtain ⟨g1, H⟩ := H
    refine x_imul (zdm d_Md_meet_0 27 rfl) g1 ?_
    refine x_iload_n (zdm d_Md_meet_0 28 rfl) rfl (n := 1) rfl ?_
    obtain ⟨g2, H⟩ := H
    refine x_iadd (zdm d_Md_meet_0 29 rfl) g2 ?_
    obtain ⟨g3, H⟩ := H
    refine x_iald (zdm d_Md_meet_0 30 rfl) rfl g3 ?_
    refine x_aload_n (zdm d_Md_meet_0 31 rfl) rfl (n := 0) rfl ?_
    refine x_getG (zdm d_Md_meet_0 32 rfl) f_Md_142 rfl rfl (by decide) hsl rfl ?_
    refine x_bipush (zdm d_Md_meet_0 33 rfl) (by decide) ?_
    refine x_iload_n (zdm d_Md_meet_0 34 rfl) rfl (n := 3) rfl ?_
    refine x_imul (zdm d_Md_meet_0 35 rfl) g1 ?_
    refine x_iload_n (zdm d_Md_meet_0 36 rfl) rfl (n := 2) rfl ?_
    obtain ⟨g4, H⟩ := H
    refine x_iadd (zdm d_Md_meet_0 37 rfl) g4 ?_
    obtain ⟨g5, H⟩ := H
    refine x_iald (zdm d_Md_meet_0 38 rfl) rfl g5 ?_
    refine x_icmpne (tgt := 66) (zdm d_Md_meet_0 39 rfl) (by decide) (fun c => ?_) (fun c => ?_)
    · have H := H.1 c
      obtain ⟨g6, H⟩ := H
      refine x_iinc (zdm d_Md_meet_0 42 rfl) (n := 3) rfl g6 (zlt rfl) rfl ?_
      refine x_goto (tgt := 31) (zdm d_Md_meet_0 43 rfl) (by decide) ?_
      exact zX.sub [1, 2, 3, 0] rfl H
    · have H := H.2 c
      refine x_iload_n (zdm d_Md_meet_0 40 rfl) rfl (n := 3) rfl ?_
      exact x_iret (zdm d_Md_meet_0 41 rfl) rfl H
set_option maxRecDepth 20000 in
set_option maxHeartbeats 4000000 in
theorem E_Md_meet {G : zG} {h sl : Nat} (hsl : 2 ≤ sl) {l1 l2 : Int} {M : zM} {Q : Int → zM → Prop} (H : zCt G h sl 0 0 y_Md_isColumn [(2, 125), (1, l1)] M (fun r1 M2 => (r1 = 0 → Q (-1) M2) ∧ (¬ r1 = 0 → zCt G h sl 0 0 y_Md_isColumn [(2, 125), (1, l2)] M2 (fun r4 M5 => (r4 = 0 → Q (-1) M5) ∧ (¬ r4 = 0 → (¬ l1 = l2 → zCt G h sl 0 0 y_Md_laysAhead [(2, 125)] M5 (fun r7 M8 => zX G (y_Md_meet, h + 1, sl) (0, 0, 0, 0) 31 [(0, (2, 125)), (1, (0, l1)), (2, (0, l2)), (3, (0, 0))] [] M8 Q)) ∧ (¬ (¬ l1 = l2) → Q (-1) M5)))))) : zCt G (h + 1) sl 0 0 y_Md_meet [(2, 125), (0, l1), (0, l2)] M Q := by
  refine zCt.of (by decide +kernel) (Nat.le_of_ble_eq_true rfl) ?_
  refine x_aload_n (zdm d_Md_meet_0 0 rfl) rfl (n := 0) rfl ?_
  refine x_iload_n (zdm d_Md_meet_0 1 rfl) rfl (n := 1) rfl ?_
  refine x_i2l (zdm d_Md_meet_0 2 rfl) ?_
  refine x_callVi (n := 1) (ci := 11) (zdm d_Md_meet_0 3 rfl) k_Md_466 (As := [(1, l1)]) rfl rfl rfl ⟨_, _, rfl⟩ (Nat.le_of_ble_eq_true rfl) trivial H (fun r1 M2 hr H => ?_)
  have b3 : r1 = 0 ∨ r1 = 1 := hr
  refine x_ifeq (tgt := 23) (zdm d_Md_meet_0 4 rfl) (by decide) (fun c => ?_) (fun c => ?_)
  · have H := H.1 c
    refine x_iconst (zdm d_Md_meet_0 13 rfl) (zIl rfl) ?_
    exact x_iret (zdm d_Md_meet_0 14 rfl) rfl H
  · have H := H.2 c
    refine x_aload_n (zdm d_Md_meet_0 5 rfl) rfl (n := 0) rfl ?_
    refine x_iload_n (zdm d_Md_meet_0 6 rfl) rfl (n := 2) rfl ?_
    refine x_i2l (zdm d_Md_meet_0 7 rfl) ?_
    refine x_callVi (n := 1) (ci := 11) (zdm d_Md_meet_0 8 rfl) k_Md_466 (As := [(1, l2)]) rfl rfl rfl ⟨_, _, rfl⟩ (Nat.le_of_ble_eq_true rfl) trivial H (fun r4 M5 hr H => ?_)
    have b6 : r4 = 0 ∨ r4 = 1 := hr
    refine x_ifeq (tgt := 23) (zdm d_Md_meet_0 9 rfl) (by decide) (fun c => ?_) (fun c => ?_)
    · have H := H.1 c
      refine x_iconst (zdm d_Md_meet_0 13 rfl) (zIl rfl) ?_
      exact x_iret (zdm d_Md_meet_0 14 rfl) rfl H
    · have H := H.2 c
      refine x_iload_n (zdm d_Md_meet_0 10 rfl) rfl (n := 1) rfl ?_
      refine x_iload_n (zdm d_Md_meet_0 11 rfl) rfl (n := 2) rfl ?_
      refine x_icmpne (tgt := 25) (zdm d_Md_meet_0 12 rfl) (by decide) (fun c => ?_) (fun c => ?_)
      · have H := H.1 c
        refine x_aload_n (zdm d_Md_meet_0 15 rfl) rfl (n := 0) rfl ?_
        refine x_callVv (n := 0) (ci := 11) (zdm d_Md_meet_0 16 rfl) k_Md_493 (As := []) rfl rfl rfl ⟨_, _, rfl⟩ (Nat.le_of_ble_eq_true rfl) rfl H (fun r7 M8 hr H => ?_)
        refine x_iconst (zdm d_Md_meet_0 17 rfl) (zIl rfl) ?_
        refine x_istore_n (zdm d_Md_meet_0 18 rfl) rfl (zlt rfl) rfl ?_
        exact zX.sub [1, 2, 3, 0] rfl H
      · have H := H.2 c
        refine x_iconst (zdm d_Md_meet_0 13 rfl) (zIl rfl) ?_
        exact x_iret (zdm d_Md_meet_0 14 rfl) rfl H
set_option maxRecDepth 20000 in
set_option maxHeartbeats 4000000 in
theorem B_Md_marks_82 {G : zG} {h sl : Nat} (hsl : 2 ≤ sl) {u : Nat × Nat × Nat × Nat} {l1 l2 l3 l4 l5 l6 l7 : Int} {M : zM} {Q : Int → zM → Prop} (H : (0 ≤ l7 ∧ l7 < 201) ∧ ((¬ (M 169 l7) = 0 → (¬ l3 = 0 → (zI (l3 + 1)) ∧ ((zI (l7 + 1)) ∧ (zX G (y_Md_marks, h + 1, sl) u 45 [(0, (2, 125)), (1, (0, l1)), (2, (0, l2)), (3, (0, (l3 + 1))), (4, (0, l4)), (5, (0, l5)), (6, (0, l6)), (7, (0, (l7 + 1)))] [] M Q))) ∧ (¬ (¬ l3 = 0) → (zI (l3 + 1)) ∧ ((zI (l7 + 1)) ∧ (zX G (y_Md_marks, h + 1, sl) u 45 [(0, (2, 125)), (1, (0, l1)), (2, (0, l2)), (3, (0, (l3 + 1))), (4, (0, l7)), (5, (0, l5)), (6, (0, l6)), (7, (0, (l7 + 1)))] [] M Q)))) ∧ (¬ (¬ (M 169 l7) = 0) → (zI (l7 + 1)) ∧ (zX G (y_Md_marks, h + 1, sl) u 45 [(0, (2, 125)), (1, (0, l1)), (2, (0, l2)), (3, (0, l3)), (4, (0, l4)), (5, (0, l5)), (6, (0, l6)), (7, (0, (l7 + 1)))] [] M Q)))) : zX G (y_Md_marks, h + 1, sl) u 82 [(0, (2, 125)), (1, (0, l1)), (2, (0, l2)), (3, (0, l3)), (4, (0, l4)), (5, (0, l5)), (6, (0, l6)), (7, (0, l7))] [] M Q := by
  refine x_aload_n (zdm d_Md_marks_0 46 rfl) rfl (n := 0) rfl ?_
  refine x_getG (zdm d_Md_marks_0 47 rfl) f_Md_145 rfl rfl (by decide) hsl rfl ?_
  refine x_iload (zdm d_Md_marks_0 48 rfl) (n := 7) rfl ?_
  obtain ⟨g1, H⟩ := H
  refine x_zald (zdm d_Md_marks_0 49 rfl) rfl g1 ?_
  refine x_ifne (tgt := 95) (zdm d_Md_marks_0 50 rfl) (by decide) (fun c => ?_) (fun c => ?_)
  · have H := H.1 c
    refine x_iload_n (zdm d_Md_marks_0 52 rfl) rfl (n := 3) rfl ?_
    refine x_ifne (tgt := 103) (zdm d_Md_marks_0 53 rfl) (by decide) (fun c => ?_) (fun c => ?_)
    · have H := H.1 c
      obtain ⟨g2, H⟩ := H
      refine x_iinc (zdm d_Md_marks_0 56 rfl) (n := 3) rfl g2 (zlt rfl) rfl ?_
      obtain ⟨g3, H⟩ := H
      refine x_iinc (zdm d_Md_marks_0 57 rfl) (n := 7) rfl g3 (zlt rfl) rfl ?_
      refine x_goto (tgt := 45) (zdm d_Md_marks_0 58 rfl) (by decide) ?_
      exact zX.sub [2, 3, 4, 1, 5, 6, 7, 0] rfl H
    · have H := H.2 c
      refine x_iload (zdm d_Md_marks_0 54 rfl) (n := 7) rfl ?_
      refine x_istore (zdm d_Md_marks_0 55 rfl) (zlt rfl) rfl ?_
      obtain ⟨g4, H⟩ := H
      refine x_iinc (zdm d_Md_marks_0 56 rfl) (n := 4) rfl g4 (zlt rfl) rfl ?_
      obtain ⟨g5, H⟩ := H
      refine x_iinc (zdm d_Md_marks_0 57 rfl) (n := 7) rfl g5 (zlt rfl) rfl ?_
      refine x_goto (tgt := 45) (zdm d_Md_marks_0 58 rfl) (by decide) ?_
      exact zX.sub [3, 4, 5, 1, 2, 6, 7, 0] rfl H
  · have H := H.2 c
    refine x_goto (tgt := 106) (zdm d_Md_marks_0 51 rfl) (by decide) ?_
    obtain ⟨g6, H⟩ := H
    refine x_iinc (zdm d_Md_marks_0 57 rfl) (n := 7) rfl g6 (zlt rfl) rfl ?_
    refine x_goto (tgt := 45) (zdm d_Md_marks_0 58 rfl) (by decide) ?_
    exact zX.sub [1, 2, 3, 4, 5, 6, 7, 0] rfl H
set_option maxRecDepth 20000 in
set_option maxHeartbeats 4000000 in
theorem B_Md_marks_45 {G : zG} {h sl : Nat} (hsl : 2 ≤ sl) {u : Nat × Nat × Nat × Nat} {l1 l2 l3 l4 l5 l6 l7 : Int} {M : zM} {Q : Int → zM → Prop} (H : (l1 < l7 → (¬ l2 = 0 → (¬ l2 = 1 → Q l6 M) ∧ (¬ (¬ l2 = 1) → Q l4 M)) ∧ (¬ (¬ l2 = 0) → Q l3 M)) ∧ (¬ l1 < l7 → (0 ≤ l7 ∧ l7 < 201) ∧ (((M 169 l7) = 0 → (zI (l5 + 1)) ∧ (((l5 + 1) ≤ l6 → zX G (y_Md_marks, h + 1, sl) u 82 [(0, (2, 125)), (1, (0, l1)), (2, (0, l2)), (3, (0, l3)), (4, (0, l4)), (5, (0, (l5 + 1))), (6, (0, l6)), (7, (0, l7))] [] M Q) ∧ (¬ (l5 + 1) ≤ l6 → zX G (y_Md_marks, h + 1, sl) u 82 [(0, (2, 125)), (1, (0, l1)), (2, (0, l2)), (3, (0, l3)), (4, (0, l4)), (5, (0, (l5 + 1))), (6, (0, (l5 + 1))), (7, (0, l7))] [] M Q))) ∧ (¬ (M 169 l7) = 0 → (0 ≤ l6 → zX G (y_Md_marks, h + 1, sl) u 82 [(0, (2, 125)), (1, (0, l1)), (2, (0, l2)), (3, (0, l3)), (4, (0, l4)), (5, (0, 0)), (6, (0, l6)), (7, (0, l7))] [] M Q) ∧ (¬ 0 ≤ l6 → zX G (y_Md_marks, h + 1, sl) u 82 [(0, (2, 125)), (1, (0, l1)), (2, (0, l2)), (3, (0, l3)), (4, (0, l4)), (5, (0, 0)), (6, (0, 0)), (7, (0, l7))] [] M Q))))) : zX G (y_Md_marks, h + 1, sl) u 45 [(0, (2, 125)), (1, (0, l1)), (2, (0, l2)), (3, (0, l3)), (4, (0, l4)), (5, (0, l5)), (6, (0, l6)), (7, (0, l7))] [] M Q := by
  refine x_iload (zdm d_Md_marks_0 27 rfl) (n := 7) rfl ?_
  refine x_iload_n (zdm d_Md_marks_0 28 rfl) rfl (n := 1) rfl ?_
  refine x_icmpgt (tgt := 112) (zdm d_Md_marks_0 29 rfl) (by decide) (fun c => ?_) (fun c => ?_)
  · have H := H.1 c
    refine x_iload_n (zdm d_Md_marks_0 59 rfl) rfl (n := 2) rfl ?_
    refine x_ifne (tgt := 120) (zdm d_Md_marks_1 0 rfl) (by decide) (fun c => ?_) (fun c => ?_)
    · have H := H.1 c
      refine x_iload_n (zdm d_Md_marks_1 3 rfl) rfl (n := 2) rfl ?_
      refine x_iconst (zdm d_Md_marks_1 4 rfl) (zIl rfl) ?_
      refine x_icmpne (tgt := 130) (zdm d_Md_marks_1 5 rfl) (by decide) (fun c => ?_) (fun c => ?_)
      · have H := H.1 c
        refine x_iload (zdm d_Md_marks_1 8 rfl) (n := 6) rfl ?_
        exact x_iret (zdm d_Md_marks_1 9 rfl) rfl H
      · have H := H.2 c
        refine x_iload (zdm d_Md_marks_1 6 rfl) (n := 4) rfl ?_
        refine x_goto (tgt := 132) (zdm d_Md_marks_1 7 rfl) (by decide) ?_
        exact x_iret (zdm d_Md_marks_1 9 rfl) rfl H
    · have H := H.2 c
      refine x_iload_n (zdm d_Md_marks_1 1 rfl) rfl (n := 3) rfl ?_
      refine x_goto (tgt := 132) (zdm d_Md_marks_1 2 rfl) (by decide) ?_
      exact x_iret (zdm d_Md_marks_1 9 rfl) rfl H
  · have H := H.2 c
    refine x_aload_n (zdm d_Md_marks_0 30 rfl) rfl (n := 0) rfl ?_
    refine x_getG (zdm d_Md_marks_0 31 rfl) f_Md_145 rfl rfl (by decide) hsl rfl ?_
    refine x_iload (zdm d_Md_marks_0 32 rfl) (n := 7) rfl ?_
    obtain ⟨g1, H⟩ := H
    refine x_zald (zdm d_Md_marks_0 33 rfl) rfl g1 ?_
    refine x_ifeq (tgt := 65) (zdm d_Md_marks_0 34 rfl) (by decide) (fun c => ?_) (fun c => ?_)
    · have H := H.1 c
      refine x_iload (zdm d_Md_marks_0 37 rfl) (n := 5) rfl ?_
      refine x_iconst (zdm d_Md_marks_0 38 rfl) (zIl rfl) ?_
      obtain ⟨g2, H⟩ := H
      refine x_iadd (zdm d_Md_marks_0 39 rfl) g2 ?_
      refine x_istore (zdm d_Md_marks_0 40 rfl) (zlt rfl) rfl ?_
      refine x_iload (zdm d_Md_marks_0 41 rfl) (n := 0) rfl ?_
      refine x_iload (zdm d_Md_marks_0 42 rfl) (n := 6) rfl ?_
      refine x_icmple (tgt := 82) (zdm d_Md_marks_0 43 rfl) (by decide) (fun c => ?_) (fun c => ?_)
      · have H := H.1 c
        exact zX.sub [1, 2, 3, 4, 5, 0, 6, 7] rfl H
      · have H := H.2 c
        refine x_iload (zdm d_Md_marks_0 44 rfl) (n := 0) rfl ?_
        refine x_istore (zdm d_Md_marks_0 45 rfl) (zlt rfl) rfl ?_
        exact zX.sub [2, 3, 4, 5, 6, 1, 0, 7] rfl H
    · have H := H.2 c
      refine x_iconst (zdm d_Md_marks_0 35 rfl) (zIl rfl) ?_
      refine x_goto (tgt := 69) (zdm d_Md_marks_0 36 rfl) (by decide) ?_
      refine x_istore (zdm d_Md_marks_0 40 rfl) (zlt rfl) rfl ?_
      refine x_iload (zdm d_Md_marks_0 41 rfl) (n := 0) rfl ?_
      refine x_iload (zdm d_Md_marks_0 42 rfl) (n := 6) rfl ?_
      refine x_icmple (tgt := 82) (zdm d_Md_marks_0 43 rfl) (by decide) (fun c => ?_) (fun c => ?_)
      · have H := H.1 c
        exact zX.sub [1, 2, 3, 4, 5, 0, 6, 7] rfl H
      · have H := H.2 c
        refine x_iload (zdm d_Md_marks_0 44 rfl) (n := 0) rfl ?_
        refine x_istore (zdm d_Md_marks_0 45 rfl) (zlt rfl) rfl ?_
        exact zX.sub [2, 3, 4, 5, 6, 1, 0, 7] rfl H
set_option maxRecDepth 20000 in
set_option maxHeartbeats 4000000 in
theorem E_Md_marks {G : zG} {h sl : Nat} (hsl : 2 ≤ sl) {l1 l2 : Int} {M : zM} {Q : Int → zM → Prop} (H : zCt G h sl 0 0 y_Md_isAhead [(2, 125), (1, l1), (0, 1), (0, 200)] M (fun r1 M2 => (r1 = 0 → Q (-1) M2) ∧ (¬ r1 = 0 → zCt G h sl 0 0 y_Md_isIn [(1, l2), (1, 0), (1, 2)] M2 (fun r4 M5 => (¬ r4 = 0 → zCt G h sl 0 0 y_Md_laysAhead [(2, 125)] M5 (fun r7 M8 => zX G (y_Md_marks, h + 1, sl) (0, 0, 0, 0) 45 [(0, (2, 125)), (1, (0, l1)), (2, (0, l2)), (3, (0, 0)), (4, (0, 0)), (5, (0, 0)), (6, (0, 0)), (7, (0, 1))] [] M8 Q)) ∧ (¬ (¬ r4 = 0) → Q (-1) M5))))) : zCt G (h + 1) sl 0 0 y_Md_marks [(2, 125), (0, l1), (0, l2)] M Q := by
  refine zCt.of (by decide +kernel) (Nat.le_of_ble_eq_true rfl) ?_
  refine x_aload_n (zdm d_Md_marks_0 0 rfl) rfl (n := 0) rfl ?_
  refine x_iload_n (zdm d_Md_marks_0 1 rfl) rfl (n := 1) rfl ?_
  refine x_i2l (zdm d_Md_marks_0 2 rfl) ?_
  refine x_iconst (zdm d_Md_marks_0 3 rfl) (zIl rfl) ?_
  refine x_sipush (zdm d_Md_marks_0 4 rfl) (by decide) ?_
  refine x_callVi (n := 3) (ci := 11) (zdm d_Md_marks_0 5 rfl) k_Md_489 (As := [(1, l1), (0, 1), (0, 200)]) rfl rfl rfl ⟨_, _, rfl⟩ (Nat.le_of_ble_eq_true rfl) trivial H (fun r1 M2 hr H => ?_)
  have b3 : r1 = 0 ∨ r1 = 1 := hr
  refine x_ifeq (tgt := 25) (zdm d_Md_marks_0 6 rfl) (by decide) (fun c => ?_) (fun c => ?_)
  · have H := H.1 c
    refine x_iconst (zdm d_Md_marks_0 13 rfl) (zIl rfl) ?_
    exact x_iret (zdm d_Md_marks_0 14 rfl) rfl H
  · have H := H.2 c
    refine x_iload_n (zdm d_Md_marks_0 7 rfl) rfl (n := 2) rfl ?_
    refine x_i2l (zdm d_Md_marks_0 8 rfl) ?_
    refine x_lconst (zdm d_Md_marks_0 9 rfl) (x := 0) rfl ?_
    refine x_ldc2 (zdm d_Md_marks_0 10 rfl) (n := 2) (zLl rfl) w_Md_498 ?_
    refine x_callSi (n := 3) (zdm d_Md_marks_0 11 rfl) k_Md_280 (As := [(1, l2), (1, 0), (1, 2)]) rfl rfl (Nat.le_of_ble_eq_true rfl) trivial H (fun r4 M5 hr H => ?_)
    have b6 : r4 = 0 ∨ r4 = 1 := hr
    refine x_ifne (tgt := 27) (zdm d_Md_marks_0 12 rfl) (by decide) (fun c => ?_) (fun c => ?_)
    · have H := H.1 c
      refine x_iconst (zdm d_Md_marks_0 15 rfl) (zIl rfl) ?_
      refine x_istore_n (zdm d_Md_marks_0 16 rfl) rfl (zlt rfl) rfl ?_
      refine x_iconst (zdm d_Md_marks_0 17 rfl) (zIl rfl) ?_
      refine x_istore (zdm d_Md_marks_0 18 rfl) (zlt rfl) rfl ?_
      refine x_iconst (zdm d_Md_marks_0 19 rfl) (zIl rfl) ?_
      refine x_istore (zdm d_Md_marks_0 20 rfl) (zlt rfl) rfl ?_
      refine x_iconst (zdm d_Md_marks_0 21 rfl) (zIl rfl) ?_
      refine x_istore (zdm d_Md_marks_0 22 rfl) (zlt rfl) rfl ?_
      refine x_aload_n (zdm d_Md_marks_0 23 rfl) rfl (n := 4) rfl ?_
      refine x_callVv (n := 0) (ci := 11) (zdm d_Md_marks_0 24 rfl) k_Md_493 (As := []) rfl rfl rfl ⟨_, _, rfl⟩ (Nat.le_of_ble_eq_true rfl) rfl H (fun r7 M8 hr H => ?_)
      refine x_iconst (zdm d_Md_marks_0 25 rfl) (zIl rfl) ?_
      refine x_istore (zdm d_Md_marks_0 26 rfl) (zlt rfl) rfl ?_
      exact zX.sub [5, 6, 7, 4, 3, 2, 1, 0] rfl H
    · have H := H.2 c
      refine x_iconst (zdm d_Md_marks_0 13 rfl) (zIl rfl) ?_
      exact x_iret (zdm d_Md_marks_0 14 rfl) rfl H
set_option maxRecDepth 20000 in
set_option maxHeartbeats 4000000 in
theorem E_Md_setsRight {G : zG} {h sl : Nat} (hsl : 2 ≤ sl) {l1 : Int} {M : zM} {Q : Int → zM → Prop} (H : (zI (1 + l1)) ∧ (zCt G h sl 0 0 y_Md_trueOf [(2, 125), (0, (M 164 0)), (0, l1)] M (fun r2 M3 => (0 ≤ (1 + l1) ∧ (1 + l1) < 98) ∧ ((zI (9 + l1)) ∧ ((zI (8 * ((zwr M3 164 (1 + l1) r2) 164 0))) ∧ ((zI ((8 * ((zwr M3 164 (1 + l1) r2) 164 0)) + l1)) ∧ ((0 ≤ ((8 * ((zwr M3 164 (1 + l1) r2) 164 0)) + l1) ∧ ((8 * ((zwr M3 164 (1 + l1) r2) 164 0)) + l1) < 8000) ∧ ((0 ≤ (9 + l1) ∧ (9 + l1) < 98) ∧ (Q 0 (zwr (zwr M3 164 (1 + l1) r2) 164 (9 + l1) ((zwr M3 164 (1 + l1) r2) 166 ((8 * ((zwr M3 164 (1 + l1) r2) 164 0)) + l1)))))))))))) : zCt G (h + 1) sl 0 0 y_Md_setsRight [(2, 125), (0, l1)] M Q := by
  refine zCt.of (by decide +kernel) (Nat.le_of_ble_eq_true rfl) ?_
  refine x_aload_n (zdm d_Md_setsRight_0 0 rfl) rfl (n := 0) rfl ?_
  refine x_getG (zdm d_Md_setsRight_0 1 rfl) f_Md_130 rfl rfl (by decide) hsl rfl ?_
  refine x_iconst (zdm d_Md_setsRight_0 2 rfl) (zIl rfl) ?_
  refine x_iload_n (zdm d_Md_setsRight_0 3 rfl) rfl (n := 1) rfl ?_
  obtain ⟨g1, H⟩ := H
  refine x_iadd (zdm d_Md_setsRight_0 4 rfl) g1 ?_
  refine x_aload_n (zdm d_Md_setsRight_0 5 rfl) rfl (n := 0) rfl ?_
  refine x_aload_n (zdm d_Md_setsRight_0 6 rfl) rfl (n := 0) rfl ?_
  refine x_getG (zdm d_Md_setsRight_0 7 rfl) f_Md_130 rfl rfl (by decide) hsl rfl ?_
  refine x_iconst (zdm d_Md_setsRight_0 8 rfl) (zIl rfl) ?_
  refine x_iald (zdm d_Md_setsRight_0 9 rfl) rfl ⟨by decide, by decide⟩ ?_
  refine x_iload_n (zdm d_Md_setsRight_0 10 rfl) rfl (n := 1) rfl ?_
  refine x_callVi (n := 2) (ci := 11) (zdm d_Md_setsRight_0 11 rfl) k_Md_449 (As := [(0, (M 164 0)), (0, l1)]) rfl rfl rfl ⟨_, _, rfl⟩ (Nat.le_of_ble_eq_true rfl) trivial H (fun r2 M3 hr H => ?_)
  obtain ⟨g4, H⟩ := H
  refine x_iast (zdm d_Md_setsRight_0 12 rfl) rfl g4 ?_
  refine x_aload_n (zdm d_Md_setsRight_0 13 rfl) rfl (n := 0) rfl ?_
  refine x_getG (zdm d_Md_setsRight_0 14 rfl) f_Md_130 rfl rfl (by decide) hsl rfl ?_
  refine x_bipush (zdm d_Md_setsRight_0 15 rfl) (by decide) ?_
  refine x_iload_n (zdm d_Md_setsRight_0 16 rfl) rfl (n := 1) rfl ?_
  obtain ⟨g5, H⟩ := H
  refine x_iadd (zdm d_Md_setsRight_0 17 rfl) g5 ?_
  refine x_aload_n (zdm d_Md_setsRight_0 18 rfl) rfl (n := 0) rfl ?_
  refine x_getG (zdm d_Md_setsRight_0 19 rfl) f_Md_136 rfl rfl (by decide) hsl rfl ?_
  refine x_bipush (zdm d_Md_setsRight_0 20 rfl) (by decide) ?_
  refine x_aload_n (zdm d_Md_setsRight_0 21 rfl) rfl (n := 0) rfl ?_
  refine x_getG (zdm d_Md_setsRight_0 22 rfl) f_Md_130 rfl rfl (by decide) hsl rfl ?_
  refine x_iconst (zdm d_Md_setsRight_0 23 rfl) (zIl rfl) ?_
  refine x_iald (zdm d_Md_setsRight_0 24 rfl) rfl ⟨by decide, by decide⟩ ?_
  obtain ⟨g6, H⟩ := H
  refine x_imul (zdm d_Md_setsRight_0 25 rfl) g6 ?_
  refine x_iload_n (zdm d_Md_setsRight_0 26 rfl) rfl (n := 1) rfl ?_
  obtain ⟨g7, H⟩ := H
  refine x_iadd (zdm d_Md_setsRight_0 27 rfl) g7 ?_
  obtain ⟨g8, H⟩ := H
  refine x_iald (zdm d_Md_setsRight_0 28 rfl) rfl g8 ?_
  obtain ⟨g9, H⟩ := H
  refine x_iast (zdm d_Md_setsRight_0 29 rfl) rfl g9 ?_
  exact x_return (zdm d_Md_setsRight_0 30 rfl) rfl H
