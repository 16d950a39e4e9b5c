set_option maxRecDepth 20000 in
set_option maxHeartbeats 4000000 in
theorem B_Tape_add_3 {G : zG} {h sl : Nat} (hsl : 1 ≤ sl) {u : Nat × Nat × Nat × Nat} {l1 l2 : Int} {M : zM} {Q : Int → zM → Prop} (H : (l2 < 0 → Q 0 M) ∧ (¬ l2 < 0 → (1600 ≤ (M 2 1) → Q 0 M) ∧ (¬ 1600 ≤ (M 2 1) → (0 ≤ (M 2 1) ∧ (M 2 1) < 1600) ∧ ((zI (((zwr M 3 (M 2 1) (zand (zshr l1 l2) 255)) 2 1) + 1)) ∧ ((zI (l2 + (-8))) ∧ (zX G (y_Tape_add, h, sl) u 3 [(0, (2, 2)), (1, (0, l1)), (2, (0, (l2 + (-8))))] [] (zwr (zwr M 3 (M 2 1) (zand (zshr l1 l2) 255)) 2 1 (((zwr M 3 (M 2 1) (zand (zshr l1 l2) 255)) 2 1) + 1)) Q)))))) : zX G (y_Tape_add, h, sl) u 3 [(0, (2, 2)), (1, (0, l1)), (2, (0, l2))] [] M Q := by
  refine x_iload_n (zdm d_Tape_add_0 2 rfl) rfl (n := 2) rfl ?_
  refine x_iflt (tgt := 49) (zdm d_Tape_add_0 3 rfl) (by decide) (fun c => ?_) (fun c => ?_)
  · have H := H.1 c
    exact x_return (zdm d_Tape_add_0 26 rfl) rfl H
  · have H := H.2 c
    refine x_aload_n (zdm d_Tape_add_0 4 rfl) rfl (n := 0) rfl ?_
    refine x_getf (zdm d_Tape_add_0 5 rfl) f_Tape_13 rfl rfl ?_
    refine x_sipush (zdm d_Tape_add_0 6 rfl) (by decide) ?_
    refine x_icmpge (tgt := 49) (zdm d_Tape_add_0 7 rfl) (by decide) (fun c => ?_) (fun c => ?_)
    · have H := H.1 c
      exact x_return (zdm d_Tape_add_0 26 rfl) rfl H
    · have H := H.2 c
      refine x_aload_n (zdm d_Tape_add_0 8 rfl) rfl (n := 0) rfl ?_
      refine x_getG (zdm d_Tape_add_0 9 rfl) f_Tape_9 rfl rfl (by decide) hsl rfl ?_
      refine x_aload_n (zdm d_Tape_add_0 10 rfl) rfl (n := 0) rfl ?_
      refine x_getf (zdm d_Tape_add_0 11 rfl) f_Tape_13 rfl rfl ?_
      refine x_iload_n (zdm d_Tape_add_0 12 rfl) rfl (n := 1) rfl ?_
      refine x_iload_n (zdm d_Tape_add_0 13 rfl) rfl (n := 2) rfl ?_
      refine x_ishr (zdm d_Tape_add_0 14 rfl) ?_
      refine x_sipush (zdm d_Tape_add_0 15 rfl) (by decide) ?_
      refine x_iand (zdm d_Tape_add_0 16 rfl) ?_
      obtain ⟨g1, H⟩ := H
      refine x_iast (zdm d_Tape_add_0 17 rfl) rfl g1 ?_
      refine x_aload_n (zdm d_Tape_add_0 18 rfl) rfl (n := 0) rfl ?_
      refine x_dup (zdm d_Tape_add_0 19 rfl) z2n1 ?_
      refine x_getf (zdm d_Tape_add_0 20 rfl) f_Tape_13 rfl rfl ?_
      refine x_iconst (zdm d_Tape_add_0 21 rfl) (zIl rfl) ?_
      obtain ⟨g2, H⟩ := H
      refine x_iadd (zdm d_Tape_add_0 22 rfl) g2 ?_
      refine x_putf (zdm d_Tape_add_0 23 rfl) f_Tape_13 rfl ⟨rfl, trivial⟩ (Or.inl rfl) ?_
      obtain ⟨g3, H⟩ := H
      refine x_iinc (zdm d_Tape_add_0 24 rfl) (n := 2) rfl g3 (zlt rfl) rfl ?_
      refine x_goto (tgt := 3) (zdm d_Tape_add_0 25 rfl) (by decide) ?_
      exact zX.sub [1, 2, 0] rfl H
set_option maxRecDepth 20000 in
set_option maxHeartbeats 4000000 in
theorem E_Tape_add {G : zG} {h sl : Nat} (hsl : 1 ≤ sl) {l1 : Int} {M : zM} {Q : Int → zM → Prop} (H : zX G (y_Tape_add, h, sl) (0, 0, 0, 0) 3 [(0, (2, 2)), (1, (0, l1)), (2, (0, 24))] [] M Q) : zCt G h sl 0 0 y_Tape_add [(2, 2), (0, l1)] M Q := by
  refine zCt.of (by decide +kernel) (Nat.le_of_ble_eq_true rfl) ?_
  refine x_bipush (zdm d_Tape_add_0 0 rfl) (by decide) ?_
  refine x_istore_n (zdm d_Tape_add_0 1 rfl) rfl (zlt rfl) rfl ?_
  exact zX.sub [1, 2, 0] rfl H
set_option maxRecDepth 20000 in
set_option maxHeartbeats 4000000 in
theorem E_Tape_pair {G : zG} {h sl : Nat} (hsl : 1 ≤ sl) {l1 : Int} {M : zM} {Q : Int → zM → Prop} (H : (l1 < 0 → Q 0 M) ∧ (¬ l1 < 0 → (zI (l1 + 1)) ∧ (((l1 + 1) < (M 2 1) → (0 ≤ l1 ∧ l1 < 1600) ∧ ((zI ((M 3 l1) * 256)) ∧ ((0 ≤ (l1 + 1) ∧ (l1 + 1) < 1600) ∧ ((zI (((M 3 l1) * 256) + (M 3 (l1 + 1)))) ∧ (Q (((M 3 l1) * 256) + (M 3 (l1 + 1))) M))))) ∧ (¬ (l1 + 1) < (M 2 1) → Q 0 M)))) : zCt G h sl 0 0 y_Tape_pair [(2, 2), (0, l1)] M Q := by
  refine zCt.of (by decide +kernel) (Nat.le_of_ble_eq_true rfl) ?_
  refine x_iload_n (zdm d_Tape_pair_0 0 rfl) rfl (n := 1) rfl ?_
  refine x_iflt (tgt := 14) (zdm d_Tape_pair_0 1 rfl) (by decide) (fun c => ?_) (fun c => ?_)
  · have H := H.1 c
    refine x_iconst (zdm d_Tape_pair_0 8 rfl) (zIl rfl) ?_
    exact x_iret (zdm d_Tape_pair_0 9 rfl) rfl H
  · have H := H.2 c
    refine x_iload_n (zdm d_Tape_pair_0 2 rfl) rfl (n := 1) rfl ?_
    refine x_iconst (zdm d_Tape_pair_0 3 rfl) (zIl rfl) ?_
    obtain ⟨g1, H⟩ := H
    refine x_iadd (zdm d_Tape_pair_0 4 rfl) g1 ?_
    refine x_aload_n (zdm d_Tape_pair_0 5 rfl) rfl (n := 0) rfl ?_
    refine x_getf (zdm d_Tape_pair_0 6 rfl) f_Tape_13 rfl rfl ?_
    refine x_icmplt (tgt := 16) (zdm d_Tape_pair_0 7 rfl) (by decide) (fun c => ?_) (fun c => ?_)
    · have H := H.1 c
      refine x_aload_n (zdm d_Tape_pair_0 10 rfl) rfl (n := 0) rfl ?_
      refine x_getG (zdm d_Tape_pair_0 11 rfl) f_Tape_9 rfl rfl (by decide) hsl rfl ?_
      refine x_iload_n (zdm d_Tape_pair_0 12 rfl) rfl (n := 1) rfl ?_
      obtain ⟨g2, H⟩ := H
      refine x_iald (zdm d_Tape_pair_0 13 rfl) rfl g2 ?_
      refine x_sipush (zdm d_Tape_pair_0 14 rfl) (by decide) ?_
      obtain ⟨g3, H⟩ := H
      refine x_imul (zdm d_Tape_pair_0 15 rfl) g3 ?_
      refine x_aload_n (zdm d_Tape_pair_0 16 rfl) rfl (n := 0) rfl ?_
      refine x_getG (zdm d_Tape_pair_0 17 rfl) f_Tape_9 rfl rfl (by decide) hsl rfl ?_
      refine x_iload_n (zdm d_Tape_pair_0 18 rfl) rfl (n := 1) rfl ?_
      refine x_iconst (zdm d_Tape_pair_0 19 rfl) (zIl rfl) ?_
      refine x_iadd (zdm d_Tape_pair_0 20 rfl) g1 ?_
      obtain ⟨g4, H⟩ := H
      refine x_iald (zdm d_Tape_pair_0 21 rfl) rfl g4 ?_
      obtain ⟨g5, H⟩ := H
      refine x_iadd (zdm d_Tape_pair_0 22 rfl) g5 ?_
      exact x_iret (zdm d_Tape_pair_0 23 rfl) rfl H
    · have H := H.2 c
      refine x_iconst (zdm d_Tape_pair_0 8 rfl) (zIl rfl) ?_
      exact x_iret (zdm d_Tape_pair_0 9 rfl) rfl H
