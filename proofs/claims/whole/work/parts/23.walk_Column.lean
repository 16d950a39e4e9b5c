set_option maxRecDepth 20000 in
set_option maxHeartbeats 4000000 in
theorem E_Column_clear {G : zG} {h sl : Nat} (hsl : 1 ≤ sl) {l0 l1 : Int} {M : zM} {Q : Int → zM → Prop} (H : (zK l0 = (1, 0)) ∧ (Q 0 (zwr (zwr (zwr (zwr (zwr (zwr (zwr (zwr (zwr (zwr M l0 1 l1) l0 2 0) l0 3 0) l0 4 0) l0 5 0) l0 6 0) l0 7 0) l0 8 0) l0 9 0) l0 10 0))) : zCt G h sl 0 0 y_Column_clear [(2, l0), (0, l1)] M Q := by
  refine zCt.of (by decide +kernel) (Nat.le_of_ble_eq_true rfl) ?_
  refine x_aload_n (zdm d_Column_clear_0 0 rfl) rfl (n := 0) rfl ?_
  refine x_iload_n (zdm d_Column_clear_0 1 rfl) rfl (n := 1) rfl ?_
  obtain ⟨g1, H⟩ := H
  refine x_putf (zdm d_Column_clear_0 2 rfl) f_Column_15 g1 ⟨rfl, trivial⟩ (Or.inl rfl) ?_
  refine x_aload_n (zdm d_Column_clear_0 3 rfl) rfl (n := 0) rfl ?_
  refine x_iconst (zdm d_Column_clear_0 4 rfl) (zIl rfl) ?_
  refine x_putf (zdm d_Column_clear_0 5 rfl) f_Column_19 g1 ⟨rfl, trivial⟩ (Or.inl rfl) ?_
  refine x_aload_n (zdm d_Column_clear_0 6 rfl) rfl (n := 0) rfl ?_
  refine x_iconst (zdm d_Column_clear_0 7 rfl) (zIl rfl) ?_
  refine x_putf (zdm d_Column_clear_0 8 rfl) f_Column_22 g1 ⟨rfl, trivial⟩ (Or.inl rfl) ?_
  refine x_aload_n (zdm d_Column_clear_0 9 rfl) rfl (n := 0) rfl ?_
  refine x_iconst (zdm d_Column_clear_0 10 rfl) (zIl rfl) ?_
  refine x_putf (zdm d_Column_clear_0 11 rfl) f_Column_25 g1 ⟨rfl, trivial⟩ (Or.inl rfl) ?_
  refine x_aload_n (zdm d_Column_clear_0 12 rfl) rfl (n := 0) rfl ?_
  refine x_iconst (zdm d_Column_clear_0 13 rfl) (zIl rfl) ?_
  refine x_putf (zdm d_Column_clear_0 14 rfl) f_Column_28 g1 ⟨rfl, (Or.inl rfl)⟩ (Or.inl rfl) ?_
  refine x_aload_n (zdm d_Column_clear_0 15 rfl) rfl (n := 0) rfl ?_
  refine x_iconst (zdm d_Column_clear_0 16 rfl) (zIl rfl) ?_
  refine x_putf (zdm d_Column_clear_0 17 rfl) f_Column_32 g1 ⟨rfl, trivial⟩ (Or.inl rfl) ?_
  refine x_aload_n (zdm d_Column_clear_0 18 rfl) rfl (n := 0) rfl ?_
  refine x_iconst (zdm d_Column_clear_0 19 rfl) (zIl rfl) ?_
  refine x_putf (zdm d_Column_clear_0 20 rfl) f_Column_35 g1 ⟨rfl, trivial⟩ (Or.inl rfl) ?_
  refine x_aload_n (zdm d_Column_clear_0 21 rfl) rfl (n := 0) rfl ?_
  refine x_iconst (zdm d_Column_clear_0 22 rfl) (zIl rfl) ?_
  refine x_putf (zdm d_Column_clear_0 23 rfl) f_Column_38 g1 ⟨rfl, trivial⟩ (Or.inl rfl) ?_
  refine x_aload_n (zdm d_Column_clear_0 24 rfl) rfl (n := 0) rfl ?_
  refine x_iconst (zdm d_Column_clear_0 25 rfl) (zIl rfl) ?_
  refine x_putf (zdm d_Column_clear_0 26 rfl) f_Column_41 g1 ⟨rfl, trivial⟩ (Or.inl rfl) ?_
  refine x_aload_n (zdm d_Column_clear_0 27 rfl) rfl (n := 0) rfl ?_
  refine x_iconst (zdm d_Column_clear_0 28 rfl) (zIl rfl) ?_
  refine x_putf (zdm d_Column_clear_0 29 rfl) f_Column_44 g1 ⟨rfl, trivial⟩ (Or.inl rfl) ?_
  exact x_return (zdm d_Column_clear_0 30 rfl) rfl H
set_option maxRecDepth 20000 in
set_option maxHeartbeats 4000000 in
theorem E_Column_moves {G : zG} {h sl : Nat} (hsl : 1 ≤ sl) {l0 : Int} {M : zM} {Q : Int → zM → Prop} (H : (zK l0 = (1, 0)) ∧ (((M l0 1) = 3 → Q 0 M) ∧ (¬ (M l0 1) = 3 → Q 1 M))) : zCt G h sl 0 0 y_Column_moves [(2, l0)] M Q := by
  refine zCt.of (by decide +kernel) (Nat.le_of_ble_eq_true rfl) ?_
  refine x_aload_n (zdm d_Column_moves_0 0 rfl) rfl (n := 0) rfl ?_
  obtain ⟨g1, H⟩ := H
  refine x_getf (zdm d_Column_moves_0 1 rfl) f_Column_15 g1 rfl ?_
  refine x_iconst (zdm d_Column_moves_0 2 rfl) (zIl rfl) ?_
  refine x_icmpeq (tgt := 12) (zdm d_Column_moves_0 3 rfl) (by decide) (fun c => ?_) (fun c => ?_)
  · have H := H.1 c
    refine x_iconst (zdm d_Column_moves_0 6 rfl) (zIl rfl) ?_
    exact x_ireturn (zdm d_Column_moves_0 7 rfl) (ty := .boolean) rfl (by decide) (Or.inl rfl) H
  · have H := H.2 c
    refine x_iconst (zdm d_Column_moves_0 4 rfl) (zIl rfl) ?_
    refine x_goto (tgt := 13) (zdm d_Column_moves_0 5 rfl) (by decide) ?_
    exact x_ireturn (zdm d_Column_moves_0 7 rfl) (ty := .boolean) rfl (by decide) (Or.inr rfl) H
set_option maxRecDepth 20000 in
set_option maxHeartbeats 4000000 in
theorem E_Column_canTell {G : zG} {h sl : Nat} (hsl : 1 ≤ sl) {l0 l1 : Int} {M : zM} {Q : Int → zM → Prop} (H : (zK l0 = (1, 0)) ∧ ((l1 < (M l0 2) → Q 0 M) ∧ (¬ l1 < (M l0 2) → ((M l0 3) < l1 → Q 0 M) ∧ (¬ (M l0 3) < l1 → Q 1 M)))) : zCt G h sl 0 0 y_Column_canTell [(2, l0), (0, l1)] M Q := by
  refine zCt.of (by decide +kernel) (Nat.le_of_ble_eq_true rfl) ?_
  refine x_iload_n (zdm d_Column_canTell_0 0 rfl) rfl (n := 1) rfl ?_
  refine x_aload_n (zdm d_Column_canTell_0 1 rfl) rfl (n := 0) rfl ?_
  obtain ⟨g1, H⟩ := H
  refine x_getf (zdm d_Column_canTell_0 2 rfl) f_Column_19 g1 rfl ?_
  refine x_icmplt (tgt := 20) (zdm d_Column_canTell_0 3 rfl) (by decide) (fun c => ?_) (fun c => ?_)
  · have H := H.1 c
    refine x_iconst (zdm d_Column_canTell_0 10 rfl) (zIl rfl) ?_
    exact x_ireturn (zdm d_Column_canTell_0 11 rfl) (ty := .boolean) rfl (by decide) (Or.inl rfl) H
  · have H := H.2 c
    refine x_iload_n (zdm d_Column_canTell_0 4 rfl) rfl (n := 1) rfl ?_
    refine x_aload_n (zdm d_Column_canTell_0 5 rfl) rfl (n := 0) rfl ?_
    refine x_getf (zdm d_Column_canTell_0 6 rfl) f_Column_22 g1 rfl ?_
    refine x_icmpgt (tgt := 20) (zdm d_Column_canTell_0 7 rfl) (by decide) (fun c => ?_) (fun c => ?_)
    · have H := H.1 c
      refine x_iconst (zdm d_Column_canTell_0 10 rfl) (zIl rfl) ?_
      exact x_ireturn (zdm d_Column_canTell_0 11 rfl) (ty := .boolean) rfl (by decide) (Or.inl rfl) H
    · have H := H.2 c
      refine x_iconst (zdm d_Column_canTell_0 8 rfl) (zIl rfl) ?_
      refine x_goto (tgt := 21) (zdm d_Column_canTell_0 9 rfl) (by decide) ?_
      exact x_ireturn (zdm d_Column_canTell_0 11 rfl) (ty := .boolean) rfl (by decide) (Or.inr rfl) H
set_option maxRecDepth 20000 in
set_option maxHeartbeats 4000000 in
theorem E_Column_slipped {G : zG} {h sl : Nat} (hsl : 1 ≤ sl) {l0 l1 l2 : Int} {M : zM} {Q : Int → zM → Prop} (H : (zK l0 = (1, 0)) ∧ ((zI ((M l0 3) - (M l0 2))) ∧ ((zI (((M l0 3) - (M l0 2)) + 1)) ∧ (zCt G h sl 0 0 y_Column_moves [(2, l0)] M (fun r4 M5 => (r4 = 0 → Q l1 M5) ∧ (¬ r4 = 0 → ((((M l0 3) - (M l0 2)) + 1) ≤ 0 → Q l1 M5) ∧ (¬ (((M l0 3) - (M l0 2)) + 1) ≤ 0 → (zI (l1 - (M5 l0 2))) ∧ ((zI ((l1 - (M5 l0 2)) + l2)) ∧ (zCt G h sl 0 0 y_Jm_floorMod [(0, ((l1 - (M5 l0 2)) + l2)), (0, (((M l0 3) - (M l0 2)) + 1))] M5 (fun r9 M10 => (zI ((M5 l0 2) + r9)) ∧ (Q ((M5 l0 2) + r9) M10))))))))))) : zCt G (h + 1) sl 0 0 y_Column_slipped [(2, l0), (0, l1), (0, l2)] M Q := by
  refine zCt.of (by decide +kernel) (Nat.le_of_ble_eq_true rfl) ?_
  refine x_aload_n (zdm d_Column_slipped_0 0 rfl) rfl (n := 0) rfl ?_
  obtain ⟨g1, H⟩ := H
  refine x_getf (zdm d_Column_slipped_0 1 rfl) f_Column_22 g1 rfl ?_
  refine x_aload_n (zdm d_Column_slipped_0 2 rfl) rfl (n := 0) rfl ?_
  refine x_getf (zdm d_Column_slipped_0 3 rfl) f_Column_19 g1 rfl ?_
  obtain ⟨g2, H⟩ := H
  refine x_isub (zdm d_Column_slipped_0 4 rfl) g2 ?_
  refine x_iconst (zdm d_Column_slipped_0 5 rfl) (zIl rfl) ?_
  obtain ⟨g3, H⟩ := H
  refine x_iadd (zdm d_Column_slipped_0 6 rfl) g3 ?_
  refine x_istore_n (zdm d_Column_slipped_0 7 rfl) rfl (zlt rfl) rfl ?_
  refine x_aload_n (zdm d_Column_slipped_0 8 rfl) rfl (n := 1) rfl ?_
  refine x_callVi (n := 0) (ci := 1) (zdm d_Column_slipped_0 9 rfl) k_Column_47 (As := []) rfl rfl g1 ⟨_, _, rfl⟩ (Nat.le_of_ble_eq_true rfl) trivial H (fun r4 M5 hr H => ?_)
  have b6 : r4 = 0 ∨ r4 = 1 := hr
  refine x_ifeq (tgt := 43) (zdm d_Column_slipped_0 10 rfl) (by decide) (fun c => ?_) (fun c => ?_)
  · have H := H.1 c
    refine x_iload_n (zdm d_Column_slipped_0 25 rfl) rfl (n := 2) rfl ?_
    exact x_iret (zdm d_Column_slipped_0 26 rfl) rfl H
  · have H := H.2 c
    refine x_iload_n (zdm d_Column_slipped_0 11 rfl) rfl (n := 0) rfl ?_
    refine x_ifle (tgt := 43) (zdm d_Column_slipped_0 12 rfl) (by decide) (fun c => ?_) (fun c => ?_)
    · have H := H.1 c
      refine x_iload_n (zdm d_Column_slipped_0 25 rfl) rfl (n := 2) rfl ?_
      exact x_iret (zdm d_Column_slipped_0 26 rfl) rfl H
    · have H := H.2 c
      refine x_aload_n (zdm d_Column_slipped_0 13 rfl) rfl (n := 1) rfl ?_
      refine x_getf (zdm d_Column_slipped_0 14 rfl) f_Column_19 g1 rfl ?_
      refine x_iload_n (zdm d_Column_slipped_0 15 rfl) rfl (n := 2) rfl ?_
      refine x_aload_n (zdm d_Column_slipped_0 16 rfl) rfl (n := 1) rfl ?_
      refine x_getf (zdm d_Column_slipped_0 17 rfl) f_Column_19 g1 rfl ?_
      obtain ⟨g7, H⟩ := H
      refine x_isub (zdm d_Column_slipped_0 18 rfl) g7 ?_
      refine x_iload_n (zdm d_Column_slipped_0 19 rfl) rfl (n := 3) rfl ?_
      obtain ⟨g8, H⟩ := H
      refine x_iadd (zdm d_Column_slipped_0 20 rfl) g8 ?_
      refine x_iload_n (zdm d_Column_slipped_0 21 rfl) rfl (n := 0) rfl ?_
      refine x_callSi (n := 2) (zdm d_Column_slipped_0 22 rfl) k_Column_51 (As := [(0, ((l1 - (M5 l0 2)) + l2)), (0, (((M l0 3) - (M l0 2)) + 1))]) rfl rfl (Nat.le_of_ble_eq_true rfl) trivial H (fun r9 M10 hr H => ?_)
      obtain ⟨g11, H⟩ := H
      refine x_iadd (zdm d_Column_slipped_0 23 rfl) g11 ?_
      refine x_goto (tgt := 44) (zdm d_Column_slipped_0 24 rfl) (by decide) ?_
      exact x_iret (zdm d_Column_slipped_0 26 rfl) rfl H
set_option maxRecDepth 20000 in
set_option maxHeartbeats 4000000 in
theorem B_Column_arcBehind_67 {G : zG} {h sl : Nat} (hsl : 1 ≤ sl) {u : Nat × Nat × Nat × Nat} {l0 l1 l2 l3 l4 s0 s1 : Int} {M : zM} {Q : Int → zM → Prop} (H : (zI (s1 - s0)) ∧ (((s1 - s0) < 0 → (zI (l1 + l3)) ∧ (Q (l1 + l3) M)) ∧ (¬ (s1 - s0) < 0 → (1 ≤ l3 → (l2 = 0 → (zI ((s1 - s0) * l4)) ∧ ((l3 ≠ 0) ∧ ((zI (Int.tdiv ((s1 - s0) * l4) l3)) ∧ ((zI (0 + (Int.tdiv ((s1 - s0) * l4) l3))) ∧ (Q (0 + (Int.tdiv ((s1 - s0) * l4) l3)) M))))) ∧ (¬ l2 = 0 → (zK l0 = (1, 0)) ∧ ((zI ((s1 - s0) * l4)) ∧ ((l3 ≠ 0) ∧ ((zI (Int.tdiv ((s1 - s0) * l4) l3)) ∧ ((zI ((M l0 8) + (Int.tdiv ((s1 - s0) * l4) l3))) ∧ (Q ((M l0 8) + (Int.tdiv ((s1 - s0) * l4) l3)) M))))))) ∧ (¬ 1 ≤ l3 → (zI (l1 + l3)) ∧ (Q (l1 + l3) M))))) : zX G (y_Column_arcBehind, h, sl) u 67 [(0, (2, l0)), (1, (0, l1)), (2, (0, l2)), (3, (0, l3)), (4, (0, l4))] [(0, s0), (0, s1)] M Q := by
  obtain ⟨g1, H⟩ := H
  refine x_isub (zdm d_Column_arcBehind_0 36 rfl) g1 ?_
  refine x_istore (zdm d_Column_arcBehind_0 37 rfl) (zlt rfl) rfl ?_
  refine x_iload (zdm d_Column_arcBehind_0 38 rfl) (n := 0) rfl ?_
  refine x_iflt (tgt := 80) (zdm d_Column_arcBehind_0 39 rfl) (by decide) (fun c => ?_) (fun c => ?_)
  · have H := H.1 c
    refine x_iload_n (zdm d_Column_arcBehind_0 43 rfl) rfl (n := 2) rfl ?_
    refine x_iload_n (zdm d_Column_arcBehind_0 44 rfl) rfl (n := 4) rfl ?_
    obtain ⟨g2, H⟩ := H
    refine x_iadd (zdm d_Column_arcBehind_0 45 rfl) g2 ?_
    exact x_iret (zdm d_Column_arcBehind_0 46 rfl) rfl H
  · have H := H.2 c
    refine x_iload_n (zdm d_Column_arcBehind_0 40 rfl) rfl (n := 4) rfl ?_
    refine x_iconst (zdm d_Column_arcBehind_0 41 rfl) (zIl rfl) ?_
    refine x_icmpge (tgt := 84) (zdm d_Column_arcBehind_0 42 rfl) (by decide) (fun c => ?_) (fun c => ?_)
    · have H := H.1 c
      refine x_iload_n (zdm d_Column_arcBehind_0 47 rfl) rfl (n := 3) rfl ?_
      refine x_ifeq (tgt := 95) (zdm d_Column_arcBehind_0 48 rfl) (by decide) (fun c => ?_) (fun c => ?_)
      · have H := H.1 c
        refine x_iconst (zdm d_Column_arcBehind_0 52 rfl) (zIl rfl) ?_
        refine x_iload (zdm d_Column_arcBehind_0 53 rfl) (n := 0) rfl ?_
        refine x_iload (zdm d_Column_arcBehind_0 54 rfl) (n := 5) rfl ?_
        obtain ⟨g3, H⟩ := H
        refine x_imul (zdm d_Column_arcBehind_0 55 rfl) g3 ?_
        refine x_iload_n (zdm d_Column_arcBehind_0 56 rfl) rfl (n := 4) rfl ?_
        obtain ⟨g4, H⟩ := H
        obtain ⟨g5, H⟩ := H
        refine x_idiv (zdm d_Column_arcBehind_0 57 rfl) g4 g5 ?_
        obtain ⟨g6, H⟩ := H
        refine x_iadd (zdm d_Column_arcBehind_0 58 rfl) g6 ?_
        exact x_iret (zdm d_Column_arcBehind_0 59 rfl) rfl H
      · have H := H.2 c
        refine x_aload_n (zdm d_Column_arcBehind_0 49 rfl) rfl (n := 1) rfl ?_
        obtain ⟨g7, H⟩ := H
        refine x_getf (zdm d_Column_arcBehind_0 50 rfl) f_Column_38 g7 rfl ?_
        refine x_goto (tgt := 96) (zdm d_Column_arcBehind_0 51 rfl) (by decide) ?_
        refine x_iload (zdm d_Column_arcBehind_0 53 rfl) (n := 0) rfl ?_
        refine x_iload (zdm d_Column_arcBehind_0 54 rfl) (n := 5) rfl ?_
        obtain ⟨g8, H⟩ := H
        refine x_imul (zdm d_Column_arcBehind_0 55 rfl) g8 ?_
        refine x_iload_n (zdm d_Column_arcBehind_0 56 rfl) rfl (n := 4) rfl ?_
        obtain ⟨g9, H⟩ := H
        obtain ⟨g10, H⟩ := H
        refine x_idiv (zdm d_Column_arcBehind_0 57 rfl) g9 g10 ?_
        obtain ⟨g11, H⟩ := H
        refine x_iadd (zdm d_Column_arcBehind_0 58 rfl) g11 ?_
        exact x_iret (zdm d_Column_arcBehind_0 59 rfl) rfl H
    · have H := H.2 c
      refine x_iload_n (zdm d_Column_arcBehind_0 43 rfl) rfl (n := 2) rfl ?_
      refine x_iload_n (zdm d_Column_arcBehind_0 44 rfl) rfl (n := 4) rfl ?_
      obtain ⟨g12, H⟩ := H
      refine x_iadd (zdm d_Column_arcBehind_0 45 rfl) g12 ?_
      exact x_iret (zdm d_Column_arcBehind_0 46 rfl) rfl H
set_option maxRecDepth 20000 in
set_option maxHeartbeats 4000000 in
theorem B_Column_arcBehind_45 {G : zG} {h sl : Nat} (hsl : 1 ≤ sl) {u : Nat × Nat × Nat × Nat} {l0 l1 l2 l3 s0 : Int} {M : zM} {Q : Int → zM → Prop} (H : (zI (l1 + l3)) ∧ ((l2 = 0 → (zK l0 = (1, 0)) ∧ ((zI ((M l0 3) + 1)) ∧ (zX G (y_Column_arcBehind, h, sl) u 67 [(0, (2, l0)), (1, (0, l1)), (2, (0, l2)), (3, (0, l3)), (4, (0, s0))] [(0, ((M l0 3) + 1)), (0, (l1 + l3))] M Q))) ∧ (¬ l2 = 0 → (zK l0 = (1, 0)) ∧ (zX G (y_Column_arcBehind, h, sl) u 67 [(0, (2, l0)), (1, (0, l1)), (2, (0, l2)), (3, (0, l3)), (4, (0, s0))] [(0, (M l0 8)), (0, (l1 + l3))] M Q)))) : zX G (y_Column_arcBehind, h, sl) u 45 [(0, (2, l0)), (1, (0, l1)), (2, (0, l2)), (3, (0, l3))] [(0, s0)] M Q := by
  refine x_istore (zdm d_Column_arcBehind_0 23 rfl) (zlt rfl) rfl ?_
  refine x_iload_n (zdm d_Column_arcBehind_0 24 rfl) rfl (n := 2) rfl ?_
  refine x_iload_n (zdm d_Column_arcBehind_0 25 rfl) rfl (n := 4) rfl ?_
  obtain ⟨g1, H⟩ := H
  refine x_iadd (zdm d_Column_arcBehind_0 26 rfl) g1 ?_
  refine x_iload_n (zdm d_Column_arcBehind_0 27 rfl) rfl (n := 3) rfl ?_
  refine x_ifeq (tgt := 61) (zdm d_Column_arcBehind_0 28 rfl) (by decide) (fun c => ?_) (fun c => ?_)
  · have H := H.1 c
    refine x_aload_n (zdm d_Column_arcBehind_0 32 rfl) rfl (n := 1) rfl ?_
    obtain ⟨g2, H⟩ := H
    refine x_getf (zdm d_Column_arcBehind_0 33 rfl) f_Column_22 g2 rfl ?_
    refine x_iconst (zdm d_Column_arcBehind_0 34 rfl) (zIl rfl) ?_
    obtain ⟨g3, H⟩ := H
    refine x_iadd (zdm d_Column_arcBehind_0 35 rfl) g3 ?_
    exact zX.sub [1, 2, 3, 4, 0] rfl H
  · have H := H.2 c
    refine x_aload_n (zdm d_Column_arcBehind_0 29 rfl) rfl (n := 1) rfl ?_
    obtain ⟨g4, H⟩ := H
    refine x_getf (zdm d_Column_arcBehind_0 30 rfl) f_Column_38 g4 rfl ?_
    refine x_goto (tgt := 67) (zdm d_Column_arcBehind_0 31 rfl) (by decide) ?_
    exact zX.sub [1, 2, 3, 4, 0] rfl H
set_option maxRecDepth 20000 in
set_option maxHeartbeats 4000000 in
theorem B_Column_arcBehind_29 {G : zG} {h sl : Nat} (hsl : 1 ≤ sl) {u : Nat × Nat × Nat × Nat} {l0 l1 l2 s0 : Int} {M : zM} {Q : Int → zM → Prop} (H : (l2 = 0 → (zK l0 = (1, 0)) ∧ (zX G (y_Column_arcBehind, h, sl) u 45 [(0, (2, l0)), (1, (0, l1)), (2, (0, l2)), (3, (0, s0))] [(0, (M l0 6))] M Q)) ∧ (¬ l2 = 0 → (zK l0 = (1, 0)) ∧ (zX G (y_Column_arcBehind, h, sl) u 45 [(0, (2, l0)), (1, (0, l1)), (2, (0, l2)), (3, (0, s0))] [(0, (M l0 7))] M Q))) : zX G (y_Column_arcBehind, h, sl) u 29 [(0, (2, l0)), (1, (0, l1)), (2, (0, l2))] [(0, s0)] M Q := by
  refine x_istore_n (zdm d_Column_arcBehind_0 15 rfl) rfl (zlt rfl) rfl ?_
  refine x_iload_n (zdm d_Column_arcBehind_0 16 rfl) rfl (n := 3) rfl ?_
  refine x_ifeq (tgt := 41) (zdm d_Column_arcBehind_0 17 rfl) (by decide) (fun c => ?_) (fun c => ?_)
  · have H := H.1 c
    refine x_aload_n (zdm d_Column_arcBehind_0 21 rfl) rfl (n := 1) rfl ?_
    obtain ⟨g1, H⟩ := H
    refine x_getf (zdm d_Column_arcBehind_0 22 rfl) f_Column_32 g1 rfl ?_
    exact zX.sub [1, 2, 3, 0] rfl H
  · have H := H.2 c
    refine x_aload_n (zdm d_Column_arcBehind_0 18 rfl) rfl (n := 1) rfl ?_
    obtain ⟨g2, H⟩ := H
    refine x_getf (zdm d_Column_arcBehind_0 19 rfl) f_Column_35 g2 rfl ?_
    refine x_goto (tgt := 45) (zdm d_Column_arcBehind_0 20 rfl) (by decide) ?_
    exact zX.sub [1, 2, 3, 0] rfl H
set_option maxRecDepth 20000 in
set_option maxHeartbeats 4000000 in
theorem B_Column_arcBehind_13 {G : zG} {h sl : Nat} (hsl : 1 ≤ sl) {u : Nat × Nat × Nat × Nat} {l0 l1 s0 : Int} {M : zM} {Q : Int → zM → Prop} (H : (s0 = 0 → (zK l0 = (1, 0)) ∧ (zX G (y_Column_arcBehind, h, sl) u 29 [(0, (2, l0)), (1, (0, l1)), (2, (0, s0))] [(0, (M l0 7))] M Q)) ∧ (¬ s0 = 0 → (zK l0 = (1, 0)) ∧ (zX G (y_Column_arcBehind, h, sl) u 29 [(0, (2, l0)), (1, (0, l1)), (2, (0, s0))] [(0, (M l0 6))] M Q))) : zX G (y_Column_arcBehind, h, sl) u 13 [(0, (2, l0)), (1, (0, l1))] [(0, s0)] M Q := by
  refine x_istore_n (zdm d_Column_arcBehind_0 7 rfl) rfl (zlt rfl) rfl ?_
  refine x_iload_n (zdm d_Column_arcBehind_0 8 rfl) rfl (n := 0) rfl ?_
  refine x_ifeq (tgt := 25) (zdm d_Column_arcBehind_0 9 rfl) (by decide) (fun c => ?_) (fun c => ?_)
  · have H := H.1 c
    refine x_aload_n (zdm d_Column_arcBehind_0 13 rfl) rfl (n := 1) rfl ?_
    obtain ⟨g1, H⟩ := H
    refine x_getf (zdm d_Column_arcBehind_0 14 rfl) f_Column_35 g1 rfl ?_
    exact zX.sub [1, 2, 0] rfl H
  · have H := H.2 c
    refine x_aload_n (zdm d_Column_arcBehind_0 10 rfl) rfl (n := 1) rfl ?_
    obtain ⟨g2, H⟩ := H
    refine x_getf (zdm d_Column_arcBehind_0 11 rfl) f_Column_32 g2 rfl ?_
    refine x_goto (tgt := 29) (zdm d_Column_arcBehind_0 12 rfl) (by decide) ?_
    exact zX.sub [1, 2, 0] rfl H
set_option maxRecDepth 20000 in
set_option maxHeartbeats 4000000 in
theorem E_Column_arcBehind {G : zG} {h sl : Nat} (hsl : 1 ≤ sl) {l0 l1 : Int} {M : zM} {Q : Int → zM → Prop} (H : (zK l0 = (1, 0)) ∧ (((M l0 8) ≤ l1 → zX G (y_Column_arcBehind, h, sl) (0, 0, 0, 0) 13 [(0, (2, l0)), (1, (0, l1))] [(0, 0)] M Q) ∧ (¬ (M l0 8) ≤ l1 → zX G (y_Column_arcBehind, h, sl) (0, 0, 0, 0) 13 [(0, (2, l0)), (1, (0, l1))] [(0, 1)] M Q))) : zCt G h sl 0 0 y_Column_arcBehind [(2, l0), (0, l1)] M Q := by
  refine zCt.of (by decide +kernel) (Nat.le_of_ble_eq_true rfl) ?_
  refine x_iload_n (zdm d_Column_arcBehind_0 0 rfl) rfl (n := 1) rfl ?_
  refine x_aload_n (zdm d_Column_arcBehind_0 1 rfl) rfl (n := 0) rfl ?_
  obtain ⟨g1, H⟩ := H
  refine x_getf (zdm d_Column_arcBehind_0 2 rfl) f_Column_38 g1 rfl ?_
  refine x_icmpge (tgt := 12) (zdm d_Column_arcBehind_0 3 rfl) (by decide) (fun c => ?_) (fun c => ?_)
  · have H := H.1 c
    refine x_iconst (zdm d_Column_arcBehind_0 6 rfl) (zIl rfl) ?_
    exact H
  · have H := H.2 c
    refine x_iconst (zdm d_Column_arcBehind_0 4 rfl) (zIl rfl) ?_
    refine x_goto (tgt := 13) (zdm d_Column_arcBehind_0 5 rfl) (by decide) ?_
    exact H
