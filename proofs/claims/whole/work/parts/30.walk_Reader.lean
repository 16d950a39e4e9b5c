set_option maxRecDepth 20000 in
set_option maxHeartbeats 4000000 in
theorem B_Reader_readTablet_28 {G : zG} {h sl : Nat} (hsl : 1 ≤ sl) {u : Nat × Nat × Nat × Nat} {l1 l2 : Int} {M : zM} {Q : Int → zM → Prop} (H : (60 < l2 → Q 1 M) ∧ (¬ 60 < l2 → ((M 72 9) = 0 → Q 1 M) ∧ (¬ (M 72 9) = 0 → (¬ l2 = 60 → zCt G h sl 0 0 y_Reader_statement [(2, 72)] M (fun r1 M2 => (r1 = 0 → Q 0 M2) ∧ (¬ r1 = 0 → zCt G h sl 0 0 y_Reader_takeSign [(2, 72), (0, 59)] M2 (fun r4 M5 => (¬ r4 = 0 → (zK l1 = (8, 0)) ∧ ((zI ((M5 l1 3) + 1)) ∧ ((zI (l2 + 1)) ∧ (zX G (y_Reader_readTablet, h + 1, sl) u 28 [(0, (2, 72)), (1, (2, l1)), (2, (0, (l2 + 1)))] [] (zwr M5 l1 3 ((M5 l1 3) + 1)) Q)))) ∧ (¬ (¬ r4 = 0) → Q 0 M5))))) ∧ (¬ (¬ l2 = 60) → zCt G h sl 0 0 y_Reader_refuse [(2, 72), (0, 5), (0, (M 72 10))] M (fun r10 M11 => Q r10 M11))))) : zX G (y_Reader_readTablet, h + 1, sl) u 28 [(0, (2, 72)), (1, (2, l1)), (2, (0, l2))] [] M Q := by
  refine x_iload_n (zdm d_Reader_readTablet_0 16 rfl) rfl (n := 2) rfl ?_
  refine x_bipush (zdm d_Reader_readTablet_0 17 rfl) (by decide) ?_
  refine x_icmpgt (tgt := 91) (zdm d_Reader_readTablet_0 18 rfl) (by decide) (fun c => ?_) (fun c => ?_)
  · have H := H.1 c
    refine x_iconst (zdm d_Reader_readTablet_0 48 rfl) (zIl rfl) ?_
    exact x_ireturn (zdm d_Reader_readTablet_0 49 rfl) (ty := .boolean) rfl (by decide) (Or.inr rfl) H
  · have H := H.2 c
    refine x_aload_n (zdm d_Reader_readTablet_0 19 rfl) rfl (n := 0) rfl ?_
    refine x_getf (zdm d_Reader_readTablet_0 20 rfl) f_Reader_46 rfl rfl ?_
    refine x_ifeq (tgt := 91) (zdm d_Reader_readTablet_0 21 rfl) (by decide) (fun c => ?_) (fun c => ?_)
    · have H := H.1 c
      refine x_iconst (zdm d_Reader_readTablet_0 48 rfl) (zIl rfl) ?_
      exact x_ireturn (zdm d_Reader_readTablet_0 49 rfl) (ty := .boolean) rfl (by decide) (Or.inr rfl) H
    · have H := H.2 c
      refine x_iload_n (zdm d_Reader_readTablet_0 22 rfl) rfl (n := 2) rfl ?_
      refine x_bipush (zdm d_Reader_readTablet_0 23 rfl) (by decide) ?_
      refine x_icmpne (tgt := 57) (zdm d_Reader_readTablet_0 24 rfl) (by decide) (fun c => ?_) (fun c => ?_)
      · have H := H.1 c
        refine x_aload_n (zdm d_Reader_readTablet_0 31 rfl) rfl (n := 0) rfl ?_
        refine x_callVi (n := 0) (ci := 7) (zdm d_Reader_readTablet_0 32 rfl) k_Reader_56 (As := []) rfl rfl rfl ⟨_, _, rfl⟩ (Nat.le_of_ble_eq_true rfl) trivial H (fun r1 M2 hr H => ?_)
        have b3 : r1 = 0 ∨ r1 = 1 := hr
        refine x_ifeq (tgt := 73) (zdm d_Reader_readTablet_0 33 rfl) (by decide) (fun c => ?_) (fun c => ?_)
        · have H := H.1 c
          refine x_iconst (zdm d_Reader_readTablet_0 38 rfl) (zIl rfl) ?_
          exact x_ireturn (zdm d_Reader_readTablet_0 39 rfl) (ty := .boolean) rfl (by decide) (Or.inl rfl) H
        · have H := H.2 c
          refine x_aload_n (zdm d_Reader_readTablet_0 34 rfl) rfl (n := 0) rfl ?_
          refine x_bipush (zdm d_Reader_readTablet_0 35 rfl) (by decide) ?_
          refine x_callVi (n := 1) (ci := 7) (zdm d_Reader_readTablet_0 36 rfl) k_Reader_60 (As := [(0, 59)]) rfl rfl rfl ⟨_, _, rfl⟩ (Nat.le_of_ble_eq_true rfl) trivial H (fun r4 M5 hr H => ?_)
          have b6 : r4 = 0 ∨ r4 = 1 := hr
          refine x_ifne (tgt := 75) (zdm d_Reader_readTablet_0 37 rfl) (by decide) (fun c => ?_) (fun c => ?_)
          · have H := H.1 c
            refine x_aload_n (zdm d_Reader_readTablet_0 40 rfl) rfl (n := 1) rfl ?_
            refine x_dup (zdm d_Reader_readTablet_0 41 rfl) z2n1 ?_
            obtain ⟨g7, H⟩ := H
            refine x_getf (zdm d_Reader_readTablet_0 42 rfl) f_Reader_64 g7 rfl ?_
            refine x_iconst (zdm d_Reader_readTablet_0 43 rfl) (zIl rfl) ?_
            obtain ⟨g8, H⟩ := H
            refine x_iadd (zdm d_Reader_readTablet_0 44 rfl) g8 ?_
            refine x_putf (zdm d_Reader_readTablet_0 45 rfl) f_Reader_64 g7 ⟨rfl, trivial⟩ (Or.inl rfl) ?_
            obtain ⟨g9, H⟩ := H
            refine x_iinc (zdm d_Reader_readTablet_0 46 rfl) (n := 2) rfl g9 (zlt rfl) rfl ?_
            refine x_goto (tgt := 28) (zdm d_Reader_readTablet_0 47 rfl) (by decide) ?_
            exact zX.sub [1, 2, 0] rfl H
          · have H := H.2 c
            refine x_iconst (zdm d_Reader_readTablet_0 38 rfl) (zIl rfl) ?_
            exact x_ireturn (zdm d_Reader_readTablet_0 39 rfl) (ty := .boolean) rfl (by decide) (Or.inl rfl) H
      · have H := H.2 c
        refine x_aload_n (zdm d_Reader_readTablet_0 25 rfl) rfl (n := 0) rfl ?_
        refine x_iconst (zdm d_Reader_readTablet_0 26 rfl) (zIl rfl) ?_
        refine x_aload_n (zdm d_Reader_readTablet_0 27 rfl) rfl (n := 0) rfl ?_
        refine x_getf (zdm d_Reader_readTablet_0 28 rfl) f_Reader_49 rfl rfl ?_
        refine x_callVi (n := 2) (ci := 7) (zdm d_Reader_readTablet_0 29 rfl) k_Reader_52 (As := [(0, 5), (0, (M 72 10))]) rfl rfl rfl ⟨_, _, rfl⟩ (Nat.le_of_ble_eq_true rfl) trivial H (fun r10 M11 hr H => ?_)
        have b12 : r10 = 0 ∨ r10 = 1 := hr
        exact x_ireturn (zdm d_Reader_readTablet_0 30 rfl) (ty := .boolean) rfl (by decide) b12 H
set_option maxRecDepth 20000 in
set_option maxHeartbeats 4000000 in
theorem E_Reader_readTablet {G : zG} {h sl : Nat} (hsl : 1 ≤ sl) {l1 : Int} {M : zM} {Q : Int → zM → Prop} (H : (zK l1 = (8, 0)) ∧ (zCt G h sl 0 0 y_Tablet_clear [(2, l1)] M (fun r1 M2 => zCt G h sl 0 0 y_Reader_start [(2, 72)] (zwr (zwr (zwr M2 72 5 l1) 72 6 (l1 + 2)) 72 7 0) (fun r4 M5 => zX G (y_Reader_readTablet, h + 1, sl) (0, 0, 0, 0) 28 [(0, (2, 72)), (1, (2, l1)), (2, (0, 0))] [] M5 Q)))) : zCt G (h + 1) sl 0 0 y_Reader_readTablet [(2, 72), (2, l1)] M Q := by
  refine zCt.of (by decide +kernel) (Nat.le_of_ble_eq_true rfl) ?_
  refine x_aload_n (zdm d_Reader_readTablet_0 0 rfl) rfl (n := 1) rfl ?_
  obtain ⟨g3, H⟩ := H
  refine x_callVv (n := 0) (ci := 8) (zdm d_Reader_readTablet_0 1 rfl) k_Reader_29 (As := []) rfl rfl g3 ⟨_, _, rfl⟩ (Nat.le_of_ble_eq_true rfl) rfl H (fun r1 M2 hr H => ?_)
  refine x_aload_n (zdm d_Reader_readTablet_0 2 rfl) rfl (n := 0) rfl ?_
  refine x_aload_n (zdm d_Reader_readTablet_0 3 rfl) rfl (n := 1) rfl ?_
  refine x_putf (zdm d_Reader_readTablet_0 4 rfl) f_Reader_34 rfl ⟨rfl, trivial⟩ (Or.inl rfl) ?_
  refine x_aload_n (zdm d_Reader_readTablet_0 5 rfl) rfl (n := 0) rfl ?_
  refine x_aload_n (zdm d_Reader_readTablet_0 6 rfl) rfl (n := 1) rfl ?_
  refine x_getG (zdm d_Reader_readTablet_0 7 rfl) f_Reader_38 g3 rfl (by decide) hsl (zs_8 g3).2.1 ?_
  refine x_putf (zdm d_Reader_readTablet_0 8 rfl) f_Reader_22 rfl ⟨rfl, trivial⟩ (Or.inl rfl) ?_
  refine x_aload_n (zdm d_Reader_readTablet_0 9 rfl) rfl (n := 0) rfl ?_
  refine x_iconst (zdm d_Reader_readTablet_0 10 rfl) (zIl rfl) ?_
  refine x_putf (zdm d_Reader_readTablet_0 11 rfl) f_Reader_39 rfl ⟨rfl, (Or.inl rfl)⟩ (Or.inl rfl) ?_
  refine x_aload_n (zdm d_Reader_readTablet_0 12 rfl) rfl (n := 0) rfl ?_
  refine x_callVv (n := 0) (ci := 7) (zdm d_Reader_readTablet_0 13 rfl) k_Reader_43 (As := []) rfl rfl rfl ⟨_, _, rfl⟩ (Nat.le_of_ble_eq_true rfl) rfl H (fun r4 M5 hr H => ?_)
  refine x_iconst (zdm d_Reader_readTablet_0 14 rfl) (zIl rfl) ?_
  refine x_istore_n (zdm d_Reader_readTablet_0 15 rfl) rfl (zlt rfl) rfl ?_
  exact zX.sub [1, 2, 0] rfl H
set_option maxRecDepth 20000 in
set_option maxHeartbeats 4000000 in
theorem B_Reader_readQuestion_67 {G : zG} {h sl : Nat} (hsl : 1 ≤ sl) {u : Nat × Nat × Nat × Nat} {s0 : Int} {M : zM} {Q : Int → zM → Prop} (H : (s0 = 0 → Q 0 M) ∧ (¬ s0 = 0 → ((M 72 9) = 0 → Q 1 M) ∧ (¬ (M 72 9) = 0 → zCt G h sl 0 0 y_Reader_unfit [(2, 72)] M (fun r1 M2 => (r1 = 0 → Q 0 M2) ∧ (¬ r1 = 0 → Q 1 M2))))) : zX G (y_Reader_readQuestion, h + 1, sl) u 67 [(0, (2, 72))] [(0, s0)] M Q := by
  refine x_istore_n (zdm d_Reader_readQuestion_0 35 rfl) rfl (zlt rfl) rfl ?_
  refine x_iload_n (zdm d_Reader_readQuestion_0 36 rfl) rfl (n := 0) rfl ?_
  refine x_ifeq (tgt := 90) (zdm d_Reader_readQuestion_0 37 rfl) (by decide) (fun c => ?_) (fun c => ?_)
  · have H := H.1 c
    refine x_iconst (zdm d_Reader_readQuestion_0 46 rfl) (zIl rfl) ?_
    exact x_ireturn (zdm d_Reader_readQuestion_0 47 rfl) (ty := .boolean) rfl (by decide) (Or.inl rfl) H
  · have H := H.2 c
    refine x_aload_n (zdm d_Reader_readQuestion_0 38 rfl) rfl (n := 1) rfl ?_
    refine x_getf (zdm d_Reader_readQuestion_0 39 rfl) f_Reader_46 rfl rfl ?_
    refine x_ifeq (tgt := 86) (zdm d_Reader_readQuestion_0 40 rfl) (by decide) (fun c => ?_) (fun c => ?_)
    · have H := H.1 c
      refine x_iconst (zdm d_Reader_readQuestion_0 44 rfl) (zIl rfl) ?_
      refine x_goto (tgt := 91) (zdm d_Reader_readQuestion_0 45 rfl) (by decide) ?_
      exact x_ireturn (zdm d_Reader_readQuestion_0 47 rfl) (ty := .boolean) rfl (by decide) (Or.inr rfl) H
    · have H := H.2 c
      refine x_aload_n (zdm d_Reader_readQuestion_0 41 rfl) rfl (n := 1) rfl ?_
      refine x_callVi (n := 0) (ci := 7) (zdm d_Reader_readQuestion_0 42 rfl) k_Reader_77 (As := []) rfl rfl rfl ⟨_, _, rfl⟩ (Nat.le_of_ble_eq_true rfl) trivial H (fun r1 M2 hr H => ?_)
      have b3 : r1 = 0 ∨ r1 = 1 := hr
      refine x_ifeq (tgt := 90) (zdm d_Reader_readQuestion_0 43 rfl) (by decide) (fun c => ?_) (fun c => ?_)
      · have H := H.1 c
        refine x_iconst (zdm d_Reader_readQuestion_0 46 rfl) (zIl rfl) ?_
        exact x_ireturn (zdm d_Reader_readQuestion_0 47 rfl) (ty := .boolean) rfl (by decide) (Or.inl rfl) H
      · have H := H.2 c
        refine x_iconst (zdm d_Reader_readQuestion_0 44 rfl) (zIl rfl) ?_
        refine x_goto (tgt := 91) (zdm d_Reader_readQuestion_0 45 rfl) (by decide) ?_
        exact x_ireturn (zdm d_Reader_readQuestion_0 47 rfl) (ty := .boolean) rfl (by decide) (Or.inr rfl) H
set_option maxRecDepth 20000 in
set_option maxHeartbeats 4000000 in
theorem E_Reader_readQuestion {G : zG} {h sl : Nat} (hsl : 1 ≤ sl) {M : zM} {Q : Int → zM → Prop} (H : (zK ((zwr M 72 6 73) 72 6) = (0, 0)) ∧ (zCt G h sl 0 0 y_Reader_start [(2, 72)] (zwr (zwr (zwr M 72 6 73) ((zwr M 72 6 73) 72 6) 2 0) 72 7 1) (fun r2 M3 => zCt G h sl 0 0 y_Reader_questionHere [(2, 72)] M3 (fun r4 M5 => (¬ ((zwr M5 72 2 r4) 72 2) = (-1) → (2 < ((zwr M5 72 2 r4) 72 2) → zCt G h sl 0 0 y_Reader_sum [(2, 72), (0, 0)] (zwr M5 72 2 r4) (fun r6 M7 => zX G (y_Reader_readQuestion, h + 1, sl) (0, 0, 0, 0) 67 [(0, (2, 72))] [(0, r6)] M7 Q)) ∧ (¬ 2 < ((zwr M5 72 2 r4) 72 2) → zCt G h sl 0 0 y_Reader_test [(2, 72), (0, 0)] (zwr M5 72 2 r4) (fun r9 M10 => zX G (y_Reader_readQuestion, h + 1, sl) (0, 0, 0, 0) 67 [(0, (2, 72))] [(0, r9)] M10 Q))) ∧ (¬ (¬ ((zwr M5 72 2 r4) 72 2) = (-1)) → zCt G h sl 0 0 y_Reader_unfit [(2, 72)] (zwr M5 72 2 r4) (fun r12 M13 => Q r12 M13)))))) : zCt G (h + 1) sl 0 0 y_Reader_readQuestion [(2, 72)] M Q := by
  refine zCt.of (by decide +kernel) (Nat.le_of_ble_eq_true rfl) ?_
  refine x_aload_n (zdm d_Reader_readQuestion_0 0 rfl) rfl (n := 0) rfl ?_
  refine x_aload_n (zdm d_Reader_readQuestion_0 1 rfl) rfl (n := 0) rfl ?_
  refine x_getG (zdm d_Reader_readQuestion_0 2 rfl) f_Reader_12 rfl rfl (by decide) hsl rfl ?_
  refine x_putf (zdm d_Reader_readQuestion_0 3 rfl) f_Reader_22 rfl ⟨rfl, trivial⟩ (Or.inl rfl) ?_
  refine x_aload_n (zdm d_Reader_readQuestion_0 4 rfl) rfl (n := 0) rfl ?_
  refine x_getf (zdm d_Reader_readQuestion_0 5 rfl) f_Reader_22 rfl rfl ?_
  refine x_iconst (zdm d_Reader_readQuestion_0 6 rfl) (zIl rfl) ?_
  obtain ⟨g1, H⟩ := H
  refine x_putf (zdm d_Reader_readQuestion_0 7 rfl) f_Reader_67 g1 ⟨rfl, trivial⟩ (Or.inl rfl) ?_
  refine x_aload_n (zdm d_Reader_readQuestion_0 8 rfl) rfl (n := 0) rfl ?_
  refine x_iconst (zdm d_Reader_readQuestion_0 9 rfl) (zIl rfl) ?_
  refine x_putf (zdm d_Reader_readQuestion_0 10 rfl) f_Reader_39 rfl ⟨rfl, (Or.inr rfl)⟩ (Or.inl rfl) ?_
  refine x_aload_n (zdm d_Reader_readQuestion_0 11 rfl) rfl (n := 0) rfl ?_
  refine x_callVv (n := 0) (ci := 7) (zdm d_Reader_readQuestion_0 12 rfl) k_Reader_43 (As := []) rfl rfl rfl ⟨_, _, rfl⟩ (Nat.le_of_ble_eq_true rfl) rfl H (fun r2 M3 hr H => ?_)
  refine x_aload_n (zdm d_Reader_readQuestion_0 13 rfl) rfl (n := 0) rfl ?_
  refine x_aload_n (zdm d_Reader_readQuestion_0 14 rfl) rfl (n := 0) rfl ?_
  refine x_callVi (n := 0) (ci := 7) (zdm d_Reader_readQuestion_0 15 rfl) k_Reader_70 (As := []) rfl rfl rfl ⟨_, _, rfl⟩ (Nat.le_of_ble_eq_true rfl) trivial H (fun r4 M5 hr H => ?_)
  refine x_putf (zdm d_Reader_readQuestion_0 16 rfl) f_Reader_74 rfl ⟨rfl, trivial⟩ (Or.inl rfl) ?_
  refine x_aload_n (zdm d_Reader_readQuestion_0 17 rfl) rfl (n := 0) rfl ?_
  refine x_getf (zdm d_Reader_readQuestion_0 18 rfl) f_Reader_74 rfl rfl ?_
  refine x_iconst (zdm d_Reader_readQuestion_0 19 rfl) (zIl rfl) ?_
  refine x_icmpne (tgt := 46) (zdm d_Reader_readQuestion_0 20 rfl) (by decide) (fun c => ?_) (fun c => ?_)
  · have H := H.1 c
    refine x_aload_n (zdm d_Reader_readQuestion_0 24 rfl) rfl (n := 0) rfl ?_
    refine x_getf (zdm d_Reader_readQuestion_0 25 rfl) f_Reader_74 rfl rfl ?_
    refine x_iconst (zdm d_Reader_readQuestion_0 26 rfl) (zIl rfl) ?_
    refine x_icmpgt (tgt := 62) (zdm d_Reader_readQuestion_0 27 rfl) (by decide) (fun c => ?_) (fun c => ?_)
    · have H := H.1 c
      refine x_aload_n (zdm d_Reader_readQuestion_0 32 rfl) rfl (n := 0) rfl ?_
      refine x_iconst (zdm d_Reader_readQuestion_0 33 rfl) (zIl rfl) ?_
      refine x_callVi (n := 1) (ci := 7) (zdm d_Reader_readQuestion_0 34 rfl) k_Reader_86 (As := [(0, 0)]) rfl rfl rfl ⟨_, _, rfl⟩ (Nat.le_of_ble_eq_true rfl) trivial H (fun r6 M7 hr H => ?_)
      have b8 : r6 = 0 ∨ r6 = 1 := hr
      exact H
    · have H := H.2 c
      refine x_aload_n (zdm d_Reader_readQuestion_0 28 rfl) rfl (n := 0) rfl ?_
      refine x_iconst (zdm d_Reader_readQuestion_0 29 rfl) (zIl rfl) ?_
      refine x_callVi (n := 1) (ci := 7) (zdm d_Reader_readQuestion_0 30 rfl) k_Reader_82 (As := [(0, 0)]) rfl rfl rfl ⟨_, _, rfl⟩ (Nat.le_of_ble_eq_true rfl) trivial H (fun r9 M10 hr H => ?_)
      have b11 : r9 = 0 ∨ r9 = 1 := hr
      refine x_goto (tgt := 67) (zdm d_Reader_readQuestion_0 31 rfl) (by decide) ?_
      exact H
  · have H := H.2 c
    refine x_aload_n (zdm d_Reader_readQuestion_0 21 rfl) rfl (n := 0) rfl ?_
    refine x_callVi (n := 0) (ci := 7) (zdm d_Reader_readQuestion_0 22 rfl) k_Reader_77 (As := []) rfl rfl rfl ⟨_, _, rfl⟩ (Nat.le_of_ble_eq_true rfl) trivial H (fun r12 M13 hr H => ?_)
    have b14 : r12 = 0 ∨ r12 = 1 := hr
    exact x_ireturn (zdm d_Reader_readQuestion_0 23 rfl) (ty := .boolean) rfl (by decide) b14 H
set_option maxRecDepth 20000 in
set_option maxHeartbeats 4000000 in
theorem E_Reader_start {G : zG} {h sl : Nat} (hsl : 1 ≤ sl) {M : zM} {Q : Int → zM → Prop} (H : zCt G h sl 0 0 y_Reader_advance [(2, 72)] (zwr (zwr (zwr (zwr M 72 3 0) 72 4 (-1)) 72 11 0) 72 8 0) (fun r1 M2 => Q 0 M2)) : zCt G (h + 1) sl 0 0 y_Reader_start [(2, 72)] M Q := by
  refine zCt.of (by decide +kernel) (Nat.le_of_ble_eq_true rfl) ?_
  refine x_aload_n (zdm d_Reader_start_0 0 rfl) rfl (n := 0) rfl ?_
  refine x_iconst (zdm d_Reader_start_0 1 rfl) (zIl rfl) ?_
  refine x_putf (zdm d_Reader_start_0 2 rfl) f_Reader_89 rfl ⟨rfl, trivial⟩ (Or.inl rfl) ?_
  refine x_aload_n (zdm d_Reader_start_0 3 rfl) rfl (n := 0) rfl ?_
  refine x_iconst (zdm d_Reader_start_0 4 rfl) (zIl rfl) ?_
  refine x_putf (zdm d_Reader_start_0 5 rfl) f_Reader_18 rfl ⟨rfl, trivial⟩ (Or.inl rfl) ?_
  refine x_aload_n (zdm d_Reader_start_0 6 rfl) rfl (n := 0) rfl ?_
  refine x_iconst (zdm d_Reader_start_0 7 rfl) (zIl rfl) ?_
  refine x_putf (zdm d_Reader_start_0 8 rfl) f_Reader_92 rfl ⟨rfl, trivial⟩ (Or.inl rfl) ?_
  refine x_aload_n (zdm d_Reader_start_0 9 rfl) rfl (n := 0) rfl ?_
  refine x_iconst (zdm d_Reader_start_0 10 rfl) (zIl rfl) ?_
  refine x_putf (zdm d_Reader_start_0 11 rfl) f_Reader_95 rfl ⟨rfl, (Or.inl rfl)⟩ (Or.inl rfl) ?_
  refine x_aload_n (zdm d_Reader_start_0 12 rfl) rfl (n := 0) rfl ?_
  refine x_callVv (n := 0) (ci := 7) (zdm d_Reader_start_0 13 rfl) k_Reader_98 (As := []) rfl rfl rfl ⟨_, _, rfl⟩ (Nat.le_of_ble_eq_true rfl) rfl H (fun r1 M2 hr H => ?_)
  exact x_return (zdm d_Reader_start_0 14 rfl) rfl H
set_option maxRecDepth 20000 in
set_option maxHeartbeats 4000000 in
theorem E_Reader_questionHere {G : zG} {h sl : Nat} (hsl : 1 ≤ sl) {M : zM} {Q : Int → zM → Prop} (H : zCt G h sl 0 0 y_Reader_tryWord [(2, 72), (2, (-64))] M (fun r1 M2 => (r1 = 0 → zCt G h sl 0 0 y_Reader_tryWord [(2, 72), (2, (-66))] M2 (fun r4 M5 => (r4 = 0 → zCt G h sl 0 0 y_Reader_tryWord [(2, 72), (2, (-68))] M5 (fun r7 M8 => (r7 = 0 → zCt G h sl 0 0 y_Reader_tryWord [(2, 72), (2, (-70))] M8 (fun r10 M11 => (r10 = 0 → zCt G h sl 0 0 y_Reader_tryWord [(2, 72), (2, (-72))] M11 (fun r13 M14 => (r13 = 0 → zCt G h sl 0 0 y_Reader_tryWord [(2, 72), (2, (-74))] M14 (fun r16 M17 => (r16 = 0 → Q (-1) M17) ∧ (¬ r16 = 0 → Q 5 M17))) ∧ (¬ r13 = 0 → Q 4 M14))) ∧ (¬ r10 = 0 → Q 3 M11))) ∧ (¬ r7 = 0 → Q 2 M8))) ∧ (¬ r4 = 0 → Q 1 M5))) ∧ (¬ r1 = 0 → Q 0 M2))) : zCt G (h + 1) sl 0 0 y_Reader_questionHere [(2, 72)] M Q := by
  refine zCt.of (by decide +kernel) (Nat.le_of_ble_eq_true rfl) ?_
  refine x_aload_n (zdm d_Reader_questionHere_0 0 rfl) rfl (n := 0) rfl ?_
  refine x_ldcS (zdm d_Reader_questionHere_0 1 rfl) (i := 31) (x := (-64)) rfl rfl ?_
  refine x_callVi (n := 1) (ci := 7) (zdm d_Reader_questionHere_0 2 rfl) k_Reader_103 (As := [(2, (-64))]) rfl rfl rfl ⟨_, _, rfl⟩ (Nat.le_of_ble_eq_true rfl) trivial H (fun r1 M2 hr H => ?_)
  have b3 : r1 = 0 ∨ r1 = 1 := hr
  refine x_ifeq (tgt := 11) (zdm d_Reader_questionHere_0 3 rfl) (by decide) (fun c => ?_) (fun c => ?_)
  · have H := H.1 c
    refine x_aload_n (zdm d_Reader_questionHere_0 6 rfl) rfl (n := 0) rfl ?_
    refine x_ldcS (zdm d_Reader_questionHere_0 7 rfl) (i := 32) (x := (-66)) rfl rfl ?_
    refine x_callVi (n := 1) (ci := 7) (zdm d_Reader_questionHere_0 8 rfl) k_Reader_103 (As := [(2, (-66))]) rfl rfl rfl ⟨_, _, rfl⟩ (Nat.le_of_ble_eq_true rfl) trivial H (fun r4 M5 hr H => ?_)
    have b6 : r4 = 0 ∨ r4 = 1 := hr
    refine x_ifeq (tgt := 22) (zdm d_Reader_questionHere_0 9 rfl) (by decide) (fun c => ?_) (fun c => ?_)
    · have H := H.1 c
      refine x_aload_n (zdm d_Reader_questionHere_0 12 rfl) rfl (n := 0) rfl ?_
      refine x_ldcS (zdm d_Reader_questionHere_0 13 rfl) (i := 33) (x := (-68)) rfl rfl ?_
      refine x_callVi (n := 1) (ci := 7) (zdm d_Reader_questionHere_0 14 rfl) k_Reader_103 (As := [(2, (-68))]) rfl rfl rfl ⟨_, _, rfl⟩ (Nat.le_of_ble_eq_true rfl) trivial H (fun r7 M8 hr H => ?_)
      have b9 : r7 = 0 ∨ r7 = 1 := hr
      refine x_ifeq (tgt := 33) (zdm d_Reader_questionHere_0 15 rfl) (by decide) (fun c => ?_) (fun c => ?_)
      · have H := H.1 c
        refine x_aload_n (zdm d_Reader_questionHere_0 18 rfl) rfl (n := 0) rfl ?_
        refine x_ldcS (zdm d_Reader_questionHere_0 19 rfl) (i := 34) (x := (-70)) rfl rfl ?_
        refine x_callVi (n := 1) (ci := 7) (zdm d_Reader_questionHere_0 20 rfl) k_Reader_103 (As := [(2, (-70))]) rfl rfl rfl ⟨_, _, rfl⟩ (Nat.le_of_ble_eq_true rfl) trivial H (fun r10 M11 hr H => ?_)
        have b12 : r10 = 0 ∨ r10 = 1 := hr
        refine x_ifeq (tgt := 44) (zdm d_Reader_questionHere_0 21 rfl) (by decide) (fun c => ?_) (fun c => ?_)
        · have H := H.1 c
          refine x_aload_n (zdm d_Reader_questionHere_0 24 rfl) rfl (n := 0) rfl ?_
          refine x_ldcS (zdm d_Reader_questionHere_0 25 rfl) (i := 35) (x := (-72)) rfl rfl ?_
          refine x_callVi (n := 1) (ci := 7) (zdm d_Reader_questionHere_0 26 rfl) k_Reader_103 (As := [(2, (-72))]) rfl rfl rfl ⟨_, _, rfl⟩ (Nat.le_of_ble_eq_true rfl) trivial H (fun r13 M14 hr H => ?_)
          have b15 : r13 = 0 ∨ r13 = 1 := hr
          refine x_ifeq (tgt := 55) (zdm d_Reader_questionHere_0 27 rfl) (by decide) (fun c => ?_) (fun c => ?_)
          · have H := H.1 c
            refine x_aload_n (zdm d_Reader_questionHere_0 30 rfl) rfl (n := 0) rfl ?_
            refine x_ldcS (zdm d_Reader_questionHere_0 31 rfl) (i := 36) (x := (-74)) rfl rfl ?_
            refine x_callVi (n := 1) (ci := 7) (zdm d_Reader_questionHere_0 32 rfl) k_Reader_103 (As := [(2, (-74))]) rfl rfl rfl ⟨_, _, rfl⟩ (Nat.le_of_ble_eq_true rfl) trivial H (fun r16 M17 hr H => ?_)
            have b18 : r16 = 0 ∨ r16 = 1 := hr
            refine x_ifeq (tgt := 68) (zdm d_Reader_questionHere_0 33 rfl) (by decide) (fun c => ?_) (fun c => ?_)
            · have H := H.1 c
              refine x_iconst (zdm d_Reader_questionHere_0 36 rfl) (zIl rfl) ?_
              exact x_iret (zdm d_Reader_questionHere_0 37 rfl) rfl H
            · have H := H.2 c
              refine x_iconst (zdm d_Reader_questionHere_0 34 rfl) (zIl rfl) ?_
              refine x_goto (tgt := 69) (zdm d_Reader_questionHere_0 35 rfl) (by decide) ?_
              exact x_iret (zdm d_Reader_questionHere_0 37 rfl) rfl H
          · have H := H.2 c
            refine x_iconst (zdm d_Reader_questionHere_0 28 rfl) (zIl rfl) ?_
            exact x_iret (zdm d_Reader_questionHere_0 29 rfl) rfl H
        · have H := H.2 c
          refine x_iconst (zdm d_Reader_questionHere_0 22 rfl) (zIl rfl) ?_
          exact x_iret (zdm d_Reader_questionHere_0 23 rfl) rfl H
      · have H := H.2 c
        refine x_iconst (zdm d_Reader_questionHere_0 16 rfl) (zIl rfl) ?_
        exact x_iret (zdm d_Reader_questionHere_0 17 rfl) rfl H
    · have H := H.2 c
      refine x_iconst (zdm d_Reader_questionHere_0 10 rfl) (zIl rfl) ?_
      exact x_iret (zdm d_Reader_questionHere_0 11 rfl) rfl H
  · have H := H.2 c
    refine x_iconst (zdm d_Reader_questionHere_0 4 rfl) (zIl rfl) ?_
    exact x_iret (zdm d_Reader_questionHere_0 5 rfl) rfl H
set_option maxRecDepth 20000 in
set_option maxHeartbeats 4000000 in
theorem B_Reader_statement_235 {G : zG} {h sl : Nat} (hsl : 1 ≤ sl) {u : Nat × Nat × Nat × Nat} {l2 l3 : Int} {M : zM} {Q : Int → zM → Prop} (H : (¬ (M 72 3) = 0 → Q 0 M) ∧ (¬ (¬ (M 72 3) = 0) → (l2 < 2 → (zK (M 72 5) = (8, 0)) ∧ ((zI ((M (M 72 5) 2) + 1)) ∧ (Q 1 (zwr M (M 72 5) 2 ((M (M 72 5) 2) + 1))))) ∧ (¬ l2 < 2 → zCt G h sl 0 0 y_Reader_sumOf [(2, 72), (2, l3)] M (fun r3 M4 => (¬ r3 = 0 → (zK (M4 72 5) = (8, 0)) ∧ ((zI ((M4 (M4 72 5) 2) + 1)) ∧ (Q 1 (zwr M4 (M4 72 5) 2 ((M4 (M4 72 5) 2) + 1))))) ∧ (¬ (¬ r3 = 0) → Q 0 M4))))) : zX G (y_Reader_statement, h + 1, sl) u 235 [(0, (2, 72)), (2, (0, l2)), (3, (2, l3))] [] M Q := by
  refine x_aload_n (zdm d_Reader_statement_1 50 rfl) rfl (n := 0) rfl ?_
  refine x_getf (zdm d_Reader_statement_1 51 rfl) f_Reader_89 rfl rfl ?_
  refine x_ifne (tgt := 255) (zdm d_Reader_statement_1 52 rfl) (by decide) (fun c => ?_) (fun c => ?_)
  · have H := H.1 c
    refine x_iconst (zdm d_Reader_statement_2 0 rfl) (zIl rfl) ?_
    exact x_ireturn (zdm d_Reader_statement_2 1 rfl) (ty := .boolean) rfl (by decide) (Or.inl rfl) H
  · have H := H.2 c
    refine x_iload_n (zdm d_Reader_statement_1 53 rfl) rfl (n := 1) rfl ?_
    refine x_iconst (zdm d_Reader_statement_1 54 rfl) (zIl rfl) ?_
    refine x_icmplt (tgt := 257) (zdm d_Reader_statement_1 55 rfl) (by decide) (fun c => ?_) (fun c => ?_)
    · have H := H.1 c
      refine x_aload_n (zdm d_Reader_statement_2 2 rfl) rfl (n := 0) rfl ?_
      refine x_getf (zdm d_Reader_statement_2 3 rfl) f_Reader_34 rfl rfl ?_
      refine x_dup (zdm d_Reader_statement_2 4 rfl) z2n1 ?_
      obtain ⟨g1, H⟩ := H
      refine x_getf (zdm d_Reader_statement_2 5 rfl) f_Reader_139 g1 rfl ?_
      refine x_iconst (zdm d_Reader_statement_2 6 rfl) (zIl rfl) ?_
      obtain ⟨g2, H⟩ := H
      refine x_iadd (zdm d_Reader_statement_2 7 rfl) g2 ?_
      refine x_putf (zdm d_Reader_statement_2 8 rfl) f_Reader_139 g1 ⟨rfl, trivial⟩ (Or.inl rfl) ?_
      refine x_iconst (zdm d_Reader_statement_2 9 rfl) (zIl rfl) ?_
      exact x_ireturn (zdm d_Reader_statement_2 10 rfl) (ty := .boolean) rfl (by decide) (Or.inr rfl) H
    · have H := H.2 c
      refine x_aload_n (zdm d_Reader_statement_1 56 rfl) rfl (n := 0) rfl ?_
      refine x_aload_n (zdm d_Reader_statement_1 57 rfl) rfl (n := 2) rfl ?_
      refine x_callVi (n := 1) (ci := 7) (zdm d_Reader_statement_1 58 rfl) k_Reader_170 (As := [(2, l3)]) rfl rfl rfl ⟨_, _, rfl⟩ (Nat.le_of_ble_eq_true rfl) trivial H (fun r3 M4 hr H => ?_)
      have b5 : r3 = 0 ∨ r3 = 1 := hr
      refine x_ifne (tgt := 257) (zdm d_Reader_statement_1 59 rfl) (by decide) (fun c => ?_) (fun c => ?_)
      · have H := H.1 c
        refine x_aload_n (zdm d_Reader_statement_2 2 rfl) rfl (n := 0) rfl ?_
        refine x_getf (zdm d_Reader_statement_2 3 rfl) f_Reader_34 rfl rfl ?_
        refine x_dup (zdm d_Reader_statement_2 4 rfl) z2n1 ?_
        obtain ⟨g6, H⟩ := H
        refine x_getf (zdm d_Reader_statement_2 5 rfl) f_Reader_139 g6 rfl ?_
        refine x_iconst (zdm d_Reader_statement_2 6 rfl) (zIl rfl) ?_
        obtain ⟨g7, H⟩ := H
        refine x_iadd (zdm d_Reader_statement_2 7 rfl) g7 ?_
        refine x_putf (zdm d_Reader_statement_2 8 rfl) f_Reader_139 g6 ⟨rfl, trivial⟩ (Or.inl rfl) ?_
        refine x_iconst (zdm d_Reader_statement_2 9 rfl) (zIl rfl) ?_
        exact x_ireturn (zdm d_Reader_statement_2 10 rfl) (ty := .boolean) rfl (by decide) (Or.inr rfl) H
      · have H := H.2 c
        refine x_iconst (zdm d_Reader_statement_2 0 rfl) (zIl rfl) ?_
        exact x_ireturn (zdm d_Reader_statement_2 1 rfl) (ty := .boolean) rfl (by decide) (Or.inl rfl) H
set_option maxRecDepth 20000 in
set_option maxHeartbeats 4000000 in
theorem E_Reader_statement {G : zG} {h sl : Nat} (hsl : 1 ≤ sl) {M : zM} {Q : Int → zM → Prop} (H : zCt G h sl 0 0 y_Reader_tryWord [(2, 72), (2, (-2))] M (fun r1 M2 => (r1 = 0 → zCt G h sl 0 0 y_Reader_tryWord [(2, 72), (2, (-4))] M2 (fun r4 M5 => (r4 = 0 → zCt G h sl 0 0 y_Reader_sortHere [(2, 72)] M5 (fun r7 M8 => (¬ r7 = (-1) → (zK (M8 72 5) = (8, 0)) ∧ (((M8 (M8 72 5) 2) < 8 → (0 ≤ (M8 (M8 72 5) 2) ∧ (M8 (M8 72 5) 2) < 8) ∧ (zCt G h sl 0 0 y_Column_clear [(2, ((M8 72 5) + 7 + 2 * (M8 (M8 72 5) 2))), (0, r7)] M8 (fun r11 M12 => zCt G h sl 0 0 y_Reader_name [(2, 72), (2, ((M8 72 5) + 7 + 2 * (M8 (M8 72 5) 2)))] M12 (fun r13 M14 => (¬ r13 = 0 → (r7 = 0 → zCt G h sl 0 0 y_Reader_zig [(2, 72), (2, ((M8 72 5) + 7 + 2 * (M8 (M8 72 5) 2)))] M14 (fun r16 M17 => zX G (y_Reader_statement, h + 1, sl) (0, 0, 0, 0) 235 [(0, (2, 72)), (2, (0, r7)), (3, (2, ((M8 72 5) + 7 + 2 * (M8 (M8 72 5) 2))))] [] M17 Q)) ∧ (r7 = 1 → zCt G h sl 0 0 y_Reader_arc [(2, 72), (2, ((M8 72 5) + 7 + 2 * (M8 (M8 72 5) 2)))] M14 (fun r18 M19 => zX G (y_Reader_statement, h + 1, sl) (0, 0, 0, 0) 235 [(0, (2, 72)), (2, (0, r7)), (3, (2, ((M8 72 5) + 7 + 2 * (M8 (M8 72 5) 2))))] [] M19 Q)) ∧ (r7 = 2 → zCt G h sl 0 0 y_Reader_ring [(2, 72), (2, ((M8 72 5) + 7 + 2 * (M8 (M8 72 5) 2)))] M14 (fun r20 M21 => zX G (y_Reader_statement, h + 1, sl) (0, 0, 0, 0) 235 [(0, (2, 72)), (2, (0, r7)), (3, (2, ((M8 72 5) + 7 + 2 * (M8 (M8 72 5) 2))))] [] M21 Q)) ∧ ((r7 < 0 ∨ 2 < r7) → zCt G h sl 0 0 y_Reader_takeWord [(2, 72), (2, (-62))] M14 (fun r22 M23 => zX G (y_Reader_statement, h + 1, sl) (0, 0, 0, 0) 235 [(0, (2, 72)), (2, (0, r7)), (3, (2, ((M8 72 5) + 7 + 2 * (M8 (M8 72 5) 2))))] [] M23 Q))) ∧ (¬ (¬ r13 = 0) → Q 0 M14))))) ∧ (¬ (M8 (M8 72 5) 2) < 8 → zCt G h sl 0 0 y_Reader_refuse [(2, 72), (0, 5), (0, (M 72 10))] M8 (fun r25 M26 => Q r25 M26)))) ∧ (¬ (¬ r7 = (-1)) → zCt G h sl 0 0 y_Reader_unfit [(2, 72)] M8 (fun r28 M29 => Q r28 M29)))) ∧ (¬ r4 = 0 → (zK (M5 72 5) = (8, 0)) ∧ (((M5 (M5 72 5) 5) = 0 → (zK ((zwr M5 (M5 72 5) 5 1) 72 6) = (0, 0)) ∧ ((zK ((zwr M5 (M5 72 5) 5 1) 72 5) = (8, 0)) ∧ (zCt G h sl 0 0 y_Reader_test [(2, 72), (0, 0)] (zwr (zwr M5 (M5 72 5) 5 1) ((zwr M5 (M5 72 5) 5 1) 72 5) 6 ((zwr M5 (M5 72 5) 5 1) ((zwr M5 (M5 72 5) 5 1) 72 6) 2)) (fun r34 M35 => (zK (M35 72 6) = (0, 0)) ∧ ((zK (M35 72 5) = (8, 0)) ∧ (Q r34 (zwr M35 (M35 72 5) 7 (M35 (M35 72 6) 2)))))))) ∧ (¬ (M5 (M5 72 5) 5) = 0 → zCt G h sl 0 0 y_Reader_refuse [(2, 72), (0, 5), (0, (M 72 10))] M5 (fun r39 M40 => Q r39 M40)))))) ∧ (¬ r1 = 0 → zCt G h sl 0 0 y_Reader_number [(2, 72), (0, 0), (0, 100)] M2 (fun r42 M43 => (zK (M2 72 5) = (8, 0)) ∧ ((¬ ((zwr M43 (M2 72 5) 4 r42) 72 3) = 0 → Q 0 (zwr M43 (M2 72 5) 4 r42)) ∧ (¬ (¬ ((zwr M43 (M2 72 5) 4 r42) 72 3) = 0) → Q 1 (zwr M43 (M2 72 5) 4 r42))))))) : zCt G (h + 1) sl 0 0 y_Reader_statement [(2, 72)] M Q := by
  refine zCt.of (by decide +kernel) (Nat.le_of_ble_eq_true rfl) ?_
  refine x_aload_n (zdm d_Reader_statement_0 0 rfl) rfl (n := 0) rfl ?_
  refine x_getf (zdm d_Reader_statement_0 1 rfl) f_Reader_49 rfl rfl ?_
  refine x_istore_n (zdm d_Reader_statement_0 2 rfl) rfl (zlt rfl) rfl ?_
  refine x_aload_n (zdm d_Reader_statement_0 3 rfl) rfl (n := 1) rfl ?_
  refine x_ldcS (zdm d_Reader_statement_0 4 rfl) (i := 0) (x := (-2)) rfl rfl ?_
  refine x_callVi (n := 1) (ci := 7) (zdm d_Reader_statement_0 5 rfl) k_Reader_103 (As := [(2, (-2))]) rfl rfl rfl ⟨_, _, rfl⟩ (Nat.le_of_ble_eq_true rfl) trivial H (fun r1 M2 hr H => ?_)
  have b3 : r1 = 0 ∨ r1 = 1 := hr
  refine x_ifeq (tgt := 41) (zdm d_Reader_statement_0 6 rfl) (by decide) (fun c => ?_) (fun c => ?_)
  · have H := H.1 c
    refine x_aload_n (zdm d_Reader_statement_0 21 rfl) rfl (n := 1) rfl ?_
    refine x_ldcS (zdm d_Reader_statement_0 22 rfl) (i := 1) (x := (-4)) rfl rfl ?_
    refine x_callVi (n := 1) (ci := 7) (zdm d_Reader_statement_0 23 rfl) k_Reader_103 (As := [(2, (-4))]) rfl rfl rfl ⟨_, _, rfl⟩ (Nat.le_of_ble_eq_true rfl) trivial H (fun r4 M5 hr H => ?_)
    have b6 : r4 = 0 ∨ r4 = 1 := hr
    refine x_ifeq (tgt := 111) (zdm d_Reader_statement_0 24 rfl) (by decide) (fun c => ?_) (fun c => ?_)
    · have H := H.1 c
      refine x_aload_n (zdm d_Reader_statement_0 56 rfl) rfl (n := 1) rfl ?_
      refine x_callVi (n := 0) (ci := 7) (zdm d_Reader_statement_0 57 rfl) k_Reader_136 (As := []) rfl rfl rfl ⟨_, _, rfl⟩ (Nat.le_of_ble_eq_true rfl) trivial H (fun r7 M8 hr H => ?_)
      refine x_istore_n (zdm d_Reader_statement_0 58 rfl) rfl (zlt rfl) rfl ?_
      refine x_iload_n (zdm d_Reader_statement_0 59 rfl) rfl (n := 0) rfl ?_
      refine x_iconst (zdm d_Reader_statement_1 0 rfl) (zIl rfl) ?_
      refine x_icmpne (tgt := 126) (zdm d_Reader_statement_1 1 rfl) (by decide) (fun c => ?_) (fun c => ?_)
      · have H := H.1 c
        refine x_aload_n (zdm d_Reader_statement_1 5 rfl) rfl (n := 2) rfl ?_
        refine x_getf (zdm d_Reader_statement_1 6 rfl) f_Reader_34 rfl rfl ?_
        obtain ⟨g9, H⟩ := H
        refine x_getf (zdm d_Reader_statement_1 7 rfl) f_Reader_139 g9 rfl ?_
        refine x_bipush (zdm d_Reader_statement_1 8 rfl) (by decide) ?_
        refine x_icmplt (tgt := 145) (zdm d_Reader_statement_1 9 rfl) (by decide) (fun c => ?_) (fun c => ?_)
        · have H := H.1 c
          refine x_aload_n (zdm d_Reader_statement_1 15 rfl) rfl (n := 2) rfl ?_
          refine x_getf (zdm d_Reader_statement_1 16 rfl) f_Reader_34 rfl rfl ?_
          refine x_getG (zdm d_Reader_statement_1 17 rfl) f_Reader_142 g9 rfl (by decide) hsl (zs_8 g9).1.1 ?_
          refine x_aload_n (zdm d_Reader_statement_1 18 rfl) rfl (n := 2) rfl ?_
          refine x_getf (zdm d_Reader_statement_1 19 rfl) f_Reader_34 rfl rfl ?_
          refine x_getf (zdm d_Reader_statement_1 20 rfl) f_Reader_139 g9 rfl ?_
          obtain ⟨g10, H⟩ := H
          refine x_aald5G (zdm d_Reader_statement_1 21 rfl) (zs_8 g9).1.2 g10 hsl (zs_cols g9 g10.1 g10.2).1 ?_
          refine x_astore_n (zdm d_Reader_statement_1 22 rfl) rfl (zlt rfl) rfl ?_
          refine x_aload_n (zdm d_Reader_statement_1 23 rfl) rfl (n := 0) rfl ?_
          refine x_iload_n (zdm d_Reader_statement_1 24 rfl) rfl (n := 1) rfl ?_
          refine x_callVv (n := 1) (ci := 1) (zdm d_Reader_statement_1 25 rfl) k_Reader_146 (As := [(0, r7)]) rfl rfl (zs_cols g9 g10.1 g10.2).2 ⟨_, _, rfl⟩ (Nat.le_of_ble_eq_true rfl) rfl H (fun r11 M12 hr H => ?_)
          refine x_aload_n (zdm d_Reader_statement_1 26 rfl) rfl (n := 3) rfl ?_
          refine x_aload_n (zdm d_Reader_statement_1 27 rfl) rfl (n := 0) rfl ?_
          refine x_callVi (n := 1) (ci := 7) (zdm d_Reader_statement_1 28 rfl) k_Reader_151 (As := [(2, ((M8 72 5) + 7 + 2 * (M8 (M8 72 5) 2)))]) rfl rfl rfl ⟨_, _, rfl⟩ (Nat.le_of_ble_eq_true rfl) trivial H (fun r13 M14 hr H => ?_)
          have b15 : r13 = 0 ∨ r13 = 1 := hr
          refine x_ifne (tgt := 176) (zdm d_Reader_statement_1 29 rfl) (by decide) (fun c => ?_) (fun c => ?_)
          · have H := H.1 c
            refine x_iload_n (zdm d_Reader_statement_1 32 rfl) rfl (n := 1) rfl ?_
            by_cases c0 : r7 = 0
            · refine x_tsw (tgt := 204) (zdm d_Reader_statement_1 33 rfl) c0 (by decide) rfl (by decide) ?_
              have H := H.1 c0
              refine x_aload_n (zdm d_Reader_statement_1 34 rfl) rfl (n := 3) rfl ?_
              refine x_aload_n (zdm d_Reader_statement_1 35 rfl) rfl (n := 0) rfl ?_
              refine x_callVv (n := 1) (ci := 7) (zdm d_Reader_statement_1 36 rfl) k_Reader_155 (As := [(2, ((M8 72 5) + 7 + 2 * (M8 (M8 72 5) 2)))]) rfl rfl rfl ⟨_, _, rfl⟩ (Nat.le_of_ble_eq_true rfl) rfl H (fun r16 M17 hr H => ?_)
              refine x_goto (tgt := 235) (zdm d_Reader_statement_1 37 rfl) (by decide) ?_
              exact zX.sub [3, 1, 0] rfl H
            · skip
              by_cases c1 : r7 = 1
              · refine x_tsw (tgt := 212) (zdm d_Reader_statement_1 33 rfl) c1 (by decide) rfl (by decide) ?_
                have H := H.2.1 c1
                refine x_aload_n (zdm d_Reader_statement_1 38 rfl) rfl (n := 3) rfl ?_
                refine x_aload_n (zdm d_Reader_statement_1 39 rfl) rfl (n := 0) rfl ?_
                refine x_callVv (n := 1) (ci := 7) (zdm d_Reader_statement_1 40 rfl) k_Reader_159 (As := [(2, ((M8 72 5) + 7 + 2 * (M8 (M8 72 5) 2)))]) rfl rfl rfl ⟨_, _, rfl⟩ (Nat.le_of_ble_eq_true rfl) rfl H (fun r18 M19 hr H => ?_)
                refine x_goto (tgt := 235) (zdm d_Reader_statement_1 41 rfl) (by decide) ?_
                exact zX.sub [3, 1, 0] rfl H
              · skip
                by_cases c2 : r7 = 2
                · refine x_tsw (tgt := 220) (zdm d_Reader_statement_1 33 rfl) c2 (by decide) rfl (by decide) ?_
                  have H := H.2.2.1 c2
                  refine x_aload_n (zdm d_Reader_statement_1 42 rfl) rfl (n := 3) rfl ?_
                  refine x_aload_n (zdm d_Reader_statement_1 43 rfl) rfl (n := 0) rfl ?_
                  refine x_callVv (n := 1) (ci := 7) (zdm d_Reader_statement_1 44 rfl) k_Reader_162 (As := [(2, ((M8 72 5) + 7 + 2 * (M8 (M8 72 5) 2)))]) rfl rfl rfl ⟨_, _, rfl⟩ (Nat.le_of_ble_eq_true rfl) rfl H (fun r20 M21 hr H => ?_)
                  refine x_goto (tgt := 235) (zdm d_Reader_statement_1 45 rfl) (by decide) ?_
                  exact zX.sub [3, 1, 0] rfl H
                · skip
                  have cd : (r7 < 0 ∨ 2 < r7) := by omega
                  refine x_tswd (tgt := 228) (zdm d_Reader_statement_1 33 rfl) cd (by decide) ?_
                  have H := H.2.2.2 cd
                  refine x_aload_n (zdm d_Reader_statement_1 46 rfl) rfl (n := 3) rfl ?_
                  refine x_ldcS (zdm d_Reader_statement_1 47 rfl) (i := 30) (x := (-62)) rfl rfl ?_
                  refine x_callVi (n := 1) (ci := 7) (zdm d_Reader_statement_1 48 rfl) k_Reader_167 (As := [(2, (-62))]) rfl rfl rfl ⟨_, _, rfl⟩ (Nat.le_of_ble_eq_true rfl) trivial H (fun r22 M23 hr H => ?_)
                  have b24 : r22 = 0 ∨ r22 = 1 := hr
                  refine x_pop (zdm d_Reader_statement_1 49 rfl) z0n1 ?_
                  exact zX.sub [3, 1, 0] rfl H
          · have H := H.2 c
            refine x_iconst (zdm d_Reader_statement_1 30 rfl) (zIl rfl) ?_
            exact x_ireturn (zdm d_Reader_statement_1 31 rfl) (ty := .boolean) rfl (by decide) (Or.inl rfl) H
        · have H := H.2 c
          refine x_aload_n (zdm d_Reader_statement_1 10 rfl) rfl (n := 2) rfl ?_
          refine x_iconst (zdm d_Reader_statement_1 11 rfl) (zIl rfl) ?_
          refine x_iload_n (zdm d_Reader_statement_1 12 rfl) rfl (n := 1) rfl ?_
          refine x_callVi (n := 2) (ci := 7) (zdm d_Reader_statement_1 13 rfl) k_Reader_52 (As := [(0, 5), (0, (M 72 10))]) rfl rfl rfl ⟨_, _, rfl⟩ (Nat.le_of_ble_eq_true rfl) trivial H (fun r25 M26 hr H => ?_)
          have b27 : r25 = 0 ∨ r25 = 1 := hr
          exact x_ireturn (zdm d_Reader_statement_1 14 rfl) (ty := .boolean) rfl (by decide) b27 H
      · have H := H.2 c
        refine x_aload_n (zdm d_Reader_statement_1 2 rfl) rfl (n := 2) rfl ?_
        refine x_callVi (n := 0) (ci := 7) (zdm d_Reader_statement_1 3 rfl) k_Reader_77 (As := []) rfl rfl rfl ⟨_, _, rfl⟩ (Nat.le_of_ble_eq_true rfl) trivial H (fun r28 M29 hr H => ?_)
        have b30 : r28 = 0 ∨ r28 = 1 := hr
        exact x_ireturn (zdm d_Reader_statement_1 4 rfl) (ty := .boolean) rfl (by decide) b30 H
    · have H := H.2 c
      refine x_aload_n (zdm d_Reader_statement_0 25 rfl) rfl (n := 1) rfl ?_
      refine x_getf (zdm d_Reader_statement_0 26 rfl) f_Reader_34 rfl rfl ?_
      obtain ⟨g31, H⟩ := H
      refine x_getf (zdm d_Reader_statement_0 27 rfl) f_Reader_127 g31 rfl ?_
      refine x_ifeq (tgt := 67) (zdm d_Reader_statement_0 28 rfl) (by decide) (fun c => ?_) (fun c => ?_)
      · have H := H.1 c
        refine x_aload_n (zdm d_Reader_statement_0 34 rfl) rfl (n := 1) rfl ?_
        refine x_getf (zdm d_Reader_statement_0 35 rfl) f_Reader_34 rfl rfl ?_
        refine x_iconst (zdm d_Reader_statement_0 36 rfl) (zIl rfl) ?_
        refine x_putf (zdm d_Reader_statement_0 37 rfl) f_Reader_127 g31 ⟨rfl, (Or.inr rfl)⟩ (Or.inl rfl) ?_
        refine x_aload_n (zdm d_Reader_statement_0 38 rfl) rfl (n := 1) rfl ?_
        refine x_getf (zdm d_Reader_statement_0 39 rfl) f_Reader_34 rfl rfl ?_
        refine x_aload_n (zdm d_Reader_statement_0 40 rfl) rfl (n := 1) rfl ?_
        refine x_getf (zdm d_Reader_statement_0 41 rfl) f_Reader_22 rfl rfl ?_
        obtain ⟨g32, H⟩ := H
        refine x_getf (zdm d_Reader_statement_0 42 rfl) f_Reader_67 g32 rfl ?_
        obtain ⟨g33, H⟩ := H
        refine x_putf (zdm d_Reader_statement_0 43 rfl) f_Reader_130 g33 ⟨rfl, trivial⟩ (Or.inl rfl) ?_
        refine x_aload_n (zdm d_Reader_statement_0 44 rfl) rfl (n := 1) rfl ?_
        refine x_iconst (zdm d_Reader_statement_0 45 rfl) (zIl rfl) ?_
        refine x_callVi (n := 1) (ci := 7) (zdm d_Reader_statement_0 46 rfl) k_Reader_82 (As := [(0, 0)]) rfl rfl rfl ⟨_, _, rfl⟩ (Nat.le_of_ble_eq_true rfl) trivial H (fun r34 M35 hr H => ?_)
        have b36 : r34 = 0 ∨ r34 = 1 := hr
        refine x_istore_n (zdm d_Reader_statement_0 47 rfl) rfl (zlt rfl) rfl ?_
        refine x_aload_n (zdm d_Reader_statement_0 48 rfl) rfl (n := 2) rfl ?_
        refine x_getf (zdm d_Reader_statement_0 49 rfl) f_Reader_34 rfl rfl ?_
        refine x_aload_n (zdm d_Reader_statement_0 50 rfl) rfl (n := 2) rfl ?_
        refine x_getf (zdm d_Reader_statement_0 51 rfl) f_Reader_22 rfl rfl ?_
        obtain ⟨g37, H⟩ := H
        refine x_getf (zdm d_Reader_statement_0 52 rfl) f_Reader_67 g37 rfl ?_
        obtain ⟨g38, H⟩ := H
        refine x_putf (zdm d_Reader_statement_0 53 rfl) f_Reader_133 g38 ⟨rfl, trivial⟩ (Or.inl rfl) ?_
        refine x_iload_n (zdm d_Reader_statement_0 54 rfl) rfl (n := 0) rfl ?_
        exact x_ireturn (zdm d_Reader_statement_0 55 rfl) (ty := .boolean) rfl (by decide) b36 H
      · have H := H.2 c
        refine x_aload_n (zdm d_Reader_statement_0 29 rfl) rfl (n := 1) rfl ?_
        refine x_iconst (zdm d_Reader_statement_0 30 rfl) (zIl rfl) ?_
        refine x_iload_n (zdm d_Reader_statement_0 31 rfl) rfl (n := 0) rfl ?_
        refine x_callVi (n := 2) (ci := 7) (zdm d_Reader_statement_0 32 rfl) k_Reader_52 (As := [(0, 5), (0, (M 72 10))]) rfl rfl rfl ⟨_, _, rfl⟩ (Nat.le_of_ble_eq_true rfl) trivial H (fun r39 M40 hr H => ?_)
        have b41 : r39 = 0 ∨ r39 = 1 := hr
        exact x_ireturn (zdm d_Reader_statement_0 33 rfl) (ty := .boolean) rfl (by decide) b41 H
  · have H := H.2 c
    refine x_aload_n (zdm d_Reader_statement_0 7 rfl) rfl (n := 1) rfl ?_
    refine x_getf (zdm d_Reader_statement_0 8 rfl) f_Reader_34 rfl rfl ?_
    refine x_aload_n (zdm d_Reader_statement_0 9 rfl) rfl (n := 1) rfl ?_
    refine x_iconst (zdm d_Reader_statement_0 10 rfl) (zIl rfl) ?_
    refine x_bipush (zdm d_Reader_statement_0 11 rfl) (by decide) ?_
    refine x_callVi (n := 2) (ci := 7) (zdm d_Reader_statement_0 12 rfl) k_Reader_119 (As := [(0, 0), (0, 100)]) rfl rfl rfl ⟨_, _, rfl⟩ (Nat.le_of_ble_eq_true rfl) trivial H (fun r42 M43 hr H => ?_)
    obtain ⟨g44, H⟩ := H
    refine x_putf (zdm d_Reader_statement_0 13 rfl) f_Reader_123 g44 ⟨rfl, trivial⟩ (Or.inl rfl) ?_
    refine x_aload_n (zdm d_Reader_statement_0 14 rfl) rfl (n := 1) rfl ?_
    refine x_getf (zdm d_Reader_statement_0 15 rfl) f_Reader_89 rfl rfl ?_
    refine x_ifne (tgt := 39) (zdm d_Reader_statement_0 16 rfl) (by decide) (fun c => ?_) (fun c => ?_)
    · have H := H.1 c
      refine x_iconst (zdm d_Reader_statement_0 19 rfl) (zIl rfl) ?_
      exact x_ireturn (zdm d_Reader_statement_0 20 rfl) (ty := .boolean) rfl (by decide) (Or.inl rfl) H
    · have H := H.2 c
      refine x_iconst (zdm d_Reader_statement_0 17 rfl) (zIl rfl) ?_
      refine x_goto (tgt := 40) (zdm d_Reader_statement_0 18 rfl) (by decide) ?_
      exact x_ireturn (zdm d_Reader_statement_0 20 rfl) (ty := .boolean) rfl (by decide) (Or.inr rfl) H
set_option maxRecDepth 20000 in
set_option maxHeartbeats 4000000 in
theorem E_Reader_sortHere {G : zG} {h sl : Nat} (hsl : 1 ≤ sl) {M : zM} {Q : Int → zM → Prop} (H : zCt G h sl 0 0 y_Reader_tryWord [(2, 72), (2, (-34))] M (fun r1 M2 => (r1 = 0 → zCt G h sl 0 0 y_Reader_tryWord [(2, 72), (2, (-36))] M2 (fun r4 M5 => (r4 = 0 → zCt G h sl 0 0 y_Reader_tryWord [(2, 72), (2, (-38))] M5 (fun r7 M8 => (r7 = 0 → zCt G h sl 0 0 y_Reader_tryWord [(2, 72), (2, (-40))] M8 (fun r10 M11 => (r10 = 0 → Q (-1) M11) ∧ (¬ r10 = 0 → Q 3 M11))) ∧ (¬ r7 = 0 → Q 2 M8))) ∧ (¬ r4 = 0 → Q 1 M5))) ∧ (¬ r1 = 0 → Q 0 M2))) : zCt G (h + 1) sl 0 0 y_Reader_sortHere [(2, 72)] M Q := by
  refine zCt.of (by decide +kernel) (Nat.le_of_ble_eq_true rfl) ?_
  refine x_aload_n (zdm d_Reader_sortHere_0 0 rfl) rfl (n := 0) rfl ?_
  refine x_ldcS (zdm d_Reader_sortHere_0 1 rfl) (i := 16) (x := (-34)) rfl rfl ?_
  refine x_callVi (n := 1) (ci := 7) (zdm d_Reader_sortHere_0 2 rfl) k_Reader_103 (As := [(2, (-34))]) rfl rfl rfl ⟨_, _, rfl⟩ (Nat.le_of_ble_eq_true rfl) trivial H (fun r1 M2 hr H => ?_)
  have b3 : r1 = 0 ∨ r1 = 1 := hr
  refine x_ifeq (tgt := 11) (zdm d_Reader_sortHere_0 3 rfl) (by decide) (fun c => ?_) (fun c => ?_)
  · have H := H.1 c
    refine x_aload_n (zdm d_Reader_sortHere_0 6 rfl) rfl (n := 0) rfl ?_
    refine x_ldcS (zdm d_Reader_sortHere_0 7 rfl) (i := 17) (x := (-36)) rfl rfl ?_
    refine x_callVi (n := 1) (ci := 7) (zdm d_Reader_sortHere_0 8 rfl) k_Reader_103 (As := [(2, (-36))]) rfl rfl rfl ⟨_, _, rfl⟩ (Nat.le_of_ble_eq_true rfl) trivial H (fun r4 M5 hr H => ?_)
    have b6 : r4 = 0 ∨ r4 = 1 := hr
    refine x_ifeq (tgt := 22) (zdm d_Reader_sortHere_0 9 rfl) (by decide) (fun c => ?_) (fun c => ?_)
    · have H := H.1 c
      refine x_aload_n (zdm d_Reader_sortHere_0 12 rfl) rfl (n := 0) rfl ?_
      refine x_ldcS (zdm d_Reader_sortHere_0 13 rfl) (i := 18) (x := (-38)) rfl rfl ?_
      refine x_callVi (n := 1) (ci := 7) (zdm d_Reader_sortHere_0 14 rfl) k_Reader_103 (As := [(2, (-38))]) rfl rfl rfl ⟨_, _, rfl⟩ (Nat.le_of_ble_eq_true rfl) trivial H (fun r7 M8 hr H => ?_)
      have b9 : r7 = 0 ∨ r7 = 1 := hr
      refine x_ifeq (tgt := 33) (zdm d_Reader_sortHere_0 15 rfl) (by decide) (fun c => ?_) (fun c => ?_)
      · have H := H.1 c
        refine x_aload_n (zdm d_Reader_sortHere_0 18 rfl) rfl (n := 0) rfl ?_
        refine x_ldcS (zdm d_Reader_sortHere_0 19 rfl) (i := 19) (x := (-40)) rfl rfl ?_
        refine x_callVi (n := 1) (ci := 7) (zdm d_Reader_sortHere_0 20 rfl) k_Reader_103 (As := [(2, (-40))]) rfl rfl rfl ⟨_, _, rfl⟩ (Nat.le_of_ble_eq_true rfl) trivial H (fun r10 M11 hr H => ?_)
        have b12 : r10 = 0 ∨ r10 = 1 := hr
        refine x_ifeq (tgt := 46) (zdm d_Reader_sortHere_0 21 rfl) (by decide) (fun c => ?_) (fun c => ?_)
        · have H := H.1 c
          refine x_iconst (zdm d_Reader_sortHere_0 24 rfl) (zIl rfl) ?_
          exact x_iret (zdm d_Reader_sortHere_0 25 rfl) rfl H
        · have H := H.2 c
          refine x_iconst (zdm d_Reader_sortHere_0 22 rfl) (zIl rfl) ?_
          refine x_goto (tgt := 47) (zdm d_Reader_sortHere_0 23 rfl) (by decide) ?_
          exact x_iret (zdm d_Reader_sortHere_0 25 rfl) rfl H
      · have H := H.2 c
        refine x_iconst (zdm d_Reader_sortHere_0 16 rfl) (zIl rfl) ?_
        exact x_iret (zdm d_Reader_sortHere_0 17 rfl) rfl H
    · have H := H.2 c
      refine x_iconst (zdm d_Reader_sortHere_0 10 rfl) (zIl rfl) ?_
      exact x_iret (zdm d_Reader_sortHere_0 11 rfl) rfl H
  · have H := H.2 c
    refine x_iconst (zdm d_Reader_sortHere_0 4 rfl) (zIl rfl) ?_
    exact x_iret (zdm d_Reader_sortHere_0 5 rfl) rfl H
set_option maxRecDepth 20000 in
set_option maxHeartbeats 4000000 in
theorem E_Reader_zig {G : zG} {h sl : Nat} (hsl : 1 ≤ sl) {l1 : Int} {M : zM} {Q : Int → zM → Prop} (H : zCt G h sl 0 0 y_Reader_numberBehind [(2, 72), (2, (-44)), (0, 0), (0, 999)] M (fun r1 M2 => (zK l1 = (1, 0)) ∧ ((zI (((zwr M2 l1 2 r1) l1 2) + 1)) ∧ (zCt G h sl 0 0 y_Reader_numberBehind [(2, 72), (2, (-46)), (0, (((zwr M2 l1 2 r1) l1 2) + 1)), (0, 999)] (zwr M2 l1 2 r1) (fun r5 M6 => (zI (((zwr M6 l1 3 r5) l1 3) - ((zwr M6 l1 3 r5) l1 2))) ∧ (zCt G h sl 0 0 y_Reader_numberBehind [(2, 72), (2, (-48)), (0, 1), (0, (((zwr M6 l1 3 r5) l1 3) - ((zwr M6 l1 3 r5) l1 2)))] (zwr M6 l1 3 r5) (fun r8 M9 => zCt G h sl 0 0 y_Reader_numberBehind [(2, 72), (2, (-50)), (0, ((zwr M9 l1 6 r8) l1 2)), (0, ((zwr M9 l1 6 r8) l1 3))] (zwr M9 l1 6 r8) (fun r10 M11 => (¬ ((zwr M11 l1 4 r10) 72 3) = 0 → Q 0 (zwr M11 l1 4 r10)) ∧ (¬ (¬ ((zwr M11 l1 4 r10) 72 3) = 0) → zCt G h sl 0 0 y_Reader_tryWord [(2, 72), (2, (-52))] (zwr M11 l1 4 r10) (fun r12 M13 => (¬ ((zwr M13 l1 5 r12) l1 5) = 0 → Q 0 (zwr M13 l1 5 r12)) ∧ (¬ (¬ ((zwr M13 l1 5 r12) l1 5) = 0) → zCt G h sl 0 0 y_Reader_takeWord [(2, 72), (2, (-54))] (zwr M13 l1 5 r12) (fun r15 M16 => Q 0 M16)))))))))))) : zCt G (h + 1) sl 0 0 y_Reader_zig [(2, 72), (2, l1)] M Q := by
  refine zCt.of (by decide +kernel) (Nat.le_of_ble_eq_true rfl) ?_
  refine x_aload_n (zdm d_Reader_zig_0 0 rfl) rfl (n := 1) rfl ?_
  refine x_aload_n (zdm d_Reader_zig_0 1 rfl) rfl (n := 0) rfl ?_
  refine x_ldcS (zdm d_Reader_zig_0 2 rfl) (i := 21) (x := (-44)) rfl rfl ?_
  refine x_iconst (zdm d_Reader_zig_0 3 rfl) (zIl rfl) ?_
  refine x_sipush (zdm d_Reader_zig_0 4 rfl) (by decide) ?_
  refine x_callVi (n := 3) (ci := 7) (zdm d_Reader_zig_0 5 rfl) k_Reader_178 (As := [(2, (-44)), (0, 0), (0, 999)]) rfl rfl rfl ⟨_, _, rfl⟩ (Nat.le_of_ble_eq_true rfl) trivial H (fun r1 M2 hr H => ?_)
  obtain ⟨g3, H⟩ := H
  refine x_putf (zdm d_Reader_zig_0 6 rfl) f_Reader_182 g3 ⟨rfl, trivial⟩ (Or.inl rfl) ?_
  refine x_aload_n (zdm d_Reader_zig_0 7 rfl) rfl (n := 1) rfl ?_
  refine x_aload_n (zdm d_Reader_zig_0 8 rfl) rfl (n := 0) rfl ?_
  refine x_ldcS (zdm d_Reader_zig_0 9 rfl) (i := 22) (x := (-46)) rfl rfl ?_
  refine x_aload_n (zdm d_Reader_zig_0 10 rfl) rfl (n := 1) rfl ?_
  refine x_getf (zdm d_Reader_zig_0 11 rfl) f_Reader_182 g3 rfl ?_
  refine x_iconst (zdm d_Reader_zig_0 12 rfl) (zIl rfl) ?_
  obtain ⟨g4, H⟩ := H
  refine x_iadd (zdm d_Reader_zig_0 13 rfl) g4 ?_
  refine x_sipush (zdm d_Reader_zig_0 14 rfl) (by decide) ?_
  refine x_callVi (n := 3) (ci := 7) (zdm d_Reader_zig_0 15 rfl) k_Reader_178 (As := [(2, (-46)), (0, (((zwr M2 l1 2 r1) l1 2) + 1)), (0, 999)]) rfl rfl rfl ⟨_, _, rfl⟩ (Nat.le_of_ble_eq_true rfl) trivial H (fun r5 M6 hr H => ?_)
  refine x_putf (zdm d_Reader_zig_0 16 rfl) f_Reader_185 g3 ⟨rfl, trivial⟩ (Or.inl rfl) ?_
  refine x_aload_n (zdm d_Reader_zig_0 17 rfl) rfl (n := 1) rfl ?_
  refine x_aload_n (zdm d_Reader_zig_0 18 rfl) rfl (n := 0) rfl ?_
  refine x_ldcS (zdm d_Reader_zig_0 19 rfl) (i := 23) (x := (-48)) rfl rfl ?_
  refine x_iconst (zdm d_Reader_zig_0 20 rfl) (zIl rfl) ?_
  refine x_aload_n (zdm d_Reader_zig_0 21 rfl) rfl (n := 1) rfl ?_
  refine x_getf (zdm d_Reader_zig_0 22 rfl) f_Reader_185 g3 rfl ?_
  refine x_aload_n (zdm d_Reader_zig_0 23 rfl) rfl (n := 1) rfl ?_
  refine x_getf (zdm d_Reader_zig_0 24 rfl) f_Reader_182 g3 rfl ?_
  obtain ⟨g7, H⟩ := H
  refine x_isub (zdm d_Reader_zig_0 25 rfl) g7 ?_
  refine x_callVi (n := 3) (ci := 7) (zdm d_Reader_zig_0 26 rfl) k_Reader_178 (As := [(2, (-48)), (0, 1), (0, (((zwr M6 l1 3 r5) l1 3) - ((zwr M6 l1 3 r5) l1 2)))]) rfl rfl rfl ⟨_, _, rfl⟩ (Nat.le_of_ble_eq_true rfl) trivial H (fun r8 M9 hr H => ?_)
  refine x_putf (zdm d_Reader_zig_0 27 rfl) f_Reader_190 g3 ⟨rfl, trivial⟩ (Or.inl rfl) ?_
  refine x_aload_n (zdm d_Reader_zig_0 28 rfl) rfl (n := 1) rfl ?_
  refine x_aload_n (zdm d_Reader_zig_0 29 rfl) rfl (n := 0) rfl ?_
  refine x_ldcS (zdm d_Reader_zig_0 30 rfl) (i := 24) (x := (-50)) rfl rfl ?_
  refine x_aload_n (zdm d_Reader_zig_0 31 rfl) rfl (n := 1) rfl ?_
  refine x_getf (zdm d_Reader_zig_0 32 rfl) f_Reader_182 g3 rfl ?_
  refine x_aload_n (zdm d_Reader_zig_0 33 rfl) rfl (n := 1) rfl ?_
  refine x_getf (zdm d_Reader_zig_0 34 rfl) f_Reader_185 g3 rfl ?_
  refine x_callVi (n := 3) (ci := 7) (zdm d_Reader_zig_0 35 rfl) k_Reader_178 (As := [(2, (-50)), (0, ((zwr M9 l1 6 r8) l1 2)), (0, ((zwr M9 l1 6 r8) l1 3))]) rfl rfl rfl ⟨_, _, rfl⟩ (Nat.le_of_ble_eq_true rfl) trivial H (fun r10 M11 hr H => ?_)
  refine x_putf (zdm d_Reader_zig_0 36 rfl) f_Reader_195 g3 ⟨rfl, trivial⟩ (Or.inl rfl) ?_
  refine x_aload_n (zdm d_Reader_zig_0 37 rfl) rfl (n := 0) rfl ?_
  refine x_getf (zdm d_Reader_zig_0 38 rfl) f_Reader_89 rfl rfl ?_
  refine x_ifne (tgt := 102) (zdm d_Reader_zig_0 39 rfl) (by decide) (fun c => ?_) (fun c => ?_)
  · have H := H.1 c
    exact x_return (zdm d_Reader_zig_0 52 rfl) rfl H
  · have H := H.2 c
    refine x_aload_n (zdm d_Reader_zig_0 40 rfl) rfl (n := 1) rfl ?_
    refine x_aload_n (zdm d_Reader_zig_0 41 rfl) rfl (n := 0) rfl ?_
    refine x_ldcS (zdm d_Reader_zig_0 42 rfl) (i := 25) (x := (-52)) rfl rfl ?_
    refine x_callVi (n := 1) (ci := 7) (zdm d_Reader_zig_0 43 rfl) k_Reader_103 (As := [(2, (-52))]) rfl rfl rfl ⟨_, _, rfl⟩ (Nat.le_of_ble_eq_true rfl) trivial H (fun r12 M13 hr H => ?_)
    have b14 : r12 = 0 ∨ r12 = 1 := hr
    refine x_putf (zdm d_Reader_zig_0 44 rfl) f_Reader_199 g3 ⟨rfl, b14⟩ (Or.inl rfl) ?_
    refine x_aload_n (zdm d_Reader_zig_0 45 rfl) rfl (n := 1) rfl ?_
    refine x_getf (zdm d_Reader_zig_0 46 rfl) f_Reader_199 g3 rfl ?_
    refine x_ifne (tgt := 102) (zdm d_Reader_zig_0 47 rfl) (by decide) (fun c => ?_) (fun c => ?_)
    · have H := H.1 c
      exact x_return (zdm d_Reader_zig_0 52 rfl) rfl H
    · have H := H.2 c
      refine x_aload_n (zdm d_Reader_zig_0 48 rfl) rfl (n := 0) rfl ?_
      refine x_ldcS (zdm d_Reader_zig_0 49 rfl) (i := 26) (x := (-54)) rfl rfl ?_
      refine x_callVi (n := 1) (ci := 7) (zdm d_Reader_zig_0 50 rfl) k_Reader_167 (As := [(2, (-54))]) rfl rfl rfl ⟨_, _, rfl⟩ (Nat.le_of_ble_eq_true rfl) trivial H (fun r15 M16 hr H => ?_)
      have b17 : r15 = 0 ∨ r15 = 1 := hr
      refine x_pop (zdm d_Reader_zig_0 51 rfl) z0n1 ?_
      exact x_return (zdm d_Reader_zig_0 52 rfl) rfl H
set_option maxRecDepth 20000 in
set_option maxHeartbeats 4000000 in
theorem E_Reader_arc {G : zG} {h sl : Nat} (hsl : 1 ≤ sl) {l1 : Int} {M : zM} {Q : Int → zM → Prop} (H : zCt G h sl 0 0 y_Reader_numberBehind [(2, 72), (2, (-56)), (0, 4), (0, 999)] M (fun r1 M2 => (zI (r1 - 1)) ∧ ((zK l1 = (1, 0)) ∧ (zCt G h sl 0 0 y_Reader_numberBehind [(2, 72), (2, (-50)), (0, 0), (0, (r1 - 1))] (zwr M2 l1 3 (r1 - 1)) (fun r5 M6 => (zI (r1 - 2)) ∧ (zCt G h sl 0 0 y_Reader_numberBehind [(2, 72), (2, (-46)), (0, 2), (0, (r1 - 2))] (zwr M6 l1 4 r5) (fun r8 M9 => zCt G h sl 0 0 y_Reader_numberBehind [(2, 72), (2, (-58)), (0, 1), (0, ((zwr M9 l1 8 r8) l1 8))] (zwr M9 l1 8 r8) (fun r10 M11 => (zI (r1 - ((zwr M11 l1 6 r10) l1 8))) ∧ (zCt G h sl 0 0 y_Reader_numberBehind [(2, 72), (2, (-60)), (0, 1), (0, (r1 - ((zwr M11 l1 6 r10) l1 8)))] (zwr M11 l1 6 r10) (fun r13 M14 => Q 0 (zwr M14 l1 7 r13))))))))))) : zCt G (h + 1) sl 0 0 y_Reader_arc [(2, 72), (2, l1)] M Q := by
  refine zCt.of (by decide +kernel) (Nat.le_of_ble_eq_true rfl) ?_
  refine x_aload_n (zdm d_Reader_arc_0 0 rfl) rfl (n := 0) rfl ?_
  refine x_ldcS (zdm d_Reader_arc_0 1 rfl) (i := 27) (x := (-56)) rfl rfl ?_
  refine x_iconst (zdm d_Reader_arc_0 2 rfl) (zIl rfl) ?_
  refine x_sipush (zdm d_Reader_arc_0 3 rfl) (by decide) ?_
  refine x_callVi (n := 3) (ci := 7) (zdm d_Reader_arc_0 4 rfl) k_Reader_178 (As := [(2, (-56)), (0, 4), (0, 999)]) rfl rfl rfl ⟨_, _, rfl⟩ (Nat.le_of_ble_eq_true rfl) trivial H (fun r1 M2 hr H => ?_)
  refine x_istore_n (zdm d_Reader_arc_0 5 rfl) rfl (zlt rfl) rfl ?_
  refine x_aload_n (zdm d_Reader_arc_0 6 rfl) rfl (n := 2) rfl ?_
  refine x_iload_n (zdm d_Reader_arc_0 7 rfl) rfl (n := 0) rfl ?_
  refine x_iconst (zdm d_Reader_arc_0 8 rfl) (zIl rfl) ?_
  obtain ⟨g3, H⟩ := H
  refine x_isub (zdm d_Reader_arc_0 9 rfl) g3 ?_
  obtain ⟨g4, H⟩ := H
  refine x_putf (zdm d_Reader_arc_0 10 rfl) f_Reader_185 g4 ⟨rfl, trivial⟩ (Or.inl rfl) ?_
  refine x_aload_n (zdm d_Reader_arc_0 11 rfl) rfl (n := 2) rfl ?_
  refine x_aload_n (zdm d_Reader_arc_0 12 rfl) rfl (n := 1) rfl ?_
  refine x_ldcS (zdm d_Reader_arc_0 13 rfl) (i := 24) (x := (-50)) rfl rfl ?_
  refine x_iconst (zdm d_Reader_arc_0 14 rfl) (zIl rfl) ?_
  refine x_iload_n (zdm d_Reader_arc_0 15 rfl) rfl (n := 0) rfl ?_
  refine x_iconst (zdm d_Reader_arc_0 16 rfl) (zIl rfl) ?_
  refine x_isub (zdm d_Reader_arc_0 17 rfl) g3 ?_
  refine x_callVi (n := 3) (ci := 7) (zdm d_Reader_arc_0 18 rfl) k_Reader_178 (As := [(2, (-50)), (0, 0), (0, (r1 - 1))]) rfl rfl rfl ⟨_, _, rfl⟩ (Nat.le_of_ble_eq_true rfl) trivial H (fun r5 M6 hr H => ?_)
  refine x_putf (zdm d_Reader_arc_0 19 rfl) f_Reader_195 g4 ⟨rfl, trivial⟩ (Or.inl rfl) ?_
  refine x_aload_n (zdm d_Reader_arc_0 20 rfl) rfl (n := 2) rfl ?_
  refine x_aload_n (zdm d_Reader_arc_0 21 rfl) rfl (n := 1) rfl ?_
  refine x_ldcS (zdm d_Reader_arc_0 22 rfl) (i := 22) (x := (-46)) rfl rfl ?_
  refine x_iconst (zdm d_Reader_arc_0 23 rfl) (zIl rfl) ?_
  refine x_iload_n (zdm d_Reader_arc_0 24 rfl) rfl (n := 0) rfl ?_
  refine x_iconst (zdm d_Reader_arc_0 25 rfl) (zIl rfl) ?_
  obtain ⟨g7, H⟩ := H
  refine x_isub (zdm d_Reader_arc_0 26 rfl) g7 ?_
  refine x_callVi (n := 3) (ci := 7) (zdm d_Reader_arc_0 27 rfl) k_Reader_178 (As := [(2, (-46)), (0, 2), (0, (r1 - 2))]) rfl rfl rfl ⟨_, _, rfl⟩ (Nat.le_of_ble_eq_true rfl) trivial H (fun r8 M9 hr H => ?_)
  refine x_putf (zdm d_Reader_arc_0 28 rfl) f_Reader_205 g4 ⟨rfl, trivial⟩ (Or.inl rfl) ?_
  refine x_aload_n (zdm d_Reader_arc_0 29 rfl) rfl (n := 2) rfl ?_
  refine x_aload_n (zdm d_Reader_arc_0 30 rfl) rfl (n := 1) rfl ?_
  refine x_ldcS (zdm d_Reader_arc_0 31 rfl) (i := 28) (x := (-58)) rfl rfl ?_
  refine x_iconst (zdm d_Reader_arc_0 32 rfl) (zIl rfl) ?_
  refine x_aload_n (zdm d_Reader_arc_0 33 rfl) rfl (n := 2) rfl ?_
  refine x_getf (zdm d_Reader_arc_0 34 rfl) f_Reader_205 g4 rfl ?_
  refine x_callVi (n := 3) (ci := 7) (zdm d_Reader_arc_0 35 rfl) k_Reader_178 (As := [(2, (-58)), (0, 1), (0, ((zwr M9 l1 8 r8) l1 8))]) rfl rfl rfl ⟨_, _, rfl⟩ (Nat.le_of_ble_eq_true rfl) trivial H (fun r10 M11 hr H => ?_)
  refine x_putf (zdm d_Reader_arc_0 36 rfl) f_Reader_190 g4 ⟨rfl, trivial⟩ (Or.inl rfl) ?_
  refine x_aload_n (zdm d_Reader_arc_0 37 rfl) rfl (n := 2) rfl ?_
  refine x_aload_n (zdm d_Reader_arc_0 38 rfl) rfl (n := 1) rfl ?_
  refine x_ldcS (zdm d_Reader_arc_0 39 rfl) (i := 29) (x := (-60)) rfl rfl ?_
  refine x_iconst (zdm d_Reader_arc_0 40 rfl) (zIl rfl) ?_
  refine x_iload_n (zdm d_Reader_arc_0 41 rfl) rfl (n := 0) rfl ?_
  refine x_aload_n (zdm d_Reader_arc_0 42 rfl) rfl (n := 2) rfl ?_
  refine x_getf (zdm d_Reader_arc_0 43 rfl) f_Reader_205 g4 rfl ?_
  obtain ⟨g12, H⟩ := H
  refine x_isub (zdm d_Reader_arc_0 44 rfl) g12 ?_
  refine x_callVi (n := 3) (ci := 7) (zdm d_Reader_arc_0 45 rfl) k_Reader_178 (As := [(2, (-60)), (0, 1), (0, (r1 - ((zwr M11 l1 6 r10) l1 8)))]) rfl rfl rfl ⟨_, _, rfl⟩ (Nat.le_of_ble_eq_true rfl) trivial H (fun r13 M14 hr H => ?_)
  refine x_putf (zdm d_Reader_arc_0 46 rfl) f_Reader_212 g4 ⟨rfl, trivial⟩ (Or.inl rfl) ?_
  exact x_return (zdm d_Reader_arc_0 47 rfl) rfl H
set_option maxRecDepth 20000 in
set_option maxHeartbeats 4000000 in
theorem E_Reader_ring {G : zG} {h sl : Nat} (hsl : 1 ≤ sl) {l1 : Int} {M : zM} {Q : Int → zM → Prop} (H : zCt G h sl 0 0 y_Reader_numberBehind [(2, 72), (2, (-56)), (0, 2), (0, 999)] M (fun r1 M2 => (zI (r1 - 1)) ∧ ((zK l1 = (1, 0)) ∧ (zCt G h sl 0 0 y_Reader_numberBehind [(2, 72), (2, (-50)), (0, 0), (0, ((zwr M2 l1 3 (r1 - 1)) l1 3))] (zwr M2 l1 3 (r1 - 1)) (fun r5 M6 => (¬ ((zwr M6 l1 4 r5) 72 3) = 0 → Q 0 (zwr M6 l1 4 r5)) ∧ (¬ (¬ ((zwr M6 l1 4 r5) 72 3) = 0) → zCt G h sl 0 0 y_Reader_takeWord [(2, 72), (2, (-48))] (zwr M6 l1 4 r5) (fun r7 M8 => Q 0 M8))))))) : zCt G (h + 1) sl 0 0 y_Reader_ring [(2, 72), (2, l1)] M Q := by
  refine zCt.of (by decide +kernel) (Nat.le_of_ble_eq_true rfl) ?_
  refine x_aload_n (zdm d_Reader_ring_0 0 rfl) rfl (n := 1) rfl ?_
  refine x_aload_n (zdm d_Reader_ring_0 1 rfl) rfl (n := 0) rfl ?_
  refine x_ldcS (zdm d_Reader_ring_0 2 rfl) (i := 27) (x := (-56)) rfl rfl ?_
  refine x_iconst (zdm d_Reader_ring_0 3 rfl) (zIl rfl) ?_
  refine x_sipush (zdm d_Reader_ring_0 4 rfl) (by decide) ?_
  refine x_callVi (n := 3) (ci := 7) (zdm d_Reader_ring_0 5 rfl) k_Reader_178 (As := [(2, (-56)), (0, 2), (0, 999)]) rfl rfl rfl ⟨_, _, rfl⟩ (Nat.le_of_ble_eq_true rfl) trivial H (fun r1 M2 hr H => ?_)
  refine x_iconst (zdm d_Reader_ring_0 6 rfl) (zIl rfl) ?_
  obtain ⟨g3, H⟩ := H
  refine x_isub (zdm d_Reader_ring_0 7 rfl) g3 ?_
  obtain ⟨g4, H⟩ := H
  refine x_putf (zdm d_Reader_ring_0 8 rfl) f_Reader_185 g4 ⟨rfl, trivial⟩ (Or.inl rfl) ?_
  refine x_aload_n (zdm d_Reader_ring_0 9 rfl) rfl (n := 1) rfl ?_
  refine x_aload_n (zdm d_Reader_ring_0 10 rfl) rfl (n := 0) rfl ?_
  refine x_ldcS (zdm d_Reader_ring_0 11 rfl) (i := 24) (x := (-50)) rfl rfl ?_
  refine x_iconst (zdm d_Reader_ring_0 12 rfl) (zIl rfl) ?_
  refine x_aload_n (zdm d_Reader_ring_0 13 rfl) rfl (n := 1) rfl ?_
  refine x_getf (zdm d_Reader_ring_0 14 rfl) f_Reader_185 g4 rfl ?_
  refine x_callVi (n := 3) (ci := 7) (zdm d_Reader_ring_0 15 rfl) k_Reader_178 (As := [(2, (-50)), (0, 0), (0, ((zwr M2 l1 3 (r1 - 1)) l1 3))]) rfl rfl rfl ⟨_, _, rfl⟩ (Nat.le_of_ble_eq_true rfl) trivial H (fun r5 M6 hr H => ?_)
  refine x_putf (zdm d_Reader_ring_0 16 rfl) f_Reader_195 g4 ⟨rfl, trivial⟩ (Or.inl rfl) ?_
  refine x_aload_n (zdm d_Reader_ring_0 17 rfl) rfl (n := 0) rfl ?_
  refine x_getf (zdm d_Reader_ring_0 18 rfl) f_Reader_89 rfl rfl ?_
  refine x_ifne (tgt := 45) (zdm d_Reader_ring_0 19 rfl) (by decide) (fun c => ?_) (fun c => ?_)
  · have H := H.1 c
    exact x_return (zdm d_Reader_ring_0 24 rfl) rfl H
  · have H := H.2 c
    refine x_aload_n (zdm d_Reader_ring_0 20 rfl) rfl (n := 0) rfl ?_
    refine x_ldcS (zdm d_Reader_ring_0 21 rfl) (i := 23) (x := (-48)) rfl rfl ?_
    refine x_callVi (n := 1) (ci := 7) (zdm d_Reader_ring_0 22 rfl) k_Reader_167 (As := [(2, (-48))]) rfl rfl rfl ⟨_, _, rfl⟩ (Nat.le_of_ble_eq_true rfl) trivial H (fun r7 M8 hr H => ?_)
    have b9 : r7 = 0 ∨ r7 = 1 := hr
    refine x_pop (zdm d_Reader_ring_0 23 rfl) z0n1 ?_
    exact x_return (zdm d_Reader_ring_0 24 rfl) rfl H
set_option maxRecDepth 20000 in
set_option maxHeartbeats 4000000 in
theorem E_Reader_sumOf {G : zG} {h sl : Nat} (hsl : 1 ≤ sl) {l1 : Int} {M : zM} {Q : Int → zM → Prop} (H : (zK (M 72 6) = (0, 0)) ∧ ((zK l1 = (1, 0)) ∧ (zCt G h sl 0 0 y_Reader_sum [(2, 72), (0, 0)] (zwr (zwr M l1 9 (M (M 72 6) 2)) 72 8 1) (fun r3 M4 => (zK ((zwr M4 72 8 0) 72 6) = (0, 0)) ∧ (Q r3 (zwr (zwr M4 72 8 0) l1 10 ((zwr M4 72 8 0) ((zwr M4 72 8 0) 72 6) 2))))))) : zCt G (h + 1) sl 0 0 y_Reader_sumOf [(2, 72), (2, l1)] M Q := by
  refine zCt.of (by decide +kernel) (Nat.le_of_ble_eq_true rfl) ?_
  refine x_aload_n (zdm d_Reader_sumOf_0 0 rfl) rfl (n := 1) rfl ?_
  refine x_aload_n (zdm d_Reader_sumOf_0 1 rfl) rfl (n := 0) rfl ?_
  refine x_getf (zdm d_Reader_sumOf_0 2 rfl) f_Reader_22 rfl rfl ?_
  obtain ⟨g1, H⟩ := H
  refine x_getf (zdm d_Reader_sumOf_0 3 rfl) f_Reader_67 g1 rfl ?_
  obtain ⟨g2, H⟩ := H
  refine x_putf (zdm d_Reader_sumOf_0 4 rfl) f_Reader_215 g2 ⟨rfl, trivial⟩ (Or.inl rfl) ?_
  refine x_aload_n (zdm d_Reader_sumOf_0 5 rfl) rfl (n := 0) rfl ?_
  refine x_iconst (zdm d_Reader_sumOf_0 6 rfl) (zIl rfl) ?_
  refine x_putf (zdm d_Reader_sumOf_0 7 rfl) f_Reader_95 rfl ⟨rfl, (Or.inr rfl)⟩ (Or.inl rfl) ?_
  refine x_aload_n (zdm d_Reader_sumOf_0 8 rfl) rfl (n := 0) rfl ?_
  refine x_iconst (zdm d_Reader_sumOf_0 9 rfl) (zIl rfl) ?_
  refine x_callVi (n := 1) (ci := 7) (zdm d_Reader_sumOf_0 10 rfl) k_Reader_86 (As := [(0, 0)]) rfl rfl rfl ⟨_, _, rfl⟩ (Nat.le_of_ble_eq_true rfl) trivial H (fun r3 M4 hr H => ?_)
  have b5 : r3 = 0 ∨ r3 = 1 := hr
  refine x_istore_n (zdm d_Reader_sumOf_0 11 rfl) rfl (zlt rfl) rfl ?_
  refine x_aload_n (zdm d_Reader_sumOf_0 12 rfl) rfl (n := 1) rfl ?_
  refine x_iconst (zdm d_Reader_sumOf_0 13 rfl) (zIl rfl) ?_
  refine x_putf (zdm d_Reader_sumOf_0 14 rfl) f_Reader_95 rfl ⟨rfl, (Or.inl rfl)⟩ (Or.inl rfl) ?_
  refine x_aload_n (zdm d_Reader_sumOf_0 15 rfl) rfl (n := 2) rfl ?_
  refine x_aload_n (zdm d_Reader_sumOf_0 16 rfl) rfl (n := 1) rfl ?_
  refine x_getf (zdm d_Reader_sumOf_0 17 rfl) f_Reader_22 rfl rfl ?_
  obtain ⟨g6, H⟩ := H
  refine x_getf (zdm d_Reader_sumOf_0 18 rfl) f_Reader_67 g6 rfl ?_
  refine x_putf (zdm d_Reader_sumOf_0 19 rfl) f_Reader_218 g2 ⟨rfl, trivial⟩ (Or.inl rfl) ?_
  refine x_iload_n (zdm d_Reader_sumOf_0 20 rfl) rfl (n := 0) rfl ?_
  exact x_ireturn (zdm d_Reader_sumOf_0 21 rfl) (ty := .boolean) rfl (by decide) b5 H
set_option maxRecDepth 20000 in
set_option maxHeartbeats 4000000 in
theorem B_Reader_name_67 {G : zG} {h sl : Nat} (hsl : 1 ≤ sl) {u : Nat × Nat × Nat × Nat} {l1 l2 : Int} {M : zM} {Q : Int → zM → Prop} (H : (6 ≤ l2 → zCt G h sl 0 0 y_Reader_advance [(2, 72)] M (fun r1 M2 => Q 1 M2)) ∧ (¬ 6 ≤ l2 → (zK l1 = (1, 0)) ∧ ((zI ((M 72 10) + l2)) ∧ (((M 72 11) ≤ ((M 72 10) + l2) → (0 ≤ l2 ∧ l2 < 6) ∧ ((zI (l2 + 1)) ∧ (zX G (y_Reader_name, h + 1, sl) u 67 [(0, (2, 72)), (1, (2, l1)), (2, (0, (l2 + 1)))] [] (zwr M (l1 + 1) l2 0) Q))) ∧ (¬ (M 72 11) ≤ ((M 72 10) + l2) → (0 ≤ ((M 72 10) + l2) ∧ ((M 72 10) + l2) < 1600) ∧ ((zI ((M 3 ((M 72 10) + l2)) - 97)) ∧ ((zI (((M 3 ((M 72 10) + l2)) - 97) + 1)) ∧ ((0 ≤ l2 ∧ l2 < 6) ∧ ((zI (l2 + 1)) ∧ (zX G (y_Reader_name, h + 1, sl) u 67 [(0, (2, 72)), (1, (2, l1)), (2, (0, (l2 + 1)))] [] (zwr M (l1 + 1) l2 (((M 3 ((M 72 10) + l2)) - 97) + 1)) Q)))))))))) : zX G (y_Reader_name, h + 1, sl) u 67 [(0, (2, 72)), (1, (2, l1)), (2, (0, l2))] [] M Q := by
  refine x_iload_n (zdm d_Reader_name_0 37 rfl) rfl (n := 2) rfl ?_
  refine x_bipush (zdm d_Reader_name_0 38 rfl) (by decide) ?_
  refine x_icmpge (tgt := 121) (zdm d_Reader_name_0 39 rfl) (by decide) (fun c => ?_) (fun c => ?_)
  · have H := H.1 c
    refine x_aload_n (zdm d_Reader_name_1 7 rfl) rfl (n := 0) rfl ?_
    refine x_callVv (n := 0) (ci := 7) (zdm d_Reader_name_1 8 rfl) k_Reader_98 (As := []) rfl rfl rfl ⟨_, _, rfl⟩ (Nat.le_of_ble_eq_true rfl) rfl H (fun r1 M2 hr H => ?_)
    refine x_iconst (zdm d_Reader_name_1 9 rfl) (zIl rfl) ?_
    exact x_ireturn (zdm d_Reader_name_1 10 rfl) (ty := .boolean) rfl (by decide) (Or.inr rfl) H
  · have H := H.2 c
    refine x_aload_n (zdm d_Reader_name_0 40 rfl) rfl (n := 1) rfl ?_
    obtain ⟨g3, H⟩ := H
    refine x_getG (zdm d_Reader_name_0 41 rfl) f_Reader_227 g3 rfl (by decide) hsl (zs_1 g3).1 ?_
    refine x_iload_n (zdm d_Reader_name_0 42 rfl) rfl (n := 2) rfl ?_
    refine x_aload_n (zdm d_Reader_name_0 43 rfl) rfl (n := 0) rfl ?_
    refine x_getf (zdm d_Reader_name_0 44 rfl) f_Reader_49 rfl rfl ?_
    refine x_iload_n (zdm d_Reader_name_0 45 rfl) rfl (n := 2) rfl ?_
    obtain ⟨g4, H⟩ := H
    refine x_iadd (zdm d_Reader_name_0 46 rfl) g4 ?_
    refine x_aload_n (zdm d_Reader_name_0 47 rfl) rfl (n := 0) rfl ?_
    refine x_getf (zdm d_Reader_name_0 48 rfl) f_Reader_92 rfl rfl ?_
    refine x_icmpge (tgt := 113) (zdm d_Reader_name_0 49 rfl) (by decide) (fun c => ?_) (fun c => ?_)
    · have H := H.1 c
      refine x_iconst (zdm d_Reader_name_1 3 rfl) (zIl rfl) ?_
      obtain ⟨g5, H⟩ := H
      refine x_iast (zdm d_Reader_name_1 4 rfl) (zs_1 g3).2 g5 ?_
      obtain ⟨g6, H⟩ := H
      refine x_iinc (zdm d_Reader_name_1 5 rfl) (n := 2) rfl g6 (zlt rfl) rfl ?_
      refine x_goto (tgt := 67) (zdm d_Reader_name_1 6 rfl) (by decide) ?_
      exact zX.sub [1, 2, 0] rfl H
    · have H := H.2 c
      refine x_aload_n (zdm d_Reader_name_0 50 rfl) rfl (n := 0) rfl ?_
      refine x_getG (zdm d_Reader_name_0 51 rfl) f_Reader_25 rfl rfl (by decide) hsl rfl ?_
      refine x_getG (zdm d_Reader_name_0 52 rfl) f_Reader_230 rfl rfl (by decide) hsl rfl ?_
      refine x_aload_n (zdm d_Reader_name_0 53 rfl) rfl (n := 0) rfl ?_
      refine x_getf (zdm d_Reader_name_0 54 rfl) f_Reader_49 rfl rfl ?_
      refine x_iload_n (zdm d_Reader_name_0 55 rfl) rfl (n := 2) rfl ?_
      refine x_iadd (zdm d_Reader_name_0 56 rfl) g4 ?_
      obtain ⟨g7, H⟩ := H
      refine x_iald (zdm d_Reader_name_0 57 rfl) rfl g7 ?_
      refine x_bipush (zdm d_Reader_name_0 58 rfl) (by decide) ?_
      obtain ⟨g8, H⟩ := H
      refine x_isub (zdm d_Reader_name_0 59 rfl) g8 ?_
      refine x_iconst (zdm d_Reader_name_1 0 rfl) (zIl rfl) ?_
      obtain ⟨g9, H⟩ := H
      refine x_iadd (zdm d_Reader_name_1 1 rfl) g9 ?_
      refine x_goto (tgt := 114) (zdm d_Reader_name_1 2 rfl) (by decide) ?_
      obtain ⟨g10, H⟩ := H
      refine x_iast (zdm d_Reader_name_1 4 rfl) (zs_1 g3).2 g10 ?_
      obtain ⟨g11, H⟩ := H
      refine x_iinc (zdm d_Reader_name_1 5 rfl) (n := 2) rfl g11 (zlt rfl) rfl ?_
      refine x_goto (tgt := 67) (zdm d_Reader_name_1 6 rfl) (by decide) ?_
      exact zX.sub [1, 2, 0] rfl H
set_option maxRecDepth 20000 in
set_option maxHeartbeats 4000000 in
theorem B_Reader_name_15 {G : zG} {h sl : Nat} (hsl : 1 ≤ sl) {u : Nat × Nat × Nat × Nat} {M : zM} {Q : Int → zM → Prop} (H : zCt G h sl 0 0 y_Reader_unfit [(2, 72)] M (fun r1 M2 => Q r1 M2)) : zX G (y_Reader_name, h + 1, sl) u 15 [(0, (2, 72))] [] M Q := by
  refine x_aload_n (zdm d_Reader_name_0 7 rfl) rfl (n := 0) rfl ?_
  refine x_callVi (n := 0) (ci := 7) (zdm d_Reader_name_0 8 rfl) k_Reader_77 (As := []) rfl rfl rfl ⟨_, _, rfl⟩ (Nat.le_of_ble_eq_true rfl) trivial H (fun r1 M2 hr H => ?_)
  have b3 : r1 = 0 ∨ r1 = 1 := hr
  exact x_ireturn (zdm d_Reader_name_0 9 rfl) (ty := .boolean) rfl (by decide) b3 H
set_option maxRecDepth 20000 in
set_option maxHeartbeats 4000000 in
theorem E_Reader_name {G : zG} {h sl : Nat} (hsl : 1 ≤ sl) {l1 : Int} {M : zM} {Q : Int → zM → Prop} (H : (¬ (M 72 9) = 1 → zX G (y_Reader_name, h + 1, sl) (0, 0, 0, 0) 15 [(0, (2, 72))] [] M Q) ∧ (¬ (¬ (M 72 9) = 1) → zCt G h sl 0 0 y_Reader_isOwnWord [(2, 72)] M (fun r1 M2 => (r1 = 0 → (zI ((M2 72 11) - (M2 72 10))) ∧ ((((M2 72 11) - (M2 72 10)) ≤ 6 → zCt G h sl 0 0 y_Reader_columnHere [(2, 72)] M2 (fun r5 M6 => (r5 = (-1) → zX G (y_Reader_name, h + 1, sl) (0, 0, 0, 0) 67 [(0, (2, 72)), (1, (2, l1)), (2, (0, 0))] [] M6 Q) ∧ (¬ r5 = (-1) → zCt G h sl 0 0 y_Reader_refuse [(2, 72), (0, 3), (0, (M6 72 10))] M6 (fun r7 M8 => Q r7 M8)))) ∧ (¬ ((M2 72 11) - (M2 72 10)) ≤ 6 → (zI ((M2 72 10) + 6)) ∧ (zCt G h sl 0 0 y_Reader_refuse [(2, 72), (0, 1), (0, ((M2 72 10) + 6))] M2 (fun r11 M12 => Q r11 M12))))) ∧ (¬ r1 = 0 → zX G (y_Reader_name, h + 1, sl) (0, 0, 0, 0) 15 [(0, (2, 72))] [] M2 Q)))) : zCt G (h + 1) sl 0 0 y_Reader_name [(2, 72), (2, l1)] M Q := by
  refine zCt.of (by decide +kernel) (Nat.le_of_ble_eq_true rfl) ?_
  refine x_aload_n (zdm d_Reader_name_0 0 rfl) rfl (n := 0) rfl ?_
  refine x_getf (zdm d_Reader_name_0 1 rfl) f_Reader_46 rfl rfl ?_
  refine x_iconst (zdm d_Reader_name_0 2 rfl) (zIl rfl) ?_
  refine x_icmpne (tgt := 15) (zdm d_Reader_name_0 3 rfl) (by decide) (fun c => ?_) (fun c => ?_)
  · have H := H.1 c
    exact zX.sub [0] rfl H
  · have H := H.2 c
    refine x_aload_n (zdm d_Reader_name_0 4 rfl) rfl (n := 0) rfl ?_
    refine x_callVi (n := 0) (ci := 7) (zdm d_Reader_name_0 5 rfl) k_Reader_221 (As := []) rfl rfl rfl ⟨_, _, rfl⟩ (Nat.le_of_ble_eq_true rfl) trivial H (fun r1 M2 hr H => ?_)
    have b3 : r1 = 0 ∨ r1 = 1 := hr
    refine x_ifeq (tgt := 20) (zdm d_Reader_name_0 6 rfl) (by decide) (fun c => ?_) (fun c => ?_)
    · have H := H.1 c
      refine x_aload_n (zdm d_Reader_name_0 10 rfl) rfl (n := 0) rfl ?_
      refine x_getf (zdm d_Reader_name_0 11 rfl) f_Reader_92 rfl rfl ?_
      refine x_aload_n (zdm d_Reader_name_0 12 rfl) rfl (n := 0) rfl ?_
      refine x_getf (zdm d_Reader_name_0 13 rfl) f_Reader_49 rfl rfl ?_
      obtain ⟨g4, H⟩ := H
      refine x_isub (zdm d_Reader_name_0 14 rfl) g4 ?_
      refine x_bipush (zdm d_Reader_name_0 15 rfl) (by decide) ?_
      refine x_icmple (tgt := 47) (zdm d_Reader_name_0 16 rfl) (by decide) (fun c => ?_) (fun c => ?_)
      · have H := H.1 c
        refine x_aload_n (zdm d_Reader_name_0 25 rfl) rfl (n := 0) rfl ?_
        refine x_callVi (n := 0) (ci := 7) (zdm d_Reader_name_0 26 rfl) k_Reader_224 (As := []) rfl rfl rfl ⟨_, _, rfl⟩ (Nat.le_of_ble_eq_true rfl) trivial H (fun r5 M6 hr H => ?_)
        refine x_iconst (zdm d_Reader_name_0 27 rfl) (zIl rfl) ?_
        refine x_icmpeq (tgt := 65) (zdm d_Reader_name_0 28 rfl) (by decide) (fun c => ?_) (fun c => ?_)
        · have H := H.1 c
          refine x_iconst (zdm d_Reader_name_0 35 rfl) (zIl rfl) ?_
          refine x_istore_n (zdm d_Reader_name_0 36 rfl) rfl (zlt rfl) rfl ?_
          exact zX.sub [1, 2, 0] rfl H
        · have H := H.2 c
          refine x_aload_n (zdm d_Reader_name_0 29 rfl) rfl (n := 0) rfl ?_
          refine x_iconst (zdm d_Reader_name_0 30 rfl) (zIl rfl) ?_
          refine x_aload_n (zdm d_Reader_name_0 31 rfl) rfl (n := 0) rfl ?_
          refine x_getf (zdm d_Reader_name_0 32 rfl) f_Reader_49 rfl rfl ?_
          refine x_callVi (n := 2) (ci := 7) (zdm d_Reader_name_0 33 rfl) k_Reader_52 (As := [(0, 3), (0, (M6 72 10))]) rfl rfl rfl ⟨_, _, rfl⟩ (Nat.le_of_ble_eq_true rfl) trivial H (fun r7 M8 hr H => ?_)
          have b9 : r7 = 0 ∨ r7 = 1 := hr
          exact x_ireturn (zdm d_Reader_name_0 34 rfl) (ty := .boolean) rfl (by decide) b9 H
      · have H := H.2 c
        refine x_aload_n (zdm d_Reader_name_0 17 rfl) rfl (n := 0) rfl ?_
        refine x_iconst (zdm d_Reader_name_0 18 rfl) (zIl rfl) ?_
        refine x_aload_n (zdm d_Reader_name_0 19 rfl) rfl (n := 0) rfl ?_
        refine x_getf (zdm d_Reader_name_0 20 rfl) f_Reader_49 rfl rfl ?_
        refine x_bipush (zdm d_Reader_name_0 21 rfl) (by decide) ?_
        obtain ⟨g10, H⟩ := H
        refine x_iadd (zdm d_Reader_name_0 22 rfl) g10 ?_
        refine x_callVi (n := 2) (ci := 7) (zdm d_Reader_name_0 23 rfl) k_Reader_52 (As := [(0, 1), (0, ((M2 72 10) + 6))]) rfl rfl rfl ⟨_, _, rfl⟩ (Nat.le_of_ble_eq_true rfl) trivial H (fun r11 M12 hr H => ?_)
        have b13 : r11 = 0 ∨ r11 = 1 := hr
        exact x_ireturn (zdm d_Reader_name_0 24 rfl) (ty := .boolean) rfl (by decide) b13 H
    · have H := H.2 c
      exact zX.sub [0] rfl H
set_option maxRecDepth 20000 in
set_option maxHeartbeats 4000000 in
theorem B_Reader_test_12 {G : zG} {h sl : Nat} (hsl : 1 ≤ sl) {u : Nat × Nat × Nat × Nat} {l1 l2 : Int} {M : zM} {Q : Int → zM → Prop} (H : (1600 ≤ l2 → Q 1 M) ∧ (¬ 1600 ≤ l2 → zCt G h sl 0 0 y_Reader_tryWord [(2, 72), (2, (-32))] M (fun r1 M2 => (r1 = 0 → Q 1 M2) ∧ (¬ r1 = 0 → zCt G h sl 0 0 y_Reader_both [(2, 72), (0, l1)] M2 (fun r4 M5 => (¬ r4 = 0 → (zK (M5 72 6) = (0, 0)) ∧ (zCt G h sl 0 0 y_Code_add [(2, (M5 72 6)), (0, 14), (0, 0)] M5 (fun r7 M8 => (zI (l2 + 1)) ∧ (zX G (y_Reader_test, h + 1, sl) u 12 [(0, (2, 72)), (1, (0, l1)), (2, (0, (l2 + 1)))] [] M8 Q)))) ∧ (¬ (¬ r4 = 0) → Q 0 M5)))))) : zX G (y_Reader_test, h + 1, sl) u 12 [(0, (2, 72)), (1, (0, l1)), (2, (0, l2))] [] M Q := by
  refine x_iload_n (zdm d_Reader_test_0 8 rfl) rfl (n := 2) rfl ?_
  refine x_sipush (zdm d_Reader_test_0 9 rfl) (by decide) ?_
  refine x_icmpge (tgt := 54) (zdm d_Reader_test_0 10 rfl) (by decide) (fun c => ?_) (fun c => ?_)
  · have H := H.1 c
    refine x_iconst (zdm d_Reader_test_0 28 rfl) (zIl rfl) ?_
    exact x_ireturn (zdm d_Reader_test_0 29 rfl) (ty := .boolean) rfl (by decide) (Or.inr rfl) H
  · have H := H.2 c
    refine x_aload_n (zdm d_Reader_test_0 11 rfl) rfl (n := 0) rfl ?_
    refine x_ldcS (zdm d_Reader_test_0 12 rfl) (i := 15) (x := (-32)) rfl rfl ?_
    refine x_callVi (n := 1) (ci := 7) (zdm d_Reader_test_0 13 rfl) k_Reader_103 (As := [(2, (-32))]) rfl rfl rfl ⟨_, _, rfl⟩ (Nat.le_of_ble_eq_true rfl) trivial H (fun r1 M2 hr H => ?_)
    have b3 : r1 = 0 ∨ r1 = 1 := hr
    refine x_ifeq (tgt := 54) (zdm d_Reader_test_0 14 rfl) (by decide) (fun c => ?_) (fun c => ?_)
    · have H := H.1 c
      refine x_iconst (zdm d_Reader_test_0 28 rfl) (zIl rfl) ?_
      exact x_ireturn (zdm d_Reader_test_0 29 rfl) (ty := .boolean) rfl (by decide) (Or.inr rfl) H
    · have H := H.2 c
      refine x_aload_n (zdm d_Reader_test_0 15 rfl) rfl (n := 0) rfl ?_
      refine x_iload_n (zdm d_Reader_test_0 16 rfl) rfl (n := 1) rfl ?_
      refine x_callVi (n := 1) (ci := 7) (zdm d_Reader_test_0 17 rfl) k_Reader_235 (As := [(0, l1)]) rfl rfl rfl ⟨_, _, rfl⟩ (Nat.le_of_ble_eq_true rfl) trivial H (fun r4 M5 hr H => ?_)
      have b6 : r4 = 0 ∨ r4 = 1 := hr
      refine x_ifne (tgt := 38) (zdm d_Reader_test_0 18 rfl) (by decide) (fun c => ?_) (fun c => ?_)
      · have H := H.1 c
        refine x_aload_n (zdm d_Reader_test_0 21 rfl) rfl (n := 0) rfl ?_
        refine x_getf (zdm d_Reader_test_0 22 rfl) f_Reader_22 rfl rfl ?_
        refine x_bipush (zdm d_Reader_test_0 23 rfl) (by decide) ?_
        refine x_iconst (zdm d_Reader_test_0 24 rfl) (zIl rfl) ?_
        obtain ⟨g9, H⟩ := H
        refine x_callVv (n := 2) (ci := 0) (zdm d_Reader_test_0 25 rfl) k_Reader_240 (As := [(0, 14), (0, 0)]) rfl rfl g9 ⟨_, _, rfl⟩ (Nat.le_of_ble_eq_true rfl) rfl H (fun r7 M8 hr H => ?_)
        obtain ⟨g10, H⟩ := H
        refine x_iinc (zdm d_Reader_test_0 26 rfl) (n := 2) rfl g10 (zlt rfl) rfl ?_
        refine x_goto (tgt := 12) (zdm d_Reader_test_0 27 rfl) (by decide) ?_
        exact zX.sub [1, 2, 0] rfl H
      · have H := H.2 c
        refine x_iconst (zdm d_Reader_test_0 19 rfl) (zIl rfl) ?_
        exact x_ireturn (zdm d_Reader_test_0 20 rfl) (ty := .boolean) rfl (by decide) (Or.inl rfl) H
set_option maxRecDepth 20000 in
set_option maxHeartbeats 4000000 in
theorem E_Reader_test {G : zG} {h sl : Nat} (hsl : 1 ≤ sl) {l1 : Int} {M : zM} {Q : Int → zM → Prop} (H : zCt G h sl 0 0 y_Reader_both [(2, 72), (0, l1)] M (fun r1 M2 => (¬ r1 = 0 → zX G (y_Reader_test, h + 1, sl) (0, 0, 0, 0) 12 [(0, (2, 72)), (1, (0, l1)), (2, (0, 0))] [] M2 Q) ∧ (¬ (¬ r1 = 0) → Q 0 M2))) : zCt G (h + 1) sl 0 0 y_Reader_test [(2, 72), (0, l1)] M Q := by
  refine zCt.of (by decide +kernel) (Nat.le_of_ble_eq_true rfl) ?_
  refine x_aload_n (zdm d_Reader_test_0 0 rfl) rfl (n := 0) rfl ?_
  refine x_iload_n (zdm d_Reader_test_0 1 rfl) rfl (n := 1) rfl ?_
  refine x_callVi (n := 1) (ci := 7) (zdm d_Reader_test_0 2 rfl) k_Reader_235 (As := [(0, l1)]) rfl rfl rfl ⟨_, _, rfl⟩ (Nat.le_of_ble_eq_true rfl) trivial H (fun r1 M2 hr H => ?_)
  have b3 : r1 = 0 ∨ r1 = 1 := hr
  refine x_ifne (tgt := 10) (zdm d_Reader_test_0 3 rfl) (by decide) (fun c => ?_) (fun c => ?_)
  · have H := H.1 c
    refine x_iconst (zdm d_Reader_test_0 6 rfl) (zIl rfl) ?_
    refine x_istore_n (zdm d_Reader_test_0 7 rfl) rfl (zlt rfl) rfl ?_
    exact zX.sub [1, 2, 0] rfl H
  · have H := H.2 c
    refine x_iconst (zdm d_Reader_test_0 4 rfl) (zIl rfl) ?_
    exact x_ireturn (zdm d_Reader_test_0 5 rfl) (ty := .boolean) rfl (by decide) (Or.inl rfl) H
set_option maxRecDepth 20000 in
set_option maxHeartbeats 4000000 in
theorem B_Reader_both_12 {G : zG} {h sl : Nat} (hsl : 1 ≤ sl) {u : Nat × Nat × Nat × Nat} {l1 l2 : Int} {M : zM} {Q : Int → zM → Prop} (H : (1600 ≤ l2 → Q 1 M) ∧ (¬ 1600 ≤ l2 → zCt G h sl 0 0 y_Reader_tryWord [(2, 72), (2, (-30))] M (fun r1 M2 => (r1 = 0 → Q 1 M2) ∧ (¬ r1 = 0 → zCt G h sl 0 0 y_Reader_fact [(2, 72), (0, l1)] M2 (fun r4 M5 => (¬ r4 = 0 → (zK (M5 72 6) = (0, 0)) ∧ (zCt G h sl 0 0 y_Code_add [(2, (M5 72 6)), (0, 13), (0, 0)] M5 (fun r7 M8 => (zI (l2 + 1)) ∧ (zX G (y_Reader_both, h + 1, sl) u 12 [(0, (2, 72)), (1, (0, l1)), (2, (0, (l2 + 1)))] [] M8 Q)))) ∧ (¬ (¬ r4 = 0) → Q 0 M5)))))) : zX G (y_Reader_both, h + 1, sl) u 12 [(0, (2, 72)), (1, (0, l1)), (2, (0, l2))] [] M Q := by
  refine x_iload_n (zdm d_Reader_both_0 8 rfl) rfl (n := 2) rfl ?_
  refine x_sipush (zdm d_Reader_both_0 9 rfl) (by decide) ?_
  refine x_icmpge (tgt := 54) (zdm d_Reader_both_0 10 rfl) (by decide) (fun c => ?_) (fun c => ?_)
  · have H := H.1 c
    refine x_iconst (zdm d_Reader_both_0 28 rfl) (zIl rfl) ?_
    exact x_ireturn (zdm d_Reader_both_0 29 rfl) (ty := .boolean) rfl (by decide) (Or.inr rfl) H
  · have H := H.2 c
    refine x_aload_n (zdm d_Reader_both_0 11 rfl) rfl (n := 0) rfl ?_
    refine x_ldcS (zdm d_Reader_both_0 12 rfl) (i := 14) (x := (-30)) rfl rfl ?_
    refine x_callVi (n := 1) (ci := 7) (zdm d_Reader_both_0 13 rfl) k_Reader_103 (As := [(2, (-30))]) rfl rfl rfl ⟨_, _, rfl⟩ (Nat.le_of_ble_eq_true rfl) trivial H (fun r1 M2 hr H => ?_)
    have b3 : r1 = 0 ∨ r1 = 1 := hr
    refine x_ifeq (tgt := 54) (zdm d_Reader_both_0 14 rfl) (by decide) (fun c => ?_) (fun c => ?_)
    · have H := H.1 c
      refine x_iconst (zdm d_Reader_both_0 28 rfl) (zIl rfl) ?_
      exact x_ireturn (zdm d_Reader_both_0 29 rfl) (ty := .boolean) rfl (by decide) (Or.inr rfl) H
    · have H := H.2 c
      refine x_aload_n (zdm d_Reader_both_0 15 rfl) rfl (n := 0) rfl ?_
      refine x_iload_n (zdm d_Reader_both_0 16 rfl) rfl (n := 1) rfl ?_
      refine x_callVi (n := 1) (ci := 7) (zdm d_Reader_both_0 17 rfl) k_Reader_244 (As := [(0, l1)]) rfl rfl rfl ⟨_, _, rfl⟩ (Nat.le_of_ble_eq_true rfl) trivial H (fun r4 M5 hr H => ?_)
      have b6 : r4 = 0 ∨ r4 = 1 := hr
      refine x_ifne (tgt := 38) (zdm d_Reader_both_0 18 rfl) (by decide) (fun c => ?_) (fun c => ?_)
      · have H := H.1 c
        refine x_aload_n (zdm d_Reader_both_0 21 rfl) rfl (n := 0) rfl ?_
        refine x_getf (zdm d_Reader_both_0 22 rfl) f_Reader_22 rfl rfl ?_
        refine x_bipush (zdm d_Reader_both_0 23 rfl) (by decide) ?_
        refine x_iconst (zdm d_Reader_both_0 24 rfl) (zIl rfl) ?_
        obtain ⟨g9, H⟩ := H
        refine x_callVv (n := 2) (ci := 0) (zdm d_Reader_both_0 25 rfl) k_Reader_240 (As := [(0, 13), (0, 0)]) rfl rfl g9 ⟨_, _, rfl⟩ (Nat.le_of_ble_eq_true rfl) rfl H (fun r7 M8 hr H => ?_)
        obtain ⟨g10, H⟩ := H
        refine x_iinc (zdm d_Reader_both_0 26 rfl) (n := 2) rfl g10 (zlt rfl) rfl ?_
        refine x_goto (tgt := 12) (zdm d_Reader_both_0 27 rfl) (by decide) ?_
        exact zX.sub [1, 2, 0] rfl H
      · have H := H.2 c
        refine x_iconst (zdm d_Reader_both_0 19 rfl) (zIl rfl) ?_
        exact x_ireturn (zdm d_Reader_both_0 20 rfl) (ty := .boolean) rfl (by decide) (Or.inl rfl) H
set_option maxRecDepth 20000 in
set_option maxHeartbeats 4000000 in
theorem E_Reader_both {G : zG} {h sl : Nat} (hsl : 1 ≤ sl) {l1 : Int} {M : zM} {Q : Int → zM → Prop} (H : zCt G h sl 0 0 y_Reader_fact [(2, 72), (0, l1)] M (fun r1 M2 => (¬ r1 = 0 → zX G (y_Reader_both, h + 1, sl) (0, 0, 0, 0) 12 [(0, (2, 72)), (1, (0, l1)), (2, (0, 0))] [] M2 Q) ∧ (¬ (¬ r1 = 0) → Q 0 M2))) : zCt G (h + 1) sl 0 0 y_Reader_both [(2, 72), (0, l1)] M Q := by
  refine zCt.of (by decide +kernel) (Nat.le_of_ble_eq_true rfl) ?_
  refine x_aload_n (zdm d_Reader_both_0 0 rfl) rfl (n := 0) rfl ?_
  refine x_iload_n (zdm d_Reader_both_0 1 rfl) rfl (n := 1) rfl ?_
  refine x_callVi (n := 1) (ci := 7) (zdm d_Reader_both_0 2 rfl) k_Reader_244 (As := [(0, l1)]) rfl rfl rfl ⟨_, _, rfl⟩ (Nat.le_of_ble_eq_true rfl) trivial H (fun r1 M2 hr H => ?_)
  have b3 : r1 = 0 ∨ r1 = 1 := hr
  refine x_ifne (tgt := 10) (zdm d_Reader_both_0 3 rfl) (by decide) (fun c => ?_) (fun c => ?_)
  · have H := H.1 c
    refine x_iconst (zdm d_Reader_both_0 6 rfl) (zIl rfl) ?_
    refine x_istore_n (zdm d_Reader_both_0 7 rfl) rfl (zlt rfl) rfl ?_
    exact zX.sub [1, 2, 0] rfl H
  · have H := H.2 c
    refine x_iconst (zdm d_Reader_both_0 4 rfl) (zIl rfl) ?_
    exact x_ireturn (zdm d_Reader_both_0 5 rfl) (ty := .boolean) rfl (by decide) (Or.inl rfl) H
set_option maxRecDepth 20000 in
set_option maxHeartbeats 4000000 in
theorem E_Reader_fact {G : zG} {h sl : Nat} (hsl : 1 ≤ sl) {l1 : Int} {M : zM} {Q : Int → zM → Prop} (H : zCt G h sl 0 0 y_Reader_tryWord [(2, 72), (2, (-6))] M (fun r1 M2 => (r1 = 0 → zCt G h sl 0 0 y_Reader_isSign [(2, 72), (0, 91)] M2 (fun r4 M5 => (r4 = 0 → zCt G h sl 0 0 y_Reader_tryWord [(2, 72), (2, (-8))] M5 (fun r7 M8 => (r7 = 0 → zCt G h sl 0 0 y_Reader_sum [(2, 72), (0, l1)] M8 (fun r10 M11 => (¬ r10 = 0 → zCt G h sl 0 0 y_Reader_comparisonHere [(2, 72)] M11 (fun r13 M14 => (¬ r13 = (-1) → zCt G h sl 0 0 y_Reader_advance [(2, 72)] M14 (fun r15 M16 => zCt G h sl 0 0 y_Reader_sum [(2, 72), (0, l1)] M16 (fun r17 M18 => (zK (M18 72 6) = (0, 0)) ∧ (zCt G h sl 0 0 y_Code_add [(2, (M18 72 6)), (0, r13), (0, 0)] M18 (fun r20 M21 => Q r17 M21))))) ∧ (¬ (¬ r13 = (-1)) → zCt G h sl 0 0 y_Reader_unfit [(2, 72)] M14 (fun r23 M24 => Q r23 M24)))) ∧ (¬ (¬ r10 = 0) → Q 0 M11))) ∧ (¬ r7 = 0 → (zK (M8 72 6) = (0, 0)) ∧ (zCt G h sl 0 0 y_Code_add [(2, (M8 72 6)), (0, 0), (0, 1)] M8 (fun r26 M27 => Q 1 M27))))) ∧ (¬ r4 = 0 → zCt G h sl 0 0 y_Reader_takeOpen [(2, 72), (0, 91), (0, l1)] M5 (fun r29 M30 => (r29 = 0 → Q 0 M30) ∧ (¬ r29 = 0 → (zI (l1 + 1)) ∧ (zCt G h sl 0 0 y_Reader_test [(2, 72), (0, (l1 + 1))] M30 (fun r33 M34 => (r33 = 0 → Q 0 M34) ∧ (¬ r33 = 0 → zCt G h sl 0 0 y_Reader_takeSign [(2, 72), (0, 93)] M34 (fun r36 M37 => (r36 = 0 → Q 0 M37) ∧ (¬ r36 = 0 → Q 1 M37)))))))))) ∧ (¬ r1 = 0 → (l1 < 6 → (zI (l1 + 1)) ∧ (zCt G h sl 0 0 y_Reader_fact [(2, 72), (0, (l1 + 1))] M2 (fun r40 M41 => (zK (M41 72 6) = (0, 0)) ∧ (zCt G h sl 0 0 y_Code_add [(2, (M41 72 6)), (0, 3), (0, 0)] M41 (fun r43 M44 => Q r40 M44))))) ∧ (¬ l1 < 6 → zCt G h sl 0 0 y_Reader_refuse [(2, 72), (0, 4), (0, (M 72 10))] M2 (fun r46 M47 => Q r46 M47))))) : zCt G (h + 1) sl 0 0 y_Reader_fact [(2, 72), (0, l1)] M Q := by
  refine zCt.of (by decide +kernel) (Nat.le_of_ble_eq_true rfl) ?_
  refine x_aload_n (zdm d_Reader_fact_0 0 rfl) rfl (n := 0) rfl ?_
  refine x_getf (zdm d_Reader_fact_0 1 rfl) f_Reader_49 rfl rfl ?_
  refine x_istore_n (zdm d_Reader_fact_0 2 rfl) rfl (zlt rfl) rfl ?_
  refine x_aload_n (zdm d_Reader_fact_0 3 rfl) rfl (n := 1) rfl ?_
  refine x_ldcS (zdm d_Reader_fact_0 4 rfl) (i := 2) (x := (-6)) rfl rfl ?_
  refine x_callVi (n := 1) (ci := 7) (zdm d_Reader_fact_0 5 rfl) k_Reader_103 (As := [(2, (-6))]) rfl rfl rfl ⟨_, _, rfl⟩ (Nat.le_of_ble_eq_true rfl) trivial H (fun r1 M2 hr H => ?_)
  have b3 : r1 = 0 ∨ r1 = 1 := hr
  refine x_ifeq (tgt := 46) (zdm d_Reader_fact_0 6 rfl) (by decide) (fun c => ?_) (fun c => ?_)
  · have H := H.1 c
    refine x_aload_n (zdm d_Reader_fact_0 28 rfl) rfl (n := 1) rfl ?_
    refine x_bipush (zdm d_Reader_fact_0 29 rfl) (by decide) ?_
    refine x_callVi (n := 1) (ci := 7) (zdm d_Reader_fact_0 30 rfl) k_Reader_251 (As := [(0, 91)]) rfl rfl rfl ⟨_, _, rfl⟩ (Nat.le_of_ble_eq_true rfl) trivial H (fun r4 M5 hr H => ?_)
    have b6 : r4 = 0 ∨ r4 = 1 := hr
    refine x_ifeq (tgt := 90) (zdm d_Reader_fact_0 31 rfl) (by decide) (fun c => ?_) (fun c => ?_)
    · have H := H.1 c
      refine x_aload_n (zdm d_Reader_fact_0 51 rfl) rfl (n := 1) rfl ?_
      refine x_ldcwS (zdm d_Reader_fact_0 52 rfl) (i := 3) (x := (-8)) rfl rfl ?_
      refine x_callVi (n := 1) (ci := 7) (zdm d_Reader_fact_0 53 rfl) k_Reader_103 (As := [(2, (-8))]) rfl rfl rfl ⟨_, _, rfl⟩ (Nat.le_of_ble_eq_true rfl) trivial H (fun r7 M8 hr H => ?_)
      have b9 : r7 = 0 ∨ r7 = 1 := hr
      refine x_ifeq (tgt := 111) (zdm d_Reader_fact_0 54 rfl) (by decide) (fun c => ?_) (fun c => ?_)
      · have H := H.1 c
        refine x_aload_n (zdm d_Reader_fact_1 2 rfl) rfl (n := 1) rfl ?_
        refine x_iload_n (zdm d_Reader_fact_1 3 rfl) rfl (n := 2) rfl ?_
        refine x_callVi (n := 1) (ci := 7) (zdm d_Reader_fact_1 4 rfl) k_Reader_86 (As := [(0, l1)]) rfl rfl rfl ⟨_, _, rfl⟩ (Nat.le_of_ble_eq_true rfl) trivial H (fun r10 M11 hr H => ?_)
        have b12 : r10 = 0 ∨ r10 = 1 := hr
        refine x_ifne (tgt := 121) (zdm d_Reader_fact_1 5 rfl) (by decide) (fun c => ?_) (fun c => ?_)
        · have H := H.1 c
          refine x_aload_n (zdm d_Reader_fact_1 8 rfl) rfl (n := 1) rfl ?_
          refine x_callVi (n := 0) (ci := 7) (zdm d_Reader_fact_1 9 rfl) k_Reader_260 (As := []) rfl rfl rfl ⟨_, _, rfl⟩ (Nat.le_of_ble_eq_true rfl) trivial H (fun r13 M14 hr H => ?_)
          refine x_istore_n (zdm d_Reader_fact_1 10 rfl) rfl (zlt rfl) rfl ?_
          refine x_iload_n (zdm d_Reader_fact_1 11 rfl) rfl (n := 0) rfl ?_
          refine x_iconst (zdm d_Reader_fact_1 12 rfl) (zIl rfl) ?_
          refine x_icmpne (tgt := 136) (zdm d_Reader_fact_1 13 rfl) (by decide) (fun c => ?_) (fun c => ?_)
          · have H := H.1 c
            refine x_aload_n (zdm d_Reader_fact_1 17 rfl) rfl (n := 2) rfl ?_
            refine x_callVv (n := 0) (ci := 7) (zdm d_Reader_fact_1 18 rfl) k_Reader_98 (As := []) rfl rfl rfl ⟨_, _, rfl⟩ (Nat.le_of_ble_eq_true rfl) rfl H (fun r15 M16 hr H => ?_)
            refine x_aload_n (zdm d_Reader_fact_1 19 rfl) rfl (n := 2) rfl ?_
            refine x_iload_n (zdm d_Reader_fact_1 20 rfl) rfl (n := 3) rfl ?_
            refine x_callVi (n := 1) (ci := 7) (zdm d_Reader_fact_1 21 rfl) k_Reader_86 (As := [(0, l1)]) rfl rfl rfl ⟨_, _, rfl⟩ (Nat.le_of_ble_eq_true rfl) trivial H (fun r17 M18 hr H => ?_)
            have b19 : r17 = 0 ∨ r17 = 1 := hr
            refine x_istore (zdm d_Reader_fact_1 22 rfl) (zlt rfl) rfl ?_
            refine x_aload_n (zdm d_Reader_fact_1 23 rfl) rfl (n := 3) rfl ?_
            refine x_getf (zdm d_Reader_fact_1 24 rfl) f_Reader_22 rfl rfl ?_
            refine x_iload_n (zdm d_Reader_fact_1 25 rfl) rfl (n := 1) rfl ?_
            refine x_iconst (zdm d_Reader_fact_1 26 rfl) (zIl rfl) ?_
            obtain ⟨g22, H⟩ := H
            refine x_callVv (n := 2) (ci := 0) (zdm d_Reader_fact_1 27 rfl) k_Reader_240 (As := [(0, r13), (0, 0)]) rfl rfl g22 ⟨_, _, rfl⟩ (Nat.le_of_ble_eq_true rfl) rfl H (fun r20 M21 hr H => ?_)
            refine x_iload (zdm d_Reader_fact_1 28 rfl) (n := 0) rfl ?_
            exact x_ireturn (zdm d_Reader_fact_1 29 rfl) (ty := .boolean) rfl (by decide) b19 H
          · have H := H.2 c
            refine x_aload_n (zdm d_Reader_fact_1 14 rfl) rfl (n := 2) rfl ?_
            refine x_callVi (n := 0) (ci := 7) (zdm d_Reader_fact_1 15 rfl) k_Reader_77 (As := []) rfl rfl rfl ⟨_, _, rfl⟩ (Nat.le_of_ble_eq_true rfl) trivial H (fun r23 M24 hr H => ?_)
            have b25 : r23 = 0 ∨ r23 = 1 := hr
            exact x_ireturn (zdm d_Reader_fact_1 16 rfl) (ty := .boolean) rfl (by decide) b25 H
        · have H := H.2 c
          refine x_iconst (zdm d_Reader_fact_1 6 rfl) (zIl rfl) ?_
          exact x_ireturn (zdm d_Reader_fact_1 7 rfl) (ty := .boolean) rfl (by decide) (Or.inl rfl) H
      · have H := H.2 c
        refine x_aload_n (zdm d_Reader_fact_0 55 rfl) rfl (n := 1) rfl ?_
        refine x_getf (zdm d_Reader_fact_0 56 rfl) f_Reader_22 rfl rfl ?_
        refine x_iconst (zdm d_Reader_fact_0 57 rfl) (zIl rfl) ?_
        refine x_iconst (zdm d_Reader_fact_0 58 rfl) (zIl rfl) ?_
        obtain ⟨g28, H⟩ := H
        refine x_callVv (n := 2) (ci := 0) (zdm d_Reader_fact_0 59 rfl) k_Reader_240 (As := [(0, 0), (0, 1)]) rfl rfl g28 ⟨_, _, rfl⟩ (Nat.le_of_ble_eq_true rfl) rfl H (fun r26 M27 hr H => ?_)
        refine x_iconst (zdm d_Reader_fact_1 0 rfl) (zIl rfl) ?_
        exact x_ireturn (zdm d_Reader_fact_1 1 rfl) (ty := .boolean) rfl (by decide) (Or.inr rfl) H
    · have H := H.2 c
      refine x_aload_n (zdm d_Reader_fact_0 32 rfl) rfl (n := 1) rfl ?_
      refine x_bipush (zdm d_Reader_fact_0 33 rfl) (by decide) ?_
      refine x_iload_n (zdm d_Reader_fact_0 34 rfl) rfl (n := 2) rfl ?_
      refine x_callVi (n := 2) (ci := 7) (zdm d_Reader_fact_0 35 rfl) k_Reader_254 (As := [(0, 91), (0, l1)]) rfl rfl rfl ⟨_, _, rfl⟩ (Nat.le_of_ble_eq_true rfl) trivial H (fun r29 M30 hr H => ?_)
      have b31 : r29 = 0 ∨ r29 = 1 := hr
      refine x_ifeq (tgt := 88) (zdm d_Reader_fact_0 36 rfl) (by decide) (fun c => ?_) (fun c => ?_)
      · have H := H.1 c
        refine x_iconst (zdm d_Reader_fact_0 49 rfl) (zIl rfl) ?_
        exact x_ireturn (zdm d_Reader_fact_0 50 rfl) (ty := .boolean) rfl (by decide) (Or.inl rfl) H
      · have H := H.2 c
        refine x_aload_n (zdm d_Reader_fact_0 37 rfl) rfl (n := 1) rfl ?_
        refine x_iload_n (zdm d_Reader_fact_0 38 rfl) rfl (n := 2) rfl ?_
        refine x_iconst (zdm d_Reader_fact_0 39 rfl) (zIl rfl) ?_
        obtain ⟨g32, H⟩ := H
        refine x_iadd (zdm d_Reader_fact_0 40 rfl) g32 ?_
        refine x_callVi (n := 1) (ci := 7) (zdm d_Reader_fact_0 41 rfl) k_Reader_82 (As := [(0, (l1 + 1))]) rfl rfl rfl ⟨_, _, rfl⟩ (Nat.le_of_ble_eq_true rfl) trivial H (fun r33 M34 hr H => ?_)
        have b35 : r33 = 0 ∨ r33 = 1 := hr
        refine x_ifeq (tgt := 88) (zdm d_Reader_fact_0 42 rfl) (by decide) (fun c => ?_) (fun c => ?_)
        · have H := H.1 c
          refine x_iconst (zdm d_Reader_fact_0 49 rfl) (zIl rfl) ?_
          exact x_ireturn (zdm d_Reader_fact_0 50 rfl) (ty := .boolean) rfl (by decide) (Or.inl rfl) H
        · have H := H.2 c
          refine x_aload_n (zdm d_Reader_fact_0 43 rfl) rfl (n := 1) rfl ?_
          refine x_bipush (zdm d_Reader_fact_0 44 rfl) (by decide) ?_
          refine x_callVi (n := 1) (ci := 7) (zdm d_Reader_fact_0 45 rfl) k_Reader_60 (As := [(0, 93)]) rfl rfl rfl ⟨_, _, rfl⟩ (Nat.le_of_ble_eq_true rfl) trivial H (fun r36 M37 hr H => ?_)
          have b38 : r36 = 0 ∨ r36 = 1 := hr
          refine x_ifeq (tgt := 88) (zdm d_Reader_fact_0 46 rfl) (by decide) (fun c => ?_) (fun c => ?_)
          · have H := H.1 c
            refine x_iconst (zdm d_Reader_fact_0 49 rfl) (zIl rfl) ?_
            exact x_ireturn (zdm d_Reader_fact_0 50 rfl) (ty := .boolean) rfl (by decide) (Or.inl rfl) H
          · have H := H.2 c
            refine x_iconst (zdm d_Reader_fact_0 47 rfl) (zIl rfl) ?_
            refine x_goto (tgt := 89) (zdm d_Reader_fact_0 48 rfl) (by decide) ?_
            exact x_ireturn (zdm d_Reader_fact_0 50 rfl) (ty := .boolean) rfl (by decide) (Or.inr rfl) H
  · have H := H.2 c
    refine x_iload_n (zdm d_Reader_fact_0 7 rfl) rfl (n := 2) rfl ?_
    refine x_bipush (zdm d_Reader_fact_0 8 rfl) (by decide) ?_
    refine x_icmplt (tgt := 27) (zdm d_Reader_fact_0 9 rfl) (by decide) (fun c => ?_) (fun c => ?_)
    · have H := H.1 c
      refine x_aload_n (zdm d_Reader_fact_0 15 rfl) rfl (n := 1) rfl ?_
      refine x_iload_n (zdm d_Reader_fact_0 16 rfl) rfl (n := 2) rfl ?_
      refine x_iconst (zdm d_Reader_fact_0 17 rfl) (zIl rfl) ?_
      obtain ⟨g39, H⟩ := H
      refine x_iadd (zdm d_Reader_fact_0 18 rfl) g39 ?_
      refine x_callVi (n := 1) (ci := 7) (zdm d_Reader_fact_0 19 rfl) k_Reader_244 (As := [(0, (l1 + 1))]) rfl rfl rfl ⟨_, _, rfl⟩ (Nat.le_of_ble_eq_true rfl) trivial H (fun r40 M41 hr H => ?_)
      have b42 : r40 = 0 ∨ r40 = 1 := hr
      refine x_istore_n (zdm d_Reader_fact_0 20 rfl) rfl (zlt rfl) rfl ?_
      refine x_aload_n (zdm d_Reader_fact_0 21 rfl) rfl (n := 2) rfl ?_
      refine x_getf (zdm d_Reader_fact_0 22 rfl) f_Reader_22 rfl rfl ?_
      refine x_iconst (zdm d_Reader_fact_0 23 rfl) (zIl rfl) ?_
      refine x_iconst (zdm d_Reader_fact_0 24 rfl) (zIl rfl) ?_
      obtain ⟨g45, H⟩ := H
      refine x_callVv (n := 2) (ci := 0) (zdm d_Reader_fact_0 25 rfl) k_Reader_240 (As := [(0, 3), (0, 0)]) rfl rfl g45 ⟨_, _, rfl⟩ (Nat.le_of_ble_eq_true rfl) rfl H (fun r43 M44 hr H => ?_)
      refine x_iload_n (zdm d_Reader_fact_0 26 rfl) rfl (n := 0) rfl ?_
      exact x_ireturn (zdm d_Reader_fact_0 27 rfl) (ty := .boolean) rfl (by decide) b42 H
    · have H := H.2 c
      refine x_aload_n (zdm d_Reader_fact_0 10 rfl) rfl (n := 1) rfl ?_
      refine x_iconst (zdm d_Reader_fact_0 11 rfl) (zIl rfl) ?_
      refine x_iload_n (zdm d_Reader_fact_0 12 rfl) rfl (n := 0) rfl ?_
      refine x_callVi (n := 2) (ci := 7) (zdm d_Reader_fact_0 13 rfl) k_Reader_52 (As := [(0, 4), (0, (M 72 10))]) rfl rfl rfl ⟨_, _, rfl⟩ (Nat.le_of_ble_eq_true rfl) trivial H (fun r46 M47 hr H => ?_)
      have b48 : r46 = 0 ∨ r46 = 1 := hr
      exact x_ireturn (zdm d_Reader_fact_0 14 rfl) (ty := .boolean) rfl (by decide) b48 H
set_option maxRecDepth 20000 in
set_option maxHeartbeats 4000000 in
theorem E_Reader_comparisonHere {G : zG} {h sl : Nat} (hsl : 1 ≤ sl) {M : zM} {Q : Int → zM → Prop} (H : zCt G h sl 0 0 y_Reader_isSign [(2, 72), (0, 60)] M (fun r1 M2 => (r1 = 0 → zCt G h sl 0 0 y_Reader_isSign [(2, 72), (0, 62)] M2 (fun r4 M5 => (r4 = 0 → zCt G h sl 0 0 y_Reader_isSign [(2, 72), (0, 61)] M5 (fun r7 M8 => (r7 = 0 → Q (-1) M8) ∧ (¬ r7 = 0 → Q 12 M8))) ∧ (¬ r4 = 0 → Q 11 M5))) ∧ (¬ r1 = 0 → Q 10 M2))) : zCt G (h + 1) sl 0 0 y_Reader_comparisonHere [(2, 72)] M Q := by
  refine zCt.of (by decide +kernel) (Nat.le_of_ble_eq_true rfl) ?_
  refine x_aload_n (zdm d_Reader_comparisonHere_0 0 rfl) rfl (n := 0) rfl ?_
  refine x_bipush (zdm d_Reader_comparisonHere_0 1 rfl) (by decide) ?_
  refine x_callVi (n := 1) (ci := 7) (zdm d_Reader_comparisonHere_0 2 rfl) k_Reader_251 (As := [(0, 60)]) rfl rfl rfl ⟨_, _, rfl⟩ (Nat.le_of_ble_eq_true rfl) trivial H (fun r1 M2 hr H => ?_)
  have b3 : r1 = 0 ∨ r1 = 1 := hr
  refine x_ifeq (tgt := 12) (zdm d_Reader_comparisonHere_0 3 rfl) (by decide) (fun c => ?_) (fun c => ?_)
  · have H := H.1 c
    refine x_aload_n (zdm d_Reader_comparisonHere_0 6 rfl) rfl (n := 0) rfl ?_
    refine x_bipush (zdm d_Reader_comparisonHere_0 7 rfl) (by decide) ?_
    refine x_callVi (n := 1) (ci := 7) (zdm d_Reader_comparisonHere_0 8 rfl) k_Reader_251 (As := [(0, 62)]) rfl rfl rfl ⟨_, _, rfl⟩ (Nat.le_of_ble_eq_true rfl) trivial H (fun r4 M5 hr H => ?_)
    have b6 : r4 = 0 ∨ r4 = 1 := hr
    refine x_ifeq (tgt := 24) (zdm d_Reader_comparisonHere_0 9 rfl) (by decide) (fun c => ?_) (fun c => ?_)
    · have H := H.1 c
      refine x_aload_n (zdm d_Reader_comparisonHere_0 12 rfl) rfl (n := 0) rfl ?_
      refine x_bipush (zdm d_Reader_comparisonHere_0 13 rfl) (by decide) ?_
      refine x_callVi (n := 1) (ci := 7) (zdm d_Reader_comparisonHere_0 14 rfl) k_Reader_251 (As := [(0, 61)]) rfl rfl rfl ⟨_, _, rfl⟩ (Nat.le_of_ble_eq_true rfl) trivial H (fun r7 M8 hr H => ?_)
      have b9 : r7 = 0 ∨ r7 = 1 := hr
      refine x_ifeq (tgt := 38) (zdm d_Reader_comparisonHere_0 15 rfl) (by decide) (fun c => ?_) (fun c => ?_)
      · have H := H.1 c
        refine x_iconst (zdm d_Reader_comparisonHere_0 18 rfl) (zIl rfl) ?_
        exact x_iret (zdm d_Reader_comparisonHere_0 19 rfl) rfl H
      · have H := H.2 c
        refine x_bipush (zdm d_Reader_comparisonHere_0 16 rfl) (by decide) ?_
        refine x_goto (tgt := 39) (zdm d_Reader_comparisonHere_0 17 rfl) (by decide) ?_
        exact x_iret (zdm d_Reader_comparisonHere_0 19 rfl) rfl H
    · have H := H.2 c
      refine x_bipush (zdm d_Reader_comparisonHere_0 10 rfl) (by decide) ?_
      exact x_iret (zdm d_Reader_comparisonHere_0 11 rfl) rfl H
  · have H := H.2 c
    refine x_bipush (zdm d_Reader_comparisonHere_0 4 rfl) (by decide) ?_
    exact x_iret (zdm d_Reader_comparisonHere_0 5 rfl) rfl H
set_option maxRecDepth 20000 in
set_option maxHeartbeats 4000000 in
theorem B_Reader_sum_51 {G : zG} {h sl : Nat} (hsl : 1 ≤ sl) {u : Nat × Nat × Nat × Nat} {l1 l2 s0 : Int} {M : zM} {Q : Int → zM → Prop} (H : zCt G h sl 0 0 y_Reader_advance [(2, 72)] M (fun r1 M2 => zCt G h sl 0 0 y_Reader_product [(2, 72), (0, l1)] M2 (fun r3 M4 => (¬ r3 = 0 → (zK (M4 72 6) = (0, 0)) ∧ (zCt G h sl 0 0 y_Code_add [(2, (M4 72 6)), (0, s0), (0, 0)] M4 (fun r6 M7 => (zI (l2 + 1)) ∧ (zX G (y_Reader_sum, h + 1, sl) u 12 [(0, (2, 72)), (1, (0, l1)), (2, (0, (l2 + 1)))] [] M7 Q)))) ∧ (¬ (¬ r3 = 0) → Q 0 M4)))) : zX G (y_Reader_sum, h + 1, sl) u 51 [(0, (2, 72)), (1, (0, l1)), (2, (0, l2))] [(0, s0)] M Q := by
  refine x_istore_n (zdm d_Reader_sum_0 26 rfl) rfl (zlt rfl) rfl ?_
  refine x_aload_n (zdm d_Reader_sum_0 27 rfl) rfl (n := 1) rfl ?_
  refine x_callVv (n := 0) (ci := 7) (zdm d_Reader_sum_0 28 rfl) k_Reader_98 (As := []) rfl rfl rfl ⟨_, _, rfl⟩ (Nat.le_of_ble_eq_true rfl) rfl H (fun r1 M2 hr H => ?_)
  refine x_aload_n (zdm d_Reader_sum_0 29 rfl) rfl (n := 1) rfl ?_
  refine x_iload_n (zdm d_Reader_sum_0 30 rfl) rfl (n := 2) rfl ?_
  refine x_callVi (n := 1) (ci := 7) (zdm d_Reader_sum_0 31 rfl) k_Reader_263 (As := [(0, l1)]) rfl rfl rfl ⟨_, _, rfl⟩ (Nat.le_of_ble_eq_true rfl) trivial H (fun r3 M4 hr H => ?_)
  have b5 : r3 = 0 ∨ r3 = 1 := hr
  refine x_ifne (tgt := 66) (zdm d_Reader_sum_0 32 rfl) (by decide) (fun c => ?_) (fun c => ?_)
  · have H := H.1 c
    refine x_aload_n (zdm d_Reader_sum_0 35 rfl) rfl (n := 1) rfl ?_
    refine x_getf (zdm d_Reader_sum_0 36 rfl) f_Reader_22 rfl rfl ?_
    refine x_iload_n (zdm d_Reader_sum_0 37 rfl) rfl (n := 0) rfl ?_
    refine x_iconst (zdm d_Reader_sum_0 38 rfl) (zIl rfl) ?_
    obtain ⟨g8, H⟩ := H
    refine x_callVv (n := 2) (ci := 0) (zdm d_Reader_sum_0 39 rfl) k_Reader_240 (As := [(0, s0), (0, 0)]) rfl rfl g8 ⟨_, _, rfl⟩ (Nat.le_of_ble_eq_true rfl) rfl H (fun r6 M7 hr H => ?_)
    obtain ⟨g9, H⟩ := H
    refine x_iinc (zdm d_Reader_sum_0 40 rfl) (n := 3) rfl g9 (zlt rfl) rfl ?_
    refine x_goto (tgt := 12) (zdm d_Reader_sum_0 41 rfl) (by decide) ?_
    exact zX.sub [2, 3, 0] rfl H
  · have H := H.2 c
    refine x_iconst (zdm d_Reader_sum_0 33 rfl) (zIl rfl) ?_
    exact x_ireturn (zdm d_Reader_sum_0 34 rfl) (ty := .boolean) rfl (by decide) (Or.inl rfl) H
set_option maxRecDepth 20000 in
set_option maxHeartbeats 4000000 in
theorem B_Reader_sum_37 {G : zG} {h sl : Nat} (hsl : 1 ≤ sl) {u : Nat × Nat × Nat × Nat} {l1 l2 : Int} {M : zM} {Q : Int → zM → Prop} (H : zCt G h sl 0 0 y_Reader_isSign [(2, 72), (0, 43)] M (fun r1 M2 => (r1 = 0 → zX G (y_Reader_sum, h + 1, sl) u 51 [(0, (2, 72)), (1, (0, l1)), (2, (0, l2))] [(0, 5)] M2 Q) ∧ (¬ r1 = 0 → zX G (y_Reader_sum, h + 1, sl) u 51 [(0, (2, 72)), (1, (0, l1)), (2, (0, l2))] [(0, 4)] M2 Q))) : zX G (y_Reader_sum, h + 1, sl) u 37 [(0, (2, 72)), (1, (0, l1)), (2, (0, l2))] [] M Q := by
  refine x_aload_n (zdm d_Reader_sum_0 19 rfl) rfl (n := 0) rfl ?_
  refine x_bipush (zdm d_Reader_sum_0 20 rfl) (by decide) ?_
  refine x_callVi (n := 1) (ci := 7) (zdm d_Reader_sum_0 21 rfl) k_Reader_251 (As := [(0, 43)]) rfl rfl rfl ⟨_, _, rfl⟩ (Nat.le_of_ble_eq_true rfl) trivial H (fun r1 M2 hr H => ?_)
  have b3 : r1 = 0 ∨ r1 = 1 := hr
  refine x_ifeq (tgt := 50) (zdm d_Reader_sum_0 22 rfl) (by decide) (fun c => ?_) (fun c => ?_)
  · have H := H.1 c
    refine x_iconst (zdm d_Reader_sum_0 25 rfl) (zIl rfl) ?_
    exact H
  · have H := H.2 c
    refine x_iconst (zdm d_Reader_sum_0 23 rfl) (zIl rfl) ?_
    refine x_goto (tgt := 51) (zdm d_Reader_sum_0 24 rfl) (by decide) ?_
    exact H
set_option maxRecDepth 20000 in
set_option maxHeartbeats 4000000 in
theorem B_Reader_sum_12 {G : zG} {h sl : Nat} (hsl : 1 ≤ sl) {u : Nat × Nat × Nat × Nat} {l1 l2 : Int} {M : zM} {Q : Int → zM → Prop} (H : (1600 ≤ l2 → Q 1 M) ∧ (¬ 1600 ≤ l2 → zCt G h sl 0 0 y_Reader_isSign [(2, 72), (0, 43)] M (fun r1 M2 => (¬ r1 = 0 → zX G (y_Reader_sum, h + 1, sl) u 37 [(0, (2, 72)), (1, (0, l1)), (2, (0, l2))] [] M2 Q) ∧ (¬ (¬ r1 = 0) → zCt G h sl 0 0 y_Reader_isSign [(2, 72), (0, 45)] M2 (fun r4 M5 => (r4 = 0 → Q 1 M5) ∧ (¬ r4 = 0 → zX G (y_Reader_sum, h + 1, sl) u 37 [(0, (2, 72)), (1, (0, l1)), (2, (0, l2))] [] M5 Q)))))) : zX G (y_Reader_sum, h + 1, sl) u 12 [(0, (2, 72)), (1, (0, l1)), (2, (0, l2))] [] M Q := by
  refine x_iload_n (zdm d_Reader_sum_0 8 rfl) rfl (n := 2) rfl ?_
  refine x_sipush (zdm d_Reader_sum_0 9 rfl) (by decide) ?_
  refine x_icmpge (tgt := 81) (zdm d_Reader_sum_0 10 rfl) (by decide) (fun c => ?_) (fun c => ?_)
  · have H := H.1 c
    refine x_iconst (zdm d_Reader_sum_0 42 rfl) (zIl rfl) ?_
    exact x_ireturn (zdm d_Reader_sum_0 43 rfl) (ty := .boolean) rfl (by decide) (Or.inr rfl) H
  · have H := H.2 c
    refine x_aload_n (zdm d_Reader_sum_0 11 rfl) rfl (n := 0) rfl ?_
    refine x_bipush (zdm d_Reader_sum_0 12 rfl) (by decide) ?_
    refine x_callVi (n := 1) (ci := 7) (zdm d_Reader_sum_0 13 rfl) k_Reader_251 (As := [(0, 43)]) rfl rfl rfl ⟨_, _, rfl⟩ (Nat.le_of_ble_eq_true rfl) trivial H (fun r1 M2 hr H => ?_)
    have b3 : r1 = 0 ∨ r1 = 1 := hr
    refine x_ifne (tgt := 37) (zdm d_Reader_sum_0 14 rfl) (by decide) (fun c => ?_) (fun c => ?_)
    · have H := H.1 c
      exact H
    · have H := H.2 c
      refine x_aload_n (zdm d_Reader_sum_0 15 rfl) rfl (n := 0) rfl ?_
      refine x_bipush (zdm d_Reader_sum_0 16 rfl) (by decide) ?_
      refine x_callVi (n := 1) (ci := 7) (zdm d_Reader_sum_0 17 rfl) k_Reader_251 (As := [(0, 45)]) rfl rfl rfl ⟨_, _, rfl⟩ (Nat.le_of_ble_eq_true rfl) trivial H (fun r4 M5 hr H => ?_)
      have b6 : r4 = 0 ∨ r4 = 1 := hr
      refine x_ifeq (tgt := 81) (zdm d_Reader_sum_0 18 rfl) (by decide) (fun c => ?_) (fun c => ?_)
      · have H := H.1 c
        refine x_iconst (zdm d_Reader_sum_0 42 rfl) (zIl rfl) ?_
        exact x_ireturn (zdm d_Reader_sum_0 43 rfl) (ty := .boolean) rfl (by decide) (Or.inr rfl) H
      · have H := H.2 c
        exact H
set_option maxRecDepth 20000 in
set_option maxHeartbeats 4000000 in
theorem E_Reader_sum {G : zG} {h sl : Nat} (hsl : 1 ≤ sl) {l1 : Int} {M : zM} {Q : Int → zM → Prop} (H : zCt G h sl 0 0 y_Reader_product [(2, 72), (0, l1)] M (fun r1 M2 => (¬ r1 = 0 → zX G (y_Reader_sum, h + 1, sl) (0, 0, 0, 0) 12 [(0, (2, 72)), (1, (0, l1)), (2, (0, 0))] [] M2 Q) ∧ (¬ (¬ r1 = 0) → Q 0 M2))) : zCt G (h + 1) sl 0 0 y_Reader_sum [(2, 72), (0, l1)] M Q := by
  refine zCt.of (by decide +kernel) (Nat.le_of_ble_eq_true rfl) ?_
  refine x_aload_n (zdm d_Reader_sum_0 0 rfl) rfl (n := 0) rfl ?_
  refine x_iload_n (zdm d_Reader_sum_0 1 rfl) rfl (n := 1) rfl ?_
  refine x_callVi (n := 1) (ci := 7) (zdm d_Reader_sum_0 2 rfl) k_Reader_263 (As := [(0, l1)]) rfl rfl rfl ⟨_, _, rfl⟩ (Nat.le_of_ble_eq_true rfl) trivial H (fun r1 M2 hr H => ?_)
  have b3 : r1 = 0 ∨ r1 = 1 := hr
  refine x_ifne (tgt := 10) (zdm d_Reader_sum_0 3 rfl) (by decide) (fun c => ?_) (fun c => ?_)
  · have H := H.1 c
    refine x_iconst (zdm d_Reader_sum_0 6 rfl) (zIl rfl) ?_
    refine x_istore_n (zdm d_Reader_sum_0 7 rfl) rfl (zlt rfl) rfl ?_
    exact zX.sub [1, 2, 0] rfl H
  · have H := H.2 c
    refine x_iconst (zdm d_Reader_sum_0 4 rfl) (zIl rfl) ?_
    exact x_ireturn (zdm d_Reader_sum_0 5 rfl) (ty := .boolean) rfl (by decide) (Or.inl rfl) H
set_option maxRecDepth 20000 in
set_option maxHeartbeats 4000000 in
theorem B_Reader_product_53 {G : zG} {h sl : Nat} (hsl : 1 ≤ sl) {u : Nat × Nat × Nat × Nat} {l1 l2 s0 : Int} {M : zM} {Q : Int → zM → Prop} (H : zCt G h sl 0 0 y_Reader_advance [(2, 72)] M (fun r1 M2 => zCt G h sl 0 0 y_Reader_part [(2, 72), (0, l1)] M2 (fun r3 M4 => (¬ r3 = 0 → (zK (M4 72 6) = (0, 0)) ∧ (zCt G h sl 0 0 y_Code_add [(2, (M4 72 6)), (0, s0), (0, 0)] M4 (fun r6 M7 => (zI (l2 + 1)) ∧ (zX G (y_Reader_product, h + 1, sl) u 12 [(0, (2, 72)), (1, (0, l1)), (2, (0, (l2 + 1)))] [] M7 Q)))) ∧ (¬ (¬ r3 = 0) → Q 0 M4)))) : zX G (y_Reader_product, h + 1, sl) u 53 [(0, (2, 72)), (1, (0, l1)), (2, (0, l2))] [(0, s0)] M Q := by
  refine x_istore_n (zdm d_Reader_product_0 26 rfl) rfl (zlt rfl) rfl ?_
  refine x_aload_n (zdm d_Reader_product_0 27 rfl) rfl (n := 1) rfl ?_
  refine x_callVv (n := 0) (ci := 7) (zdm d_Reader_product_0 28 rfl) k_Reader_98 (As := []) rfl rfl rfl ⟨_, _, rfl⟩ (Nat.le_of_ble_eq_true rfl) rfl H (fun r1 M2 hr H => ?_)
  refine x_aload_n (zdm d_Reader_product_0 29 rfl) rfl (n := 1) rfl ?_
  refine x_iload_n (zdm d_Reader_product_0 30 rfl) rfl (n := 2) rfl ?_
  refine x_callVi (n := 1) (ci := 7) (zdm d_Reader_product_0 31 rfl) k_Reader_266 (As := [(0, l1)]) rfl rfl rfl ⟨_, _, rfl⟩ (Nat.le_of_ble_eq_true rfl) trivial H (fun r3 M4 hr H => ?_)
  have b5 : r3 = 0 ∨ r3 = 1 := hr
  refine x_ifne (tgt := 68) (zdm d_Reader_product_0 32 rfl) (by decide) (fun c => ?_) (fun c => ?_)
  · have H := H.1 c
    refine x_aload_n (zdm d_Reader_product_0 35 rfl) rfl (n := 1) rfl ?_
    refine x_getf (zdm d_Reader_product_0 36 rfl) f_Reader_22 rfl rfl ?_
    refine x_iload_n (zdm d_Reader_product_0 37 rfl) rfl (n := 0) rfl ?_
    refine x_iconst (zdm d_Reader_product_0 38 rfl) (zIl rfl) ?_
    obtain ⟨g8, H⟩ := H
    refine x_callVv (n := 2) (ci := 0) (zdm d_Reader_product_0 39 rfl) k_Reader_240 (As := [(0, s0), (0, 0)]) rfl rfl g8 ⟨_, _, rfl⟩ (Nat.le_of_ble_eq_true rfl) rfl H (fun r6 M7 hr H => ?_)
    obtain ⟨g9, H⟩ := H
    refine x_iinc (zdm d_Reader_product_0 40 rfl) (n := 3) rfl g9 (zlt rfl) rfl ?_
    refine x_goto (tgt := 12) (zdm d_Reader_product_0 41 rfl) (by decide) ?_
    exact zX.sub [2, 3, 0] rfl H
  · have H := H.2 c
    refine x_iconst (zdm d_Reader_product_0 33 rfl) (zIl rfl) ?_
    exact x_ireturn (zdm d_Reader_product_0 34 rfl) (ty := .boolean) rfl (by decide) (Or.inl rfl) H
set_option maxRecDepth 20000 in
set_option maxHeartbeats 4000000 in
theorem B_Reader_product_37 {G : zG} {h sl : Nat} (hsl : 1 ≤ sl) {u : Nat × Nat × Nat × Nat} {l1 l2 : Int} {M : zM} {Q : Int → zM → Prop} (H : zCt G h sl 0 0 y_Reader_isSign [(2, 72), (0, 42)] M (fun r1 M2 => (r1 = 0 → zX G (y_Reader_product, h + 1, sl) u 53 [(0, (2, 72)), (1, (0, l1)), (2, (0, l2))] [(0, 7)] M2 Q) ∧ (¬ r1 = 0 → zX G (y_Reader_product, h + 1, sl) u 53 [(0, (2, 72)), (1, (0, l1)), (2, (0, l2))] [(0, 6)] M2 Q))) : zX G (y_Reader_product, h + 1, sl) u 37 [(0, (2, 72)), (1, (0, l1)), (2, (0, l2))] [] M Q := by
  refine x_aload_n (zdm d_Reader_product_0 19 rfl) rfl (n := 0) rfl ?_
  refine x_bipush (zdm d_Reader_product_0 20 rfl) (by decide) ?_
  refine x_callVi (n := 1) (ci := 7) (zdm d_Reader_product_0 21 rfl) k_Reader_251 (As := [(0, 42)]) rfl rfl rfl ⟨_, _, rfl⟩ (Nat.le_of_ble_eq_true rfl) trivial H (fun r1 M2 hr H => ?_)
  have b3 : r1 = 0 ∨ r1 = 1 := hr
  refine x_ifeq (tgt := 51) (zdm d_Reader_product_0 22 rfl) (by decide) (fun c => ?_) (fun c => ?_)
  · have H := H.1 c
    refine x_bipush (zdm d_Reader_product_0 25 rfl) (by decide) ?_
    exact H
  · have H := H.2 c
    refine x_bipush (zdm d_Reader_product_0 23 rfl) (by decide) ?_
    refine x_goto (tgt := 53) (zdm d_Reader_product_0 24 rfl) (by decide) ?_
    exact H
set_option maxRecDepth 20000 in
set_option maxHeartbeats 4000000 in
theorem B_Reader_product_12 {G : zG} {h sl : Nat} (hsl : 1 ≤ sl) {u : Nat × Nat × Nat × Nat} {l1 l2 : Int} {M : zM} {Q : Int → zM → Prop} (H : (1600 ≤ l2 → Q 1 M) ∧ (¬ 1600 ≤ l2 → zCt G h sl 0 0 y_Reader_isSign [(2, 72), (0, 42)] M (fun r1 M2 => (¬ r1 = 0 → zX G (y_Reader_product, h + 1, sl) u 37 [(0, (2, 72)), (1, (0, l1)), (2, (0, l2))] [] M2 Q) ∧ (¬ (¬ r1 = 0) → zCt G h sl 0 0 y_Reader_isSign [(2, 72), (0, 47)] M2 (fun r4 M5 => (r4 = 0 → Q 1 M5) ∧ (¬ r4 = 0 → zX G (y_Reader_product, h + 1, sl) u 37 [(0, (2, 72)), (1, (0, l1)), (2, (0, l2))] [] M5 Q)))))) : zX G (y_Reader_product, h + 1, sl) u 12 [(0, (2, 72)), (1, (0, l1)), (2, (0, l2))] [] M Q := by
  refine x_iload_n (zdm d_Reader_product_0 8 rfl) rfl (n := 2) rfl ?_
  refine x_sipush (zdm d_Reader_product_0 9 rfl) (by decide) ?_
  refine x_icmpge (tgt := 83) (zdm d_Reader_product_0 10 rfl) (by decide) (fun c => ?_) (fun c => ?_)
  · have H := H.1 c
    refine x_iconst (zdm d_Reader_product_0 42 rfl) (zIl rfl) ?_
    exact x_ireturn (zdm d_Reader_product_0 43 rfl) (ty := .boolean) rfl (by decide) (Or.inr rfl) H
  · have H := H.2 c
    refine x_aload_n (zdm d_Reader_product_0 11 rfl) rfl (n := 0) rfl ?_
    refine x_bipush (zdm d_Reader_product_0 12 rfl) (by decide) ?_
    refine x_callVi (n := 1) (ci := 7) (zdm d_Reader_product_0 13 rfl) k_Reader_251 (As := [(0, 42)]) rfl rfl rfl ⟨_, _, rfl⟩ (Nat.le_of_ble_eq_true rfl) trivial H (fun r1 M2 hr H => ?_)
    have b3 : r1 = 0 ∨ r1 = 1 := hr
    refine x_ifne (tgt := 37) (zdm d_Reader_product_0 14 rfl) (by decide) (fun c => ?_) (fun c => ?_)
    · have H := H.1 c
      exact H
    · have H := H.2 c
      refine x_aload_n (zdm d_Reader_product_0 15 rfl) rfl (n := 0) rfl ?_
      refine x_bipush (zdm d_Reader_product_0 16 rfl) (by decide) ?_
      refine x_callVi (n := 1) (ci := 7) (zdm d_Reader_product_0 17 rfl) k_Reader_251 (As := [(0, 47)]) rfl rfl rfl ⟨_, _, rfl⟩ (Nat.le_of_ble_eq_true rfl) trivial H (fun r4 M5 hr H => ?_)
      have b6 : r4 = 0 ∨ r4 = 1 := hr
      refine x_ifeq (tgt := 83) (zdm d_Reader_product_0 18 rfl) (by decide) (fun c => ?_) (fun c => ?_)
      · have H := H.1 c
        refine x_iconst (zdm d_Reader_product_0 42 rfl) (zIl rfl) ?_
        exact x_ireturn (zdm d_Reader_product_0 43 rfl) (ty := .boolean) rfl (by decide) (Or.inr rfl) H
      · have H := H.2 c
        exact H
set_option maxRecDepth 20000 in
set_option maxHeartbeats 4000000 in
theorem E_Reader_product {G : zG} {h sl : Nat} (hsl : 1 ≤ sl) {l1 : Int} {M : zM} {Q : Int → zM → Prop} (H : zCt G h sl 0 0 y_Reader_part [(2, 72), (0, l1)] M (fun r1 M2 => (¬ r1 = 0 → zX G (y_Reader_product, h + 1, sl) (0, 0, 0, 0) 12 [(0, (2, 72)), (1, (0, l1)), (2, (0, 0))] [] M2 Q) ∧ (¬ (¬ r1 = 0) → Q 0 M2))) : zCt G (h + 1) sl 0 0 y_Reader_product [(2, 72), (0, l1)] M Q := by
  refine zCt.of (by decide +kernel) (Nat.le_of_ble_eq_true rfl) ?_
  refine x_aload_n (zdm d_Reader_product_0 0 rfl) rfl (n := 0) rfl ?_
  refine x_iload_n (zdm d_Reader_product_0 1 rfl) rfl (n := 1) rfl ?_
  refine x_callVi (n := 1) (ci := 7) (zdm d_Reader_product_0 2 rfl) k_Reader_266 (As := [(0, l1)]) rfl rfl rfl ⟨_, _, rfl⟩ (Nat.le_of_ble_eq_true rfl) trivial H (fun r1 M2 hr H => ?_)
  have b3 : r1 = 0 ∨ r1 = 1 := hr
  refine x_ifne (tgt := 10) (zdm d_Reader_product_0 3 rfl) (by decide) (fun c => ?_) (fun c => ?_)
  · have H := H.1 c
    refine x_iconst (zdm d_Reader_product_0 6 rfl) (zIl rfl) ?_
    refine x_istore_n (zdm d_Reader_product_0 7 rfl) rfl (zlt rfl) rfl ?_
    exact zX.sub [1, 2, 0] rfl H
  · have H := H.2 c
    refine x_iconst (zdm d_Reader_product_0 4 rfl) (zIl rfl) ?_
    exact x_ireturn (zdm d_Reader_product_0 5 rfl) (ty := .boolean) rfl (by decide) (Or.inl rfl) H
