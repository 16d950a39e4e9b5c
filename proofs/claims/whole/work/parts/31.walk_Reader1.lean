set_option maxRecDepth 20000 in
set_option maxHeartbeats 4000000 in
theorem B_Reader_part_168 {G : zG} {h sl : Nat} (hsl : 1 ≤ sl) {u : Nat × Nat × Nat × Nat} {s0 : Int} {M : zM} {Q : Int → zM → Prop} (H : (¬ s0 = (-1) → (zK (M 72 6) = (0, 0)) ∧ (zCt G h sl 0 0 y_Code_add [(2, (M 72 6)), (0, 1), (0, s0)] M (fun r1 M2 => zCt G h sl 0 0 y_Reader_advance [(2, 72)] M2 (fun r4 M5 => Q 1 M5)))) ∧ (¬ (¬ s0 = (-1)) → zCt G h sl 0 0 y_Reader_unfit [(2, 72)] M (fun r6 M7 => Q r6 M7))) : zX G (y_Reader_part, h + 1, sl) u 168 [(0, (2, 72))] [(0, s0)] M Q := by
  refine x_istore_n (zdm d_Reader_part_1 23 rfl) rfl (zlt rfl) rfl ?_
  refine x_iload_n (zdm d_Reader_part_1 24 rfl) rfl (n := 0) rfl ?_
  refine x_iconst (zdm d_Reader_part_1 25 rfl) (zIl rfl) ?_
  refine x_icmpne (tgt := 179) (zdm d_Reader_part_1 26 rfl) (by decide) (fun c => ?_) (fun c => ?_)
  · have H := H.1 c
    refine x_aload_n (zdm d_Reader_part_1 30 rfl) rfl (n := 1) rfl ?_
    refine x_getf (zdm d_Reader_part_1 31 rfl) f_Reader_22 rfl rfl ?_
    refine x_iconst (zdm d_Reader_part_1 32 rfl) (zIl rfl) ?_
    refine x_iload_n (zdm d_Reader_part_1 33 rfl) rfl (n := 0) rfl ?_
    obtain ⟨g3, H⟩ := H
    refine x_callVv (n := 2) (ci := 0) (zdm d_Reader_part_1 34 rfl) k_Reader_240 (As := [(0, 1), (0, s0)]) rfl rfl g3 ⟨_, _, rfl⟩ (Nat.le_of_ble_eq_true rfl) rfl H (fun r1 M2 hr H => ?_)
    refine x_aload_n (zdm d_Reader_part_1 35 rfl) rfl (n := 1) rfl ?_
    refine x_callVv (n := 0) (ci := 7) (zdm d_Reader_part_1 36 rfl) k_Reader_98 (As := []) rfl rfl rfl ⟨_, _, rfl⟩ (Nat.le_of_ble_eq_true rfl) rfl H (fun r4 M5 hr H => ?_)
    refine x_iconst (zdm d_Reader_part_1 37 rfl) (zIl rfl) ?_
    exact x_ireturn (zdm d_Reader_part_1 38 rfl) (ty := .boolean) rfl (by decide) (Or.inr rfl) H
  · have H := H.2 c
    refine x_aload_n (zdm d_Reader_part_1 27 rfl) rfl (n := 1) rfl ?_
    refine x_callVi (n := 0) (ci := 7) (zdm d_Reader_part_1 28 rfl) k_Reader_77 (As := []) rfl rfl rfl ⟨_, _, rfl⟩ (Nat.le_of_ble_eq_true rfl) trivial H (fun r6 M7 hr H => ?_)
    have b8 : r6 = 0 ∨ r6 = 1 := hr
    exact x_ireturn (zdm d_Reader_part_1 29 rfl) (ty := .boolean) rfl (by decide) b8 H
set_option maxRecDepth 20000 in
set_option maxHeartbeats 4000000 in
theorem B_Reader_part_150 {G : zG} {h sl : Nat} (hsl : 1 ≤ sl) {u : Nat × Nat × Nat × Nat} {M : zM} {Q : Int → zM → Prop} (H : ((M 72 7) = 0 → zCt G h sl 0 0 y_Reader_toldOfLine [(2, 72)] M (fun r1 M2 => zX G (y_Reader_part, h + 1, sl) u 168 [(0, (2, 72))] [(0, r1)] M2 Q)) ∧ (¬ (M 72 7) = 0 → zCt G h sl 0 0 y_Reader_toldOfColumn [(2, 72)] M (fun r3 M4 => zX G (y_Reader_part, h + 1, sl) u 168 [(0, (2, 72))] [(0, r3)] M4 Q))) : zX G (y_Reader_part, h + 1, sl) u 150 [(0, (2, 72))] [] M Q := by
  refine x_aload_n (zdm d_Reader_part_1 15 rfl) rfl (n := 0) rfl ?_
  refine x_getf (zdm d_Reader_part_1 16 rfl) f_Reader_39 rfl rfl ?_
  refine x_ifeq (tgt := 164) (zdm d_Reader_part_1 17 rfl) (by decide) (fun c => ?_) (fun c => ?_)
  · have H := H.1 c
    refine x_aload_n (zdm d_Reader_part_1 21 rfl) rfl (n := 0) rfl ?_
    refine x_callVi (n := 0) (ci := 7) (zdm d_Reader_part_1 22 rfl) k_Reader_289 (As := []) rfl rfl rfl ⟨_, _, rfl⟩ (Nat.le_of_ble_eq_true rfl) trivial H (fun r1 M2 hr H => ?_)
    exact H
  · have H := H.2 c
    refine x_aload_n (zdm d_Reader_part_1 18 rfl) rfl (n := 0) rfl ?_
    refine x_callVi (n := 0) (ci := 7) (zdm d_Reader_part_1 19 rfl) k_Reader_286 (As := []) rfl rfl rfl ⟨_, _, rfl⟩ (Nat.le_of_ble_eq_true rfl) trivial H (fun r3 M4 hr H => ?_)
    refine x_goto (tgt := 168) (zdm d_Reader_part_1 20 rfl) (by decide) ?_
    exact H
set_option maxRecDepth 20000 in
set_option maxHeartbeats 4000000 in
theorem B_Reader_part_144 {G : zG} {h sl : Nat} (hsl : 1 ≤ sl) {u : Nat × Nat × Nat × Nat} {l1 : Int} {M : zM} {Q : Int → zM → Prop} (H : zCt G h sl 0 0 y_Reader_askedPart [(2, 72), (0, l1)] M (fun r1 M2 => Q r1 M2)) : zX G (y_Reader_part, h + 1, sl) u 144 [(0, (2, 72)), (1, (0, l1))] [] M Q := by
  refine x_aload_n (zdm d_Reader_part_1 11 rfl) rfl (n := 0) rfl ?_
  refine x_iload_n (zdm d_Reader_part_1 12 rfl) rfl (n := 1) rfl ?_
  refine x_callVi (n := 1) (ci := 7) (zdm d_Reader_part_1 13 rfl) k_Reader_283 (As := [(0, l1)]) rfl rfl rfl ⟨_, _, rfl⟩ (Nat.le_of_ble_eq_true rfl) trivial H (fun r1 M2 hr H => ?_)
  have b3 : r1 = 0 ∨ r1 = 1 := hr
  exact x_ireturn (zdm d_Reader_part_1 14 rfl) (ty := .boolean) rfl (by decide) b3 H
set_option maxRecDepth 20000 in
set_option maxHeartbeats 4000000 in
theorem E_Reader_part {G : zG} {h sl : Nat} (hsl : 1 ≤ sl) {l1 : Int} {M : zM} {Q : Int → zM → Prop} (H : (¬ (M 72 9) = 2 → zCt G h sl 0 0 y_Reader_isSign [(2, 72), (0, 40)] M (fun r1 M2 => (r1 = 0 → zCt G h sl 0 0 y_Reader_tryWord [(2, 72), (2, (-10))] M2 (fun r4 M5 => (r4 = 0 → zCt G h sl 0 0 y_Reader_tryWord [(2, 72), (2, (-12))] M5 (fun r7 M8 => (r7 = 0 → ((M8 72 7) = 0 → zX G (y_Reader_part, h + 1, sl) (0, 0, 0, 0) 150 [(0, (2, 72))] [] M8 Q) ∧ (¬ (M8 72 7) = 0 → zCt G h sl 0 0 y_Reader_isWord [(2, 72), (2, (-14))] M8 (fun r10 M11 => (¬ r10 = 0 → zX G (y_Reader_part, h + 1, sl) (0, 0, 0, 0) 144 [(0, (2, 72)), (1, (0, l1))] [] M11 Q) ∧ (¬ (¬ r10 = 0) → zCt G h sl 0 0 y_Reader_isWord [(2, 72), (2, (-16))] M11 (fun r13 M14 => (r13 = 0 → zX G (y_Reader_part, h + 1, sl) (0, 0, 0, 0) 150 [(0, (2, 72))] [] M14 Q) ∧ (¬ r13 = 0 → zX G (y_Reader_part, h + 1, sl) (0, 0, 0, 0) 144 [(0, (2, 72)), (1, (0, l1))] [] M14 Q)))))) ∧ (¬ r7 = 0 → zCt G h sl 0 0 y_Reader_pair [(2, 72), (0, l1), (0, 9)] M8 (fun r16 M17 => Q r16 M17)))) ∧ (¬ r4 = 0 → zCt G h sl 0 0 y_Reader_pair [(2, 72), (0, l1), (0, 8)] M5 (fun r19 M20 => Q r19 M20)))) ∧ (¬ r1 = 0 → zCt G h sl 0 0 y_Reader_takeOpen [(2, 72), (0, 40), (0, l1)] M2 (fun r22 M23 => (r22 = 0 → Q 0 M23) ∧ (¬ r22 = 0 → (zI (l1 + 1)) ∧ (zCt G h sl 0 0 y_Reader_sum [(2, 72), (0, (l1 + 1))] M23 (fun r26 M27 => (r26 = 0 → Q 0 M27) ∧ (¬ r26 = 0 → zCt G h sl 0 0 y_Reader_takeSign [(2, 72), (0, 41)] M27 (fun r29 M30 => (r29 = 0 → Q 0 M30) ∧ (¬ r29 = 0 → Q 1 M30)))))))))) ∧ (¬ (¬ (M 72 9) = 2) → zCt G h sl 0 0 y_Reader_number [(2, 72), (0, 0), (0, 9999)] M (fun r32 M33 => (zK (M 72 6) = (0, 0)) ∧ (zCt G h sl 0 0 y_Code_add [(2, (M 72 6)), (0, 0), (0, r32)] M33 (fun r34 M35 => (¬ (M35 72 3) = 0 → Q 0 M35) ∧ (¬ (¬ (M35 72 3) = 0) → Q 1 M35)))))) : zCt G (h + 1) sl 0 0 y_Reader_part [(2, 72), (0, l1)] M Q := by
  refine zCt.of (by decide +kernel) (Nat.le_of_ble_eq_true rfl) ?_
  refine x_aload_n (zdm d_Reader_part_0 0 rfl) rfl (n := 0) rfl ?_
  refine x_getf (zdm d_Reader_part_0 1 rfl) f_Reader_46 rfl rfl ?_
  refine x_iconst (zdm d_Reader_part_0 2 rfl) (zIl rfl) ?_
  refine x_icmpne (tgt := 37) (zdm d_Reader_part_0 3 rfl) (by decide) (fun c => ?_) (fun c => ?_)
  · have H := H.1 c
    refine x_aload_n (zdm d_Reader_part_0 19 rfl) rfl (n := 0) rfl ?_
    refine x_bipush (zdm d_Reader_part_0 20 rfl) (by decide) ?_
    refine x_callVi (n := 1) (ci := 7) (zdm d_Reader_part_0 21 rfl) k_Reader_251 (As := [(0, 40)]) rfl rfl rfl ⟨_, _, rfl⟩ (Nat.le_of_ble_eq_true rfl) trivial H (fun r1 M2 hr H => ?_)
    have b3 : r1 = 0 ∨ r1 = 1 := hr
    refine x_ifeq (tgt := 81) (zdm d_Reader_part_0 22 rfl) (by decide) (fun c => ?_) (fun c => ?_)
    · have H := H.1 c
      refine x_aload_n (zdm d_Reader_part_0 42 rfl) rfl (n := 0) rfl ?_
      refine x_ldcwS (zdm d_Reader_part_0 43 rfl) (i := 4) (x := (-10)) rfl rfl ?_
      refine x_callVi (n := 1) (ci := 7) (zdm d_Reader_part_0 44 rfl) k_Reader_103 (As := [(2, (-10))]) rfl rfl rfl ⟨_, _, rfl⟩ (Nat.le_of_ble_eq_true rfl) trivial H (fun r4 M5 hr H => ?_)
      have b6 : r4 = 0 ∨ r4 = 1 := hr
      refine x_ifeq (tgt := 99) (zdm d_Reader_part_0 45 rfl) (by decide) (fun c => ?_) (fun c => ?_)
      · have H := H.1 c
        refine x_aload_n (zdm d_Reader_part_0 51 rfl) rfl (n := 0) rfl ?_
        refine x_ldcwS (zdm d_Reader_part_0 52 rfl) (i := 5) (x := (-12)) rfl rfl ?_
        refine x_callVi (n := 1) (ci := 7) (zdm d_Reader_part_0 53 rfl) k_Reader_103 (As := [(2, (-12))]) rfl rfl rfl ⟨_, _, rfl⟩ (Nat.le_of_ble_eq_true rfl) trivial H (fun r7 M8 hr H => ?_)
        have b9 : r7 = 0 ∨ r7 = 1 := hr
        refine x_ifeq (tgt := 117) (zdm d_Reader_part_0 54 rfl) (by decide) (fun c => ?_) (fun c => ?_)
        · have H := H.1 c
          refine x_aload_n (zdm d_Reader_part_1 0 rfl) rfl (n := 0) rfl ?_
          refine x_getf (zdm d_Reader_part_1 1 rfl) f_Reader_39 rfl rfl ?_
          refine x_ifeq (tgt := 150) (zdm d_Reader_part_1 2 rfl) (by decide) (fun c => ?_) (fun c => ?_)
          · have H := H.1 c
            exact zX.sub [0] rfl H
          · have H := H.2 c
            refine x_aload_n (zdm d_Reader_part_1 3 rfl) rfl (n := 0) rfl ?_
            refine x_ldcwS (zdm d_Reader_part_1 4 rfl) (i := 6) (x := (-14)) rfl rfl ?_
            refine x_callVi (n := 1) (ci := 7) (zdm d_Reader_part_1 5 rfl) k_Reader_278 (As := [(2, (-14))]) rfl rfl rfl ⟨_, _, rfl⟩ (Nat.le_of_ble_eq_true rfl) trivial H (fun r10 M11 hr H => ?_)
            have b12 : r10 = 0 ∨ r10 = 1 := hr
            refine x_ifne (tgt := 144) (zdm d_Reader_part_1 6 rfl) (by decide) (fun c => ?_) (fun c => ?_)
            · have H := H.1 c
              exact H
            · have H := H.2 c
              refine x_aload_n (zdm d_Reader_part_1 7 rfl) rfl (n := 0) rfl ?_
              refine x_ldcwS (zdm d_Reader_part_1 8 rfl) (i := 7) (x := (-16)) rfl rfl ?_
              refine x_callVi (n := 1) (ci := 7) (zdm d_Reader_part_1 9 rfl) k_Reader_278 (As := [(2, (-16))]) rfl rfl rfl ⟨_, _, rfl⟩ (Nat.le_of_ble_eq_true rfl) trivial H (fun r13 M14 hr H => ?_)
              have b15 : r13 = 0 ∨ r13 = 1 := hr
              refine x_ifeq (tgt := 150) (zdm d_Reader_part_1 10 rfl) (by decide) (fun c => ?_) (fun c => ?_)
              · have H := H.1 c
                exact zX.sub [0] rfl H
              · have H := H.2 c
                exact H
        · have H := H.2 c
          refine x_aload_n (zdm d_Reader_part_0 55 rfl) rfl (n := 0) rfl ?_
          refine x_iload_n (zdm d_Reader_part_0 56 rfl) rfl (n := 1) rfl ?_
          refine x_bipush (zdm d_Reader_part_0 57 rfl) (by decide) ?_
          refine x_callVi (n := 2) (ci := 7) (zdm d_Reader_part_0 58 rfl) k_Reader_271 (As := [(0, l1), (0, 9)]) rfl rfl rfl ⟨_, _, rfl⟩ (Nat.le_of_ble_eq_true rfl) trivial H (fun r16 M17 hr H => ?_)
          have b18 : r16 = 0 ∨ r16 = 1 := hr
          exact x_ireturn (zdm d_Reader_part_0 59 rfl) (ty := .boolean) rfl (by decide) b18 H
      · have H := H.2 c
        refine x_aload_n (zdm d_Reader_part_0 46 rfl) rfl (n := 0) rfl ?_
        refine x_iload_n (zdm d_Reader_part_0 47 rfl) rfl (n := 1) rfl ?_
        refine x_bipush (zdm d_Reader_part_0 48 rfl) (by decide) ?_
        refine x_callVi (n := 2) (ci := 7) (zdm d_Reader_part_0 49 rfl) k_Reader_271 (As := [(0, l1), (0, 8)]) rfl rfl rfl ⟨_, _, rfl⟩ (Nat.le_of_ble_eq_true rfl) trivial H (fun r19 M20 hr H => ?_)
        have b21 : r19 = 0 ∨ r19 = 1 := hr
        exact x_ireturn (zdm d_Reader_part_0 50 rfl) (ty := .boolean) rfl (by decide) b21 H
    · have H := H.2 c
      refine x_aload_n (zdm d_Reader_part_0 23 rfl) rfl (n := 0) rfl ?_
      refine x_bipush (zdm d_Reader_part_0 24 rfl) (by decide) ?_
      refine x_iload_n (zdm d_Reader_part_0 25 rfl) rfl (n := 1) rfl ?_
      refine x_callVi (n := 2) (ci := 7) (zdm d_Reader_part_0 26 rfl) k_Reader_254 (As := [(0, 40), (0, l1)]) rfl rfl rfl ⟨_, _, rfl⟩ (Nat.le_of_ble_eq_true rfl) trivial H (fun r22 M23 hr H => ?_)
      have b24 : r22 = 0 ∨ r22 = 1 := hr
      refine x_ifeq (tgt := 79) (zdm d_Reader_part_0 27 rfl) (by decide) (fun c => ?_) (fun c => ?_)
      · have H := H.1 c
        refine x_iconst (zdm d_Reader_part_0 40 rfl) (zIl rfl) ?_
        exact x_ireturn (zdm d_Reader_part_0 41 rfl) (ty := .boolean) rfl (by decide) (Or.inl rfl) H
      · have H := H.2 c
        refine x_aload_n (zdm d_Reader_part_0 28 rfl) rfl (n := 0) rfl ?_
        refine x_iload_n (zdm d_Reader_part_0 29 rfl) rfl (n := 1) rfl ?_
        refine x_iconst (zdm d_Reader_part_0 30 rfl) (zIl rfl) ?_
        obtain ⟨g25, H⟩ := H
        refine x_iadd (zdm d_Reader_part_0 31 rfl) g25 ?_
        refine x_callVi (n := 1) (ci := 7) (zdm d_Reader_part_0 32 rfl) k_Reader_86 (As := [(0, (l1 + 1))]) rfl rfl rfl ⟨_, _, rfl⟩ (Nat.le_of_ble_eq_true rfl) trivial H (fun r26 M27 hr H => ?_)
        have b28 : r26 = 0 ∨ r26 = 1 := hr
        refine x_ifeq (tgt := 79) (zdm d_Reader_part_0 33 rfl) (by decide) (fun c => ?_) (fun c => ?_)
        · have H := H.1 c
          refine x_iconst (zdm d_Reader_part_0 40 rfl) (zIl rfl) ?_
          exact x_ireturn (zdm d_Reader_part_0 41 rfl) (ty := .boolean) rfl (by decide) (Or.inl rfl) H
        · have H := H.2 c
          refine x_aload_n (zdm d_Reader_part_0 34 rfl) rfl (n := 0) rfl ?_
          refine x_bipush (zdm d_Reader_part_0 35 rfl) (by decide) ?_
          refine x_callVi (n := 1) (ci := 7) (zdm d_Reader_part_0 36 rfl) k_Reader_60 (As := [(0, 41)]) rfl rfl rfl ⟨_, _, rfl⟩ (Nat.le_of_ble_eq_true rfl) trivial H (fun r29 M30 hr H => ?_)
          have b31 : r29 = 0 ∨ r29 = 1 := hr
          refine x_ifeq (tgt := 79) (zdm d_Reader_part_0 37 rfl) (by decide) (fun c => ?_) (fun c => ?_)
          · have H := H.1 c
            refine x_iconst (zdm d_Reader_part_0 40 rfl) (zIl rfl) ?_
            exact x_ireturn (zdm d_Reader_part_0 41 rfl) (ty := .boolean) rfl (by decide) (Or.inl rfl) H
          · have H := H.2 c
            refine x_iconst (zdm d_Reader_part_0 38 rfl) (zIl rfl) ?_
            refine x_goto (tgt := 80) (zdm d_Reader_part_0 39 rfl) (by decide) ?_
            exact x_ireturn (zdm d_Reader_part_0 41 rfl) (ty := .boolean) rfl (by decide) (Or.inr rfl) H
  · have H := H.2 c
    refine x_aload_n (zdm d_Reader_part_0 4 rfl) rfl (n := 0) rfl ?_
    refine x_getf (zdm d_Reader_part_0 5 rfl) f_Reader_22 rfl rfl ?_
    refine x_iconst (zdm d_Reader_part_0 6 rfl) (zIl rfl) ?_
    refine x_aload_n (zdm d_Reader_part_0 7 rfl) rfl (n := 0) rfl ?_
    refine x_iconst (zdm d_Reader_part_0 8 rfl) (zIl rfl) ?_
    refine x_sipush (zdm d_Reader_part_0 9 rfl) (by decide) ?_
    refine x_callVi (n := 2) (ci := 7) (zdm d_Reader_part_0 10 rfl) k_Reader_119 (As := [(0, 0), (0, 9999)]) rfl rfl rfl ⟨_, _, rfl⟩ (Nat.le_of_ble_eq_true rfl) trivial H (fun r32 M33 hr H => ?_)
    obtain ⟨g36, H⟩ := H
    refine x_callVv (n := 2) (ci := 0) (zdm d_Reader_part_0 11 rfl) k_Reader_240 (As := [(0, 0), (0, r32)]) rfl rfl g36 ⟨_, _, rfl⟩ (Nat.le_of_ble_eq_true rfl) rfl H (fun r34 M35 hr H => ?_)
    refine x_aload_n (zdm d_Reader_part_0 12 rfl) rfl (n := 0) rfl ?_
    refine x_getf (zdm d_Reader_part_0 13 rfl) f_Reader_89 rfl rfl ?_
    refine x_ifne (tgt := 35) (zdm d_Reader_part_0 14 rfl) (by decide) (fun c => ?_) (fun c => ?_)
    · have H := H.1 c
      refine x_iconst (zdm d_Reader_part_0 17 rfl) (zIl rfl) ?_
      exact x_ireturn (zdm d_Reader_part_0 18 rfl) (ty := .boolean) rfl (by decide) (Or.inl rfl) H
    · have H := H.2 c
      refine x_iconst (zdm d_Reader_part_0 15 rfl) (zIl rfl) ?_
      refine x_goto (tgt := 36) (zdm d_Reader_part_0 16 rfl) (by decide) ?_
      exact x_ireturn (zdm d_Reader_part_0 18 rfl) (ty := .boolean) rfl (by decide) (Or.inr rfl) H
set_option maxRecDepth 20000 in
set_option maxHeartbeats 4000000 in
theorem B_Reader_pair_53 {G : zG} {h sl : Nat} (hsl : 1 ≤ sl) {u : Nat × Nat × Nat × Nat} {l2 s0 : Int} {M : zM} {Q : Int → zM → Prop} (H : (zK (M 72 6) = (0, 0)) ∧ (zCt G h sl 0 0 y_Code_add [(2, (M 72 6)), (0, l2), (0, 0)] M (fun r1 M2 => (s0 = 0 ∨ s0 = 1) ∧ (Q s0 M2)))) : zX G (y_Reader_pair, h + 1, sl) u 53 [(0, (2, 72)), (2, (0, l2))] [(0, s0)] M Q := by
  refine x_istore_n (zdm d_Reader_pair_0 28 rfl) rfl (zlt rfl) rfl ?_
  refine x_aload_n (zdm d_Reader_pair_0 29 rfl) rfl (n := 1) rfl ?_
  refine x_getf (zdm d_Reader_pair_0 30 rfl) f_Reader_22 rfl rfl ?_
  refine x_iload_n (zdm d_Reader_pair_0 31 rfl) rfl (n := 2) rfl ?_
  refine x_iconst (zdm d_Reader_pair_0 32 rfl) (zIl rfl) ?_
  obtain ⟨g3, H⟩ := H
  refine x_callVv (n := 2) (ci := 0) (zdm d_Reader_pair_0 33 rfl) k_Reader_240 (As := [(0, l2), (0, 0)]) rfl rfl g3 ⟨_, _, rfl⟩ (Nat.le_of_ble_eq_true rfl) rfl H (fun r1 M2 hr H => ?_)
  refine x_iload_n (zdm d_Reader_pair_0 34 rfl) rfl (n := 0) rfl ?_
  obtain ⟨g4, H⟩ := H
  exact x_ireturn (zdm d_Reader_pair_0 35 rfl) (ty := .boolean) rfl (by decide) g4 H
set_option maxRecDepth 20000 in
set_option maxHeartbeats 4000000 in
theorem E_Reader_pair {G : zG} {h sl : Nat} (hsl : 1 ≤ sl) {l1 l2 : Int} {M : zM} {Q : Int → zM → Prop} (H : zCt G h sl 0 0 y_Reader_takeOpen [(2, 72), (0, 40), (0, l1)] M (fun r1 M2 => (r1 = 0 → zX G (y_Reader_pair, h + 1, sl) (0, 0, 0, 0) 53 [(0, (2, 72)), (2, (0, l2))] [(0, 0)] M2 Q) ∧ (¬ r1 = 0 → (zI (l1 + 1)) ∧ (zCt G h sl 0 0 y_Reader_sum [(2, 72), (0, (l1 + 1))] M2 (fun r5 M6 => (r5 = 0 → zX G (y_Reader_pair, h + 1, sl) (0, 0, 0, 0) 53 [(0, (2, 72)), (2, (0, l2))] [(0, 0)] M6 Q) ∧ (¬ r5 = 0 → zCt G h sl 0 0 y_Reader_takeSign [(2, 72), (0, 44)] M6 (fun r8 M9 => (r8 = 0 → zX G (y_Reader_pair, h + 1, sl) (0, 0, 0, 0) 53 [(0, (2, 72)), (2, (0, l2))] [(0, 0)] M9 Q) ∧ (¬ r8 = 0 → zCt G h sl 0 0 y_Reader_sum [(2, 72), (0, (l1 + 1))] M9 (fun r11 M12 => (r11 = 0 → zX G (y_Reader_pair, h + 1, sl) (0, 0, 0, 0) 53 [(0, (2, 72)), (2, (0, l2))] [(0, 0)] M12 Q) ∧ (¬ r11 = 0 → zCt G h sl 0 0 y_Reader_takeSign [(2, 72), (0, 41)] M12 (fun r14 M15 => (r14 = 0 → zX G (y_Reader_pair, h + 1, sl) (0, 0, 0, 0) 53 [(0, (2, 72)), (2, (0, l2))] [(0, 0)] M15 Q) ∧ (¬ r14 = 0 → zX G (y_Reader_pair, h + 1, sl) (0, 0, 0, 0) 53 [(0, (2, 72)), (2, (0, l2))] [(0, 1)] M15 Q)))))))))))) : zCt G (h + 1) sl 0 0 y_Reader_pair [(2, 72), (0, l1), (0, l2)] M Q := by
  refine zCt.of (by decide +kernel) (Nat.le_of_ble_eq_true rfl) ?_
  refine x_aload_n (zdm d_Reader_pair_0 0 rfl) rfl (n := 0) rfl ?_
  refine x_bipush (zdm d_Reader_pair_0 1 rfl) (by decide) ?_
  refine x_iload_n (zdm d_Reader_pair_0 2 rfl) rfl (n := 1) rfl ?_
  refine x_callVi (n := 2) (ci := 7) (zdm d_Reader_pair_0 3 rfl) k_Reader_254 (As := [(0, 40), (0, l1)]) rfl rfl rfl ⟨_, _, rfl⟩ (Nat.le_of_ble_eq_true rfl) trivial H (fun r1 M2 hr H => ?_)
  have b3 : r1 = 0 ∨ r1 = 1 := hr
  refine x_ifeq (tgt := 52) (zdm d_Reader_pair_0 4 rfl) (by decide) (fun c => ?_) (fun c => ?_)
  · have H := H.1 c
    refine x_iconst (zdm d_Reader_pair_0 27 rfl) (zIl rfl) ?_
    exact zX.sub [0, 2] rfl H
  · have H := H.2 c
    refine x_aload_n (zdm d_Reader_pair_0 5 rfl) rfl (n := 0) rfl ?_
    refine x_iload_n (zdm d_Reader_pair_0 6 rfl) rfl (n := 1) rfl ?_
    refine x_iconst (zdm d_Reader_pair_0 7 rfl) (zIl rfl) ?_
    obtain ⟨g4, H⟩ := H
    refine x_iadd (zdm d_Reader_pair_0 8 rfl) g4 ?_
    refine x_callVi (n := 1) (ci := 7) (zdm d_Reader_pair_0 9 rfl) k_Reader_86 (As := [(0, (l1 + 1))]) rfl rfl rfl ⟨_, _, rfl⟩ (Nat.le_of_ble_eq_true rfl) trivial H (fun r5 M6 hr H => ?_)
    have b7 : r5 = 0 ∨ r5 = 1 := hr
    refine x_ifeq (tgt := 52) (zdm d_Reader_pair_0 10 rfl) (by decide) (fun c => ?_) (fun c => ?_)
    · have H := H.1 c
      refine x_iconst (zdm d_Reader_pair_0 27 rfl) (zIl rfl) ?_
      exact zX.sub [0, 2] rfl H
    · have H := H.2 c
      refine x_aload_n (zdm d_Reader_pair_0 11 rfl) rfl (n := 0) rfl ?_
      refine x_bipush (zdm d_Reader_pair_0 12 rfl) (by decide) ?_
      refine x_callVi (n := 1) (ci := 7) (zdm d_Reader_pair_0 13 rfl) k_Reader_60 (As := [(0, 44)]) rfl rfl rfl ⟨_, _, rfl⟩ (Nat.le_of_ble_eq_true rfl) trivial H (fun r8 M9 hr H => ?_)
      have b10 : r8 = 0 ∨ r8 = 1 := hr
      refine x_ifeq (tgt := 52) (zdm d_Reader_pair_0 14 rfl) (by decide) (fun c => ?_) (fun c => ?_)
      · have H := H.1 c
        refine x_iconst (zdm d_Reader_pair_0 27 rfl) (zIl rfl) ?_
        exact zX.sub [0, 2] rfl H
      · have H := H.2 c
        refine x_aload_n (zdm d_Reader_pair_0 15 rfl) rfl (n := 0) rfl ?_
        refine x_iload_n (zdm d_Reader_pair_0 16 rfl) rfl (n := 1) rfl ?_
        refine x_iconst (zdm d_Reader_pair_0 17 rfl) (zIl rfl) ?_
        refine x_iadd (zdm d_Reader_pair_0 18 rfl) g4 ?_
        refine x_callVi (n := 1) (ci := 7) (zdm d_Reader_pair_0 19 rfl) k_Reader_86 (As := [(0, (l1 + 1))]) rfl rfl rfl ⟨_, _, rfl⟩ (Nat.le_of_ble_eq_true rfl) trivial H (fun r11 M12 hr H => ?_)
        have b13 : r11 = 0 ∨ r11 = 1 := hr
        refine x_ifeq (tgt := 52) (zdm d_Reader_pair_0 20 rfl) (by decide) (fun c => ?_) (fun c => ?_)
        · have H := H.1 c
          refine x_iconst (zdm d_Reader_pair_0 27 rfl) (zIl rfl) ?_
          exact zX.sub [0, 2] rfl H
        · have H := H.2 c
          refine x_aload_n (zdm d_Reader_pair_0 21 rfl) rfl (n := 0) rfl ?_
          refine x_bipush (zdm d_Reader_pair_0 22 rfl) (by decide) ?_
          refine x_callVi (n := 1) (ci := 7) (zdm d_Reader_pair_0 23 rfl) k_Reader_60 (As := [(0, 41)]) rfl rfl rfl ⟨_, _, rfl⟩ (Nat.le_of_ble_eq_true rfl) trivial H (fun r14 M15 hr H => ?_)
          have b16 : r14 = 0 ∨ r14 = 1 := hr
          refine x_ifeq (tgt := 52) (zdm d_Reader_pair_0 24 rfl) (by decide) (fun c => ?_) (fun c => ?_)
          · have H := H.1 c
            refine x_iconst (zdm d_Reader_pair_0 27 rfl) (zIl rfl) ?_
            exact zX.sub [0, 2] rfl H
          · have H := H.2 c
            refine x_iconst (zdm d_Reader_pair_0 25 rfl) (zIl rfl) ?_
            refine x_goto (tgt := 53) (zdm d_Reader_pair_0 26 rfl) (by decide) ?_
            exact zX.sub [0, 2] rfl H
set_option maxRecDepth 20000 in
set_option maxHeartbeats 4000000 in
theorem B_Reader_askedPart_31 {G : zG} {h sl : Nat} (hsl : 1 ≤ sl) {u : Nat × Nat × Nat × Nat} {l1 s0 : Int} {M : zM} {Q : Int → zM → Prop} (H : zCt G h sl 0 0 y_Reader_advance [(2, 72)] M (fun r1 M2 => (zI (l1 + 1)) ∧ (zCt G h sl 0 0 y_Reader_part [(2, 72), (0, (l1 + 1))] M2 (fun r4 M5 => (zK (M5 72 6) = (0, 0)) ∧ (zCt G h sl 0 0 y_Code_add [(2, (M5 72 6)), (0, 2), (0, s0)] M5 (fun r7 M8 => Q r4 M8)))))) : zX G (y_Reader_askedPart, h + 1, sl) u 31 [(0, (2, 72)), (1, (0, l1))] [(0, s0)] M Q := by
  refine x_istore_n (zdm d_Reader_askedPart_0 16 rfl) rfl (zlt rfl) rfl ?_
  refine x_aload_n (zdm d_Reader_askedPart_0 17 rfl) rfl (n := 1) rfl ?_
  refine x_callVv (n := 0) (ci := 7) (zdm d_Reader_askedPart_0 18 rfl) k_Reader_98 (As := []) rfl rfl rfl ⟨_, _, rfl⟩ (Nat.le_of_ble_eq_true rfl) rfl H (fun r1 M2 hr H => ?_)
  refine x_aload_n (zdm d_Reader_askedPart_0 19 rfl) rfl (n := 1) rfl ?_
  refine x_iload_n (zdm d_Reader_askedPart_0 20 rfl) rfl (n := 2) rfl ?_
  refine x_iconst (zdm d_Reader_askedPart_0 21 rfl) (zIl rfl) ?_
  obtain ⟨g3, H⟩ := H
  refine x_iadd (zdm d_Reader_askedPart_0 22 rfl) g3 ?_
  refine x_callVi (n := 1) (ci := 7) (zdm d_Reader_askedPart_0 23 rfl) k_Reader_266 (As := [(0, (l1 + 1))]) rfl rfl rfl ⟨_, _, rfl⟩ (Nat.le_of_ble_eq_true rfl) trivial H (fun r4 M5 hr H => ?_)
  have b6 : r4 = 0 ∨ r4 = 1 := hr
  refine x_istore_n (zdm d_Reader_askedPart_0 24 rfl) rfl (zlt rfl) rfl ?_
  refine x_aload_n (zdm d_Reader_askedPart_0 25 rfl) rfl (n := 2) rfl ?_
  refine x_getf (zdm d_Reader_askedPart_0 26 rfl) f_Reader_22 rfl rfl ?_
  refine x_iconst (zdm d_Reader_askedPart_0 27 rfl) (zIl rfl) ?_
  refine x_iload_n (zdm d_Reader_askedPart_0 28 rfl) rfl (n := 1) rfl ?_
  obtain ⟨g9, H⟩ := H
  refine x_callVv (n := 2) (ci := 0) (zdm d_Reader_askedPart_0 29 rfl) k_Reader_240 (As := [(0, 2), (0, s0)]) rfl rfl g9 ⟨_, _, rfl⟩ (Nat.le_of_ble_eq_true rfl) rfl H (fun r7 M8 hr H => ?_)
  refine x_iload_n (zdm d_Reader_askedPart_0 30 rfl) rfl (n := 0) rfl ?_
  exact x_ireturn (zdm d_Reader_askedPart_0 31 rfl) (ty := .boolean) rfl (by decide) b6 H
set_option maxRecDepth 20000 in
set_option maxHeartbeats 4000000 in
theorem E_Reader_askedPart {G : zG} {h sl : Nat} (hsl : 1 ≤ sl) {l1 : Int} {M : zM} {Q : Int → zM → Prop} (H : (l1 < 6 → zCt G h sl 0 0 y_Reader_isWord [(2, 72), (2, (-14))] M (fun r1 M2 => (r1 = 0 → zX G (y_Reader_askedPart, h + 1, sl) (0, 0, 0, 0) 31 [(0, (2, 72)), (1, (0, l1))] [(0, 1)] M2 Q) ∧ (¬ r1 = 0 → zX G (y_Reader_askedPart, h + 1, sl) (0, 0, 0, 0) 31 [(0, (2, 72)), (1, (0, l1))] [(0, 0)] M2 Q))) ∧ (¬ l1 < 6 → zCt G h sl 0 0 y_Reader_refuse [(2, 72), (0, 4), (0, (M 72 10))] M (fun r4 M5 => Q r4 M5))) : zCt G (h + 1) sl 0 0 y_Reader_askedPart [(2, 72), (0, l1)] M Q := by
  refine zCt.of (by decide +kernel) (Nat.le_of_ble_eq_true rfl) ?_
  refine x_iload_n (zdm d_Reader_askedPart_0 0 rfl) rfl (n := 1) rfl ?_
  refine x_bipush (zdm d_Reader_askedPart_0 1 rfl) (by decide) ?_
  refine x_icmplt (tgt := 16) (zdm d_Reader_askedPart_0 2 rfl) (by decide) (fun c => ?_) (fun c => ?_)
  · have H := H.1 c
    refine x_aload_n (zdm d_Reader_askedPart_0 9 rfl) rfl (n := 0) rfl ?_
    refine x_ldcwS (zdm d_Reader_askedPart_0 10 rfl) (i := 6) (x := (-14)) rfl rfl ?_
    refine x_callVi (n := 1) (ci := 7) (zdm d_Reader_askedPart_0 11 rfl) k_Reader_278 (As := [(2, (-14))]) rfl rfl rfl ⟨_, _, rfl⟩ (Nat.le_of_ble_eq_true rfl) trivial H (fun r1 M2 hr H => ?_)
    have b3 : r1 = 0 ∨ r1 = 1 := hr
    refine x_ifeq (tgt := 30) (zdm d_Reader_askedPart_0 12 rfl) (by decide) (fun c => ?_) (fun c => ?_)
    · have H := H.1 c
      refine x_iconst (zdm d_Reader_askedPart_0 15 rfl) (zIl rfl) ?_
      exact H
    · have H := H.2 c
      refine x_iconst (zdm d_Reader_askedPart_0 13 rfl) (zIl rfl) ?_
      refine x_goto (tgt := 31) (zdm d_Reader_askedPart_0 14 rfl) (by decide) ?_
      exact H
  · have H := H.2 c
    refine x_aload_n (zdm d_Reader_askedPart_0 3 rfl) rfl (n := 0) rfl ?_
    refine x_iconst (zdm d_Reader_askedPart_0 4 rfl) (zIl rfl) ?_
    refine x_aload_n (zdm d_Reader_askedPart_0 5 rfl) rfl (n := 0) rfl ?_
    refine x_getf (zdm d_Reader_askedPart_0 6 rfl) f_Reader_49 rfl rfl ?_
    refine x_callVi (n := 2) (ci := 7) (zdm d_Reader_askedPart_0 7 rfl) k_Reader_52 (As := [(0, 4), (0, (M 72 10))]) rfl rfl rfl ⟨_, _, rfl⟩ (Nat.le_of_ble_eq_true rfl) trivial H (fun r4 M5 hr H => ?_)
    have b6 : r4 = 0 ∨ r4 = 1 := hr
    exact x_ireturn (zdm d_Reader_askedPart_0 8 rfl) (ty := .boolean) rfl (by decide) b6 H
set_option maxRecDepth 20000 in
set_option maxHeartbeats 4000000 in
theorem E_Reader_toldOfColumn {G : zG} {h sl : Nat} (hsl : 1 ≤ sl) {M : zM} {Q : Int → zM → Prop} (H : zCt G h sl 0 0 y_Reader_isWord [(2, 72), (2, (-18))] M (fun r1 M2 => (r1 = 0 → zCt G h sl 0 0 y_Reader_isWord [(2, 72), (2, (-20))] M2 (fun r4 M5 => (r4 = 0 → zCt G h sl 0 0 y_Reader_isWord [(2, 72), (2, (-22))] M5 (fun r7 M8 => (r7 = 0 → zCt G h sl 0 0 y_Reader_isWord [(2, 72), (2, (-24))] M8 (fun r10 M11 => (r10 = 0 → zCt G h sl 0 0 y_Reader_isWord [(2, 72), (2, (-26))] M11 (fun r13 M14 => (r13 = 0 → Q (-1) M14) ∧ (¬ r13 = 0 → Q 4 M14))) ∧ (¬ r10 = 0 → Q 3 M11))) ∧ (¬ r7 = 0 → Q 2 M8))) ∧ (¬ r4 = 0 → Q 1 M5))) ∧ (¬ r1 = 0 → Q 0 M2))) : zCt G (h + 1) sl 0 0 y_Reader_toldOfColumn [(2, 72)] M Q := by
  refine zCt.of (by decide +kernel) (Nat.le_of_ble_eq_true rfl) ?_
  refine x_aload_n (zdm d_Reader_toldOfColumn_0 0 rfl) rfl (n := 0) rfl ?_
  refine x_ldcwS (zdm d_Reader_toldOfColumn_0 1 rfl) (i := 8) (x := (-18)) rfl rfl ?_
  refine x_callVi (n := 1) (ci := 7) (zdm d_Reader_toldOfColumn_0 2 rfl) k_Reader_278 (As := [(2, (-18))]) rfl rfl rfl ⟨_, _, rfl⟩ (Nat.le_of_ble_eq_true rfl) trivial H (fun r1 M2 hr H => ?_)
  have b3 : r1 = 0 ∨ r1 = 1 := hr
  refine x_ifeq (tgt := 12) (zdm d_Reader_toldOfColumn_0 3 rfl) (by decide) (fun c => ?_) (fun c => ?_)
  · have H := H.1 c
    refine x_aload_n (zdm d_Reader_toldOfColumn_0 6 rfl) rfl (n := 0) rfl ?_
    refine x_ldcwS (zdm d_Reader_toldOfColumn_0 7 rfl) (i := 9) (x := (-20)) rfl rfl ?_
    refine x_callVi (n := 1) (ci := 7) (zdm d_Reader_toldOfColumn_0 8 rfl) k_Reader_278 (As := [(2, (-20))]) rfl rfl rfl ⟨_, _, rfl⟩ (Nat.le_of_ble_eq_true rfl) trivial H (fun r4 M5 hr H => ?_)
    have b6 : r4 = 0 ∨ r4 = 1 := hr
    refine x_ifeq (tgt := 24) (zdm d_Reader_toldOfColumn_0 9 rfl) (by decide) (fun c => ?_) (fun c => ?_)
    · have H := H.1 c
      refine x_aload_n (zdm d_Reader_toldOfColumn_0 12 rfl) rfl (n := 0) rfl ?_
      refine x_ldcwS (zdm d_Reader_toldOfColumn_0 13 rfl) (i := 10) (x := (-22)) rfl rfl ?_
      refine x_callVi (n := 1) (ci := 7) (zdm d_Reader_toldOfColumn_0 14 rfl) k_Reader_278 (As := [(2, (-22))]) rfl rfl rfl ⟨_, _, rfl⟩ (Nat.le_of_ble_eq_true rfl) trivial H (fun r7 M8 hr H => ?_)
      have b9 : r7 = 0 ∨ r7 = 1 := hr
      refine x_ifeq (tgt := 36) (zdm d_Reader_toldOfColumn_0 15 rfl) (by decide) (fun c => ?_) (fun c => ?_)
      · have H := H.1 c
        refine x_aload_n (zdm d_Reader_toldOfColumn_0 18 rfl) rfl (n := 0) rfl ?_
        refine x_ldcwS (zdm d_Reader_toldOfColumn_0 19 rfl) (i := 11) (x := (-24)) rfl rfl ?_
        refine x_callVi (n := 1) (ci := 7) (zdm d_Reader_toldOfColumn_0 20 rfl) k_Reader_278 (As := [(2, (-24))]) rfl rfl rfl ⟨_, _, rfl⟩ (Nat.le_of_ble_eq_true rfl) trivial H (fun r10 M11 hr H => ?_)
        have b12 : r10 = 0 ∨ r10 = 1 := hr
        refine x_ifeq (tgt := 48) (zdm d_Reader_toldOfColumn_0 21 rfl) (by decide) (fun c => ?_) (fun c => ?_)
        · have H := H.1 c
          refine x_aload_n (zdm d_Reader_toldOfColumn_0 24 rfl) rfl (n := 0) rfl ?_
          refine x_ldcwS (zdm d_Reader_toldOfColumn_0 25 rfl) (i := 12) (x := (-26)) rfl rfl ?_
          refine x_callVi (n := 1) (ci := 7) (zdm d_Reader_toldOfColumn_0 26 rfl) k_Reader_278 (As := [(2, (-26))]) rfl rfl rfl ⟨_, _, rfl⟩ (Nat.le_of_ble_eq_true rfl) trivial H (fun r13 M14 hr H => ?_)
          have b15 : r13 = 0 ∨ r13 = 1 := hr
          refine x_ifeq (tgt := 62) (zdm d_Reader_toldOfColumn_0 27 rfl) (by decide) (fun c => ?_) (fun c => ?_)
          · have H := H.1 c
            refine x_iconst (zdm d_Reader_toldOfColumn_0 30 rfl) (zIl rfl) ?_
            exact x_iret (zdm d_Reader_toldOfColumn_0 31 rfl) rfl H
          · have H := H.2 c
            refine x_iconst (zdm d_Reader_toldOfColumn_0 28 rfl) (zIl rfl) ?_
            refine x_goto (tgt := 63) (zdm d_Reader_toldOfColumn_0 29 rfl) (by decide) ?_
            exact x_iret (zdm d_Reader_toldOfColumn_0 31 rfl) rfl H
        · have H := H.2 c
          refine x_iconst (zdm d_Reader_toldOfColumn_0 22 rfl) (zIl rfl) ?_
          exact x_iret (zdm d_Reader_toldOfColumn_0 23 rfl) rfl H
      · have H := H.2 c
        refine x_iconst (zdm d_Reader_toldOfColumn_0 16 rfl) (zIl rfl) ?_
        exact x_iret (zdm d_Reader_toldOfColumn_0 17 rfl) rfl H
    · have H := H.2 c
      refine x_iconst (zdm d_Reader_toldOfColumn_0 10 rfl) (zIl rfl) ?_
      exact x_iret (zdm d_Reader_toldOfColumn_0 11 rfl) rfl H
  · have H := H.2 c
    refine x_iconst (zdm d_Reader_toldOfColumn_0 4 rfl) (zIl rfl) ?_
    exact x_iret (zdm d_Reader_toldOfColumn_0 5 rfl) rfl H
set_option maxRecDepth 20000 in
set_option maxHeartbeats 4000000 in
theorem B_Reader_toldOfLine_33 {G : zG} {h sl : Nat} (hsl : 1 ≤ sl) {u : Nat × Nat × Nat × Nat} {M : zM} {Q : Int → zM → Prop} (H : zCt G h sl 0 0 y_Reader_columnHere [(2, 72)] M (fun r1 M2 => Q r1 M2)) : zX G (y_Reader_toldOfLine, h + 1, sl) u 33 [(0, (2, 72))] [] M Q := by
  refine x_aload_n (zdm d_Reader_toldOfLine_0 15 rfl) rfl (n := 0) rfl ?_
  refine x_callVi (n := 0) (ci := 7) (zdm d_Reader_toldOfLine_0 16 rfl) k_Reader_224 (As := []) rfl rfl rfl ⟨_, _, rfl⟩ (Nat.le_of_ble_eq_true rfl) trivial H (fun r1 M2 hr H => ?_)
  exact x_iret (zdm d_Reader_toldOfLine_0 17 rfl) rfl H
set_option maxRecDepth 20000 in
set_option maxHeartbeats 4000000 in
theorem E_Reader_toldOfLine {G : zG} {h sl : Nat} (hsl : 1 ≤ sl) {M : zM} {Q : Int → zM → Prop} (H : zCt G h sl 0 0 y_Reader_isWord [(2, 72), (2, (-26))] M (fun r1 M2 => (r1 = 0 → ((M2 72 8) = 0 → zX G (y_Reader_toldOfLine, h + 1, sl) (0, 0, 0, 0) 33 [(0, (2, 72))] [] M2 Q) ∧ (¬ (M2 72 8) = 0 → zCt G h sl 0 0 y_Reader_isWord [(2, 72), (2, (-28))] M2 (fun r4 M5 => (r4 = 0 → zX G (y_Reader_toldOfLine, h + 1, sl) (0, 0, 0, 0) 33 [(0, (2, 72))] [] M5 Q) ∧ (¬ r4 = 0 → Q 9 M5)))) ∧ (¬ r1 = 0 → Q 8 M2))) : zCt G (h + 1) sl 0 0 y_Reader_toldOfLine [(2, 72)] M Q := by
  refine zCt.of (by decide +kernel) (Nat.le_of_ble_eq_true rfl) ?_
  refine x_aload_n (zdm d_Reader_toldOfLine_0 0 rfl) rfl (n := 0) rfl ?_
  refine x_ldcwS (zdm d_Reader_toldOfLine_0 1 rfl) (i := 12) (x := (-26)) rfl rfl ?_
  refine x_callVi (n := 1) (ci := 7) (zdm d_Reader_toldOfLine_0 2 rfl) k_Reader_278 (As := [(2, (-26))]) rfl rfl rfl ⟨_, _, rfl⟩ (Nat.le_of_ble_eq_true rfl) trivial H (fun r1 M2 hr H => ?_)
  have b3 : r1 = 0 ∨ r1 = 1 := hr
  refine x_ifeq (tgt := 13) (zdm d_Reader_toldOfLine_0 3 rfl) (by decide) (fun c => ?_) (fun c => ?_)
  · have H := H.1 c
    refine x_aload_n (zdm d_Reader_toldOfLine_0 6 rfl) rfl (n := 0) rfl ?_
    refine x_getf (zdm d_Reader_toldOfLine_0 7 rfl) f_Reader_95 rfl rfl ?_
    refine x_ifeq (tgt := 33) (zdm d_Reader_toldOfLine_0 8 rfl) (by decide) (fun c => ?_) (fun c => ?_)
    · have H := H.1 c
      exact H
    · have H := H.2 c
      refine x_aload_n (zdm d_Reader_toldOfLine_0 9 rfl) rfl (n := 0) rfl ?_
      refine x_ldcwS (zdm d_Reader_toldOfLine_0 10 rfl) (i := 13) (x := (-28)) rfl rfl ?_
      refine x_callVi (n := 1) (ci := 7) (zdm d_Reader_toldOfLine_0 11 rfl) k_Reader_278 (As := [(2, (-28))]) rfl rfl rfl ⟨_, _, rfl⟩ (Nat.le_of_ble_eq_true rfl) trivial H (fun r4 M5 hr H => ?_)
      have b6 : r4 = 0 ∨ r4 = 1 := hr
      refine x_ifeq (tgt := 33) (zdm d_Reader_toldOfLine_0 12 rfl) (by decide) (fun c => ?_) (fun c => ?_)
      · have H := H.1 c
        exact H
      · have H := H.2 c
        refine x_bipush (zdm d_Reader_toldOfLine_0 13 rfl) (by decide) ?_
        exact x_iret (zdm d_Reader_toldOfLine_0 14 rfl) rfl H
  · have H := H.2 c
    refine x_bipush (zdm d_Reader_toldOfLine_0 4 rfl) (by decide) ?_
    exact x_iret (zdm d_Reader_toldOfLine_0 5 rfl) rfl H
set_option maxRecDepth 20000 in
set_option maxHeartbeats 4000000 in
theorem E_Reader_takeOpen {G : zG} {h sl : Nat} (hsl : 1 ≤ sl) {l1 l2 : Int} {M : zM} {Q : Int → zM → Prop} (H : zCt G h sl 0 0 y_Reader_isSign [(2, 72), (0, l1)] M (fun r1 M2 => (¬ r1 = 0 → (l2 < 6 → zCt G h sl 0 0 y_Reader_advance [(2, 72)] M2 (fun r4 M5 => Q 1 M5)) ∧ (¬ l2 < 6 → zCt G h sl 0 0 y_Reader_refuse [(2, 72), (0, 4), (0, (M2 72 10))] M2 (fun r6 M7 => Q r6 M7))) ∧ (¬ (¬ r1 = 0) → zCt G h sl 0 0 y_Reader_unfit [(2, 72)] M2 (fun r9 M10 => Q r9 M10)))) : zCt G (h + 1) sl 0 0 y_Reader_takeOpen [(2, 72), (0, l1), (0, l2)] M Q := by
  refine zCt.of (by decide +kernel) (Nat.le_of_ble_eq_true rfl) ?_
  refine x_aload_n (zdm d_Reader_takeOpen_0 0 rfl) rfl (n := 0) rfl ?_
  refine x_iload_n (zdm d_Reader_takeOpen_0 1 rfl) rfl (n := 1) rfl ?_
  refine x_callVi (n := 1) (ci := 7) (zdm d_Reader_takeOpen_0 2 rfl) k_Reader_251 (As := [(0, l1)]) rfl rfl rfl ⟨_, _, rfl⟩ (Nat.le_of_ble_eq_true rfl) trivial H (fun r1 M2 hr H => ?_)
  have b3 : r1 = 0 ∨ r1 = 1 := hr
  refine x_ifne (tgt := 13) (zdm d_Reader_takeOpen_0 3 rfl) (by decide) (fun c => ?_) (fun c => ?_)
  · have H := H.1 c
    refine x_iload_n (zdm d_Reader_takeOpen_0 7 rfl) rfl (n := 2) rfl ?_
    refine x_bipush (zdm d_Reader_takeOpen_0 8 rfl) (by decide) ?_
    refine x_icmplt (tgt := 29) (zdm d_Reader_takeOpen_0 9 rfl) (by decide) (fun c => ?_) (fun c => ?_)
    · have H := H.1 c
      refine x_aload_n (zdm d_Reader_takeOpen_0 16 rfl) rfl (n := 0) rfl ?_
      refine x_callVv (n := 0) (ci := 7) (zdm d_Reader_takeOpen_0 17 rfl) k_Reader_98 (As := []) rfl rfl rfl ⟨_, _, rfl⟩ (Nat.le_of_ble_eq_true rfl) rfl H (fun r4 M5 hr H => ?_)
      refine x_iconst (zdm d_Reader_takeOpen_0 18 rfl) (zIl rfl) ?_
      exact x_ireturn (zdm d_Reader_takeOpen_0 19 rfl) (ty := .boolean) rfl (by decide) (Or.inr rfl) H
    · have H := H.2 c
      refine x_aload_n (zdm d_Reader_takeOpen_0 10 rfl) rfl (n := 0) rfl ?_
      refine x_iconst (zdm d_Reader_takeOpen_0 11 rfl) (zIl rfl) ?_
      refine x_aload_n (zdm d_Reader_takeOpen_0 12 rfl) rfl (n := 0) rfl ?_
      refine x_getf (zdm d_Reader_takeOpen_0 13 rfl) f_Reader_49 rfl rfl ?_
      refine x_callVi (n := 2) (ci := 7) (zdm d_Reader_takeOpen_0 14 rfl) k_Reader_52 (As := [(0, 4), (0, (M2 72 10))]) rfl rfl rfl ⟨_, _, rfl⟩ (Nat.le_of_ble_eq_true rfl) trivial H (fun r6 M7 hr H => ?_)
      have b8 : r6 = 0 ∨ r6 = 1 := hr
      exact x_ireturn (zdm d_Reader_takeOpen_0 15 rfl) (ty := .boolean) rfl (by decide) b8 H
  · have H := H.2 c
    refine x_aload_n (zdm d_Reader_takeOpen_0 4 rfl) rfl (n := 0) rfl ?_
    refine x_callVi (n := 0) (ci := 7) (zdm d_Reader_takeOpen_0 5 rfl) k_Reader_77 (As := []) rfl rfl rfl ⟨_, _, rfl⟩ (Nat.le_of_ble_eq_true rfl) trivial H (fun r9 M10 hr H => ?_)
    have b11 : r9 = 0 ∨ r9 = 1 := hr
    exact x_ireturn (zdm d_Reader_takeOpen_0 6 rfl) (ty := .boolean) rfl (by decide) b11 H
set_option maxRecDepth 20000 in
set_option maxHeartbeats 4000000 in
theorem E_Reader_takeSign {G : zG} {h sl : Nat} (hsl : 1 ≤ sl) {l1 : Int} {M : zM} {Q : Int → zM → Prop} (H : zCt G h sl 0 0 y_Reader_isSign [(2, 72), (0, l1)] M (fun r1 M2 => (¬ r1 = 0 → zCt G h sl 0 0 y_Reader_advance [(2, 72)] M2 (fun r4 M5 => Q 1 M5)) ∧ (¬ (¬ r1 = 0) → zCt G h sl 0 0 y_Reader_unfit [(2, 72)] M2 (fun r6 M7 => Q r6 M7)))) : zCt G (h + 1) sl 0 0 y_Reader_takeSign [(2, 72), (0, l1)] M Q := by
  refine zCt.of (by decide +kernel) (Nat.le_of_ble_eq_true rfl) ?_
  refine x_aload_n (zdm d_Reader_takeSign_0 0 rfl) rfl (n := 0) rfl ?_
  refine x_iload_n (zdm d_Reader_takeSign_0 1 rfl) rfl (n := 1) rfl ?_
  refine x_callVi (n := 1) (ci := 7) (zdm d_Reader_takeSign_0 2 rfl) k_Reader_251 (As := [(0, l1)]) rfl rfl rfl ⟨_, _, rfl⟩ (Nat.le_of_ble_eq_true rfl) trivial H (fun r1 M2 hr H => ?_)
  have b3 : r1 = 0 ∨ r1 = 1 := hr
  refine x_ifne (tgt := 13) (zdm d_Reader_takeSign_0 3 rfl) (by decide) (fun c => ?_) (fun c => ?_)
  · have H := H.1 c
    refine x_aload_n (zdm d_Reader_takeSign_0 7 rfl) rfl (n := 0) rfl ?_
    refine x_callVv (n := 0) (ci := 7) (zdm d_Reader_takeSign_0 8 rfl) k_Reader_98 (As := []) rfl rfl rfl ⟨_, _, rfl⟩ (Nat.le_of_ble_eq_true rfl) rfl H (fun r4 M5 hr H => ?_)
    refine x_iconst (zdm d_Reader_takeSign_0 9 rfl) (zIl rfl) ?_
    exact x_ireturn (zdm d_Reader_takeSign_0 10 rfl) (ty := .boolean) rfl (by decide) (Or.inr rfl) H
  · have H := H.2 c
    refine x_aload_n (zdm d_Reader_takeSign_0 4 rfl) rfl (n := 0) rfl ?_
    refine x_callVi (n := 0) (ci := 7) (zdm d_Reader_takeSign_0 5 rfl) k_Reader_77 (As := []) rfl rfl rfl ⟨_, _, rfl⟩ (Nat.le_of_ble_eq_true rfl) trivial H (fun r6 M7 hr H => ?_)
    have b8 : r6 = 0 ∨ r6 = 1 := hr
    exact x_ireturn (zdm d_Reader_takeSign_0 6 rfl) (ty := .boolean) rfl (by decide) b8 H
set_option maxRecDepth 20000 in
set_option maxHeartbeats 4000000 in
theorem E_Reader_takeWord {G : zG} {h sl : Nat} (hsl : 1 ≤ sl) {l1 : Int} {M : zM} {Q : Int → zM → Prop} (H : zCt G h sl 0 0 y_Reader_isWord [(2, 72), (2, l1)] M (fun r1 M2 => (¬ r1 = 0 → zCt G h sl 0 0 y_Reader_advance [(2, 72)] M2 (fun r4 M5 => Q 1 M5)) ∧ (¬ (¬ r1 = 0) → zCt G h sl 0 0 y_Reader_unfit [(2, 72)] M2 (fun r6 M7 => Q r6 M7)))) : zCt G (h + 1) sl 0 0 y_Reader_takeWord [(2, 72), (2, l1)] M Q := by
  refine zCt.of (by decide +kernel) (Nat.le_of_ble_eq_true rfl) ?_
  refine x_aload_n (zdm d_Reader_takeWord_0 0 rfl) rfl (n := 0) rfl ?_
  refine x_aload_n (zdm d_Reader_takeWord_0 1 rfl) rfl (n := 1) rfl ?_
  refine x_callVi (n := 1) (ci := 7) (zdm d_Reader_takeWord_0 2 rfl) k_Reader_278 (As := [(2, l1)]) rfl rfl rfl ⟨_, _, rfl⟩ (Nat.le_of_ble_eq_true rfl) trivial H (fun r1 M2 hr H => ?_)
  have b3 : r1 = 0 ∨ r1 = 1 := hr
  refine x_ifne (tgt := 13) (zdm d_Reader_takeWord_0 3 rfl) (by decide) (fun c => ?_) (fun c => ?_)
  · have H := H.1 c
    refine x_aload_n (zdm d_Reader_takeWord_0 7 rfl) rfl (n := 0) rfl ?_
    refine x_callVv (n := 0) (ci := 7) (zdm d_Reader_takeWord_0 8 rfl) k_Reader_98 (As := []) rfl rfl rfl ⟨_, _, rfl⟩ (Nat.le_of_ble_eq_true rfl) rfl H (fun r4 M5 hr H => ?_)
    refine x_iconst (zdm d_Reader_takeWord_0 9 rfl) (zIl rfl) ?_
    exact x_ireturn (zdm d_Reader_takeWord_0 10 rfl) (ty := .boolean) rfl (by decide) (Or.inr rfl) H
  · have H := H.2 c
    refine x_aload_n (zdm d_Reader_takeWord_0 4 rfl) rfl (n := 0) rfl ?_
    refine x_callVi (n := 0) (ci := 7) (zdm d_Reader_takeWord_0 5 rfl) k_Reader_77 (As := []) rfl rfl rfl ⟨_, _, rfl⟩ (Nat.le_of_ble_eq_true rfl) trivial H (fun r6 M7 hr H => ?_)
    have b8 : r6 = 0 ∨ r6 = 1 := hr
    exact x_ireturn (zdm d_Reader_takeWord_0 6 rfl) (ty := .boolean) rfl (by decide) b8 H
set_option maxRecDepth 20000 in
set_option maxHeartbeats 4000000 in
theorem E_Reader_tryWord {G : zG} {h sl : Nat} (hsl : 1 ≤ sl) {l1 : Int} {M : zM} {Q : Int → zM → Prop} (H : zCt G h sl 0 0 y_Reader_isWord [(2, 72), (2, l1)] M (fun r1 M2 => (¬ r1 = 0 → zCt G h sl 0 0 y_Reader_advance [(2, 72)] M2 (fun r4 M5 => Q 1 M5)) ∧ (¬ (¬ r1 = 0) → Q 0 M2))) : zCt G (h + 1) sl 0 0 y_Reader_tryWord [(2, 72), (2, l1)] M Q := by
  refine zCt.of (by decide +kernel) (Nat.le_of_ble_eq_true rfl) ?_
  refine x_aload_n (zdm d_Reader_tryWord_0 0 rfl) rfl (n := 0) rfl ?_
  refine x_aload_n (zdm d_Reader_tryWord_0 1 rfl) rfl (n := 1) rfl ?_
  refine x_callVi (n := 1) (ci := 7) (zdm d_Reader_tryWord_0 2 rfl) k_Reader_278 (As := [(2, l1)]) rfl rfl rfl ⟨_, _, rfl⟩ (Nat.le_of_ble_eq_true rfl) trivial H (fun r1 M2 hr H => ?_)
  have b3 : r1 = 0 ∨ r1 = 1 := hr
  refine x_ifne (tgt := 10) (zdm d_Reader_tryWord_0 3 rfl) (by decide) (fun c => ?_) (fun c => ?_)
  · have H := H.1 c
    refine x_aload_n (zdm d_Reader_tryWord_0 6 rfl) rfl (n := 0) rfl ?_
    refine x_callVv (n := 0) (ci := 7) (zdm d_Reader_tryWord_0 7 rfl) k_Reader_98 (As := []) rfl rfl rfl ⟨_, _, rfl⟩ (Nat.le_of_ble_eq_true rfl) rfl H (fun r4 M5 hr H => ?_)
    refine x_iconst (zdm d_Reader_tryWord_0 8 rfl) (zIl rfl) ?_
    exact x_ireturn (zdm d_Reader_tryWord_0 9 rfl) (ty := .boolean) rfl (by decide) (Or.inr rfl) H
  · have H := H.2 c
    refine x_iconst (zdm d_Reader_tryWord_0 4 rfl) (zIl rfl) ?_
    exact x_ireturn (zdm d_Reader_tryWord_0 5 rfl) (ty := .boolean) rfl (by decide) (Or.inl rfl) H
set_option maxRecDepth 20000 in
set_option maxHeartbeats 4000000 in
theorem E_Reader_numberBehind {G : zG} {h sl : Nat} (hsl : 1 ≤ sl) {l1 l2 l3 : Int} {M : zM} {Q : Int → zM → Prop} (H : (¬ (M 72 3) = 0 → Q (-1) M) ∧ (¬ (¬ (M 72 3) = 0) → zCt G h sl 0 0 y_Reader_takeWord [(2, 72), (2, l1)] M (fun r1 M2 => (¬ r1 = 0 → zCt G h sl 0 0 y_Reader_number [(2, 72), (0, l2), (0, l3)] M2 (fun r4 M5 => Q r4 M5)) ∧ (¬ (¬ r1 = 0) → Q (-1) M2)))) : zCt G (h + 1) sl 0 0 y_Reader_numberBehind [(2, 72), (2, l1), (0, l2), (0, l3)] M Q := by
  refine zCt.of (by decide +kernel) (Nat.le_of_ble_eq_true rfl) ?_
  refine x_aload_n (zdm d_Reader_numberBehind_0 0 rfl) rfl (n := 0) rfl ?_
  refine x_getf (zdm d_Reader_numberBehind_0 1 rfl) f_Reader_89 rfl rfl ?_
  refine x_ifne (tgt := 15) (zdm d_Reader_numberBehind_0 2 rfl) (by decide) (fun c => ?_) (fun c => ?_)
  · have H := H.1 c
    refine x_iconst (zdm d_Reader_numberBehind_0 7 rfl) (zIl rfl) ?_
    exact x_iret (zdm d_Reader_numberBehind_0 8 rfl) rfl H
  · have H := H.2 c
    refine x_aload_n (zdm d_Reader_numberBehind_0 3 rfl) rfl (n := 0) rfl ?_
    refine x_aload_n (zdm d_Reader_numberBehind_0 4 rfl) rfl (n := 1) rfl ?_
    refine x_callVi (n := 1) (ci := 7) (zdm d_Reader_numberBehind_0 5 rfl) k_Reader_167 (As := [(2, l1)]) rfl rfl rfl ⟨_, _, rfl⟩ (Nat.le_of_ble_eq_true rfl) trivial H (fun r1 M2 hr H => ?_)
    have b3 : r1 = 0 ∨ r1 = 1 := hr
    refine x_ifne (tgt := 17) (zdm d_Reader_numberBehind_0 6 rfl) (by decide) (fun c => ?_) (fun c => ?_)
    · have H := H.1 c
      refine x_aload_n (zdm d_Reader_numberBehind_0 9 rfl) rfl (n := 0) rfl ?_
      refine x_iload_n (zdm d_Reader_numberBehind_0 10 rfl) rfl (n := 2) rfl ?_
      refine x_iload_n (zdm d_Reader_numberBehind_0 11 rfl) rfl (n := 3) rfl ?_
      refine x_callVi (n := 2) (ci := 7) (zdm d_Reader_numberBehind_0 12 rfl) k_Reader_119 (As := [(0, l2), (0, l3)]) rfl rfl rfl ⟨_, _, rfl⟩ (Nat.le_of_ble_eq_true rfl) trivial H (fun r4 M5 hr H => ?_)
      exact x_iret (zdm d_Reader_numberBehind_0 13 rfl) rfl H
    · have H := H.2 c
      refine x_iconst (zdm d_Reader_numberBehind_0 7 rfl) (zIl rfl) ?_
      exact x_iret (zdm d_Reader_numberBehind_0 8 rfl) rfl H
set_option maxRecDepth 20000 in
set_option maxHeartbeats 4000000 in
theorem B_Reader_number_94 {G : zG} {h sl : Nat} (hsl : 1 ≤ sl) {u : Nat × Nat × Nat × Nat} {M : zM} {Q : Int → zM → Prop} (H : zCt G h sl 0 0 y_Reader_refuse [(2, 72), (0, 2), (0, (M 72 10))] M (fun r1 M2 => Q (-1) M2)) : zX G (y_Reader_number, h + 1, sl) u 94 [(0, (2, 72))] [] M Q := by
  refine x_aload_n (zdm d_Reader_number_0 55 rfl) rfl (n := 0) rfl ?_
  refine x_iconst (zdm d_Reader_number_0 56 rfl) (zIl rfl) ?_
  refine x_aload_n (zdm d_Reader_number_0 57 rfl) rfl (n := 0) rfl ?_
  refine x_getf (zdm d_Reader_number_0 58 rfl) f_Reader_49 rfl rfl ?_
  refine x_callVi (n := 2) (ci := 7) (zdm d_Reader_number_0 59 rfl) k_Reader_52 (As := [(0, 2), (0, (M 72 10))]) rfl rfl rfl ⟨_, _, rfl⟩ (Nat.le_of_ble_eq_true rfl) trivial H (fun r1 M2 hr H => ?_)
  have b3 : r1 = 0 ∨ r1 = 1 := hr
  refine x_pop (zdm d_Reader_number_1 0 rfl) z0n1 ?_
  refine x_iconst (zdm d_Reader_number_1 1 rfl) (zIl rfl) ?_
  exact x_iret (zdm d_Reader_number_1 2 rfl) rfl H
set_option maxRecDepth 20000 in
set_option maxHeartbeats 4000000 in
theorem B_Reader_number_50 {G : zG} {h sl : Nat} (hsl : 1 ≤ sl) {u : Nat × Nat × Nat × Nat} {l1 l2 l3 l4 : Int} {M : zM} {Q : Int → zM → Prop} (H : ((M 72 11) ≤ l4 → (l3 < l1 → zX G (y_Reader_number, h + 1, sl) u 94 [(0, (2, 72))] [] M Q) ∧ (¬ l3 < l1 → (l3 ≤ l2 → zCt G h sl 0 0 y_Reader_advance [(2, 72)] M (fun r1 M2 => Q l3 M2)) ∧ (¬ l3 ≤ l2 → zX G (y_Reader_number, h + 1, sl) u 94 [(0, (2, 72))] [] M Q))) ∧ (¬ (M 72 11) ≤ l4 → (zI (l3 * 10)) ∧ ((0 ≤ l4 ∧ l4 < 1600) ∧ ((zI ((l3 * 10) + (M 3 l4))) ∧ ((zI (((l3 * 10) + (M 3 l4)) - 48)) ∧ ((zI (l4 + 1)) ∧ (zX G (y_Reader_number, h + 1, sl) u 50 [(0, (2, 72)), (1, (0, l1)), (2, (0, l2)), (3, (0, (((l3 * 10) + (M 3 l4)) - 48))), (4, (0, (l4 + 1)))] [] M Q))))))) : zX G (y_Reader_number, h + 1, sl) u 50 [(0, (2, 72)), (1, (0, l1)), (2, (0, l2)), (3, (0, l3)), (4, (0, l4))] [] M Q := by
  refine x_iload (zdm d_Reader_number_0 31 rfl) (n := 4) rfl ?_
  refine x_aload_n (zdm d_Reader_number_0 32 rfl) rfl (n := 0) rfl ?_
  refine x_getf (zdm d_Reader_number_0 33 rfl) f_Reader_92 rfl rfl ?_
  refine x_icmpge (tgt := 84) (zdm d_Reader_number_0 34 rfl) (by decide) (fun c => ?_) (fun c => ?_)
  · have H := H.1 c
    refine x_iload_n (zdm d_Reader_number_0 49 rfl) rfl (n := 3) rfl ?_
    refine x_iload_n (zdm d_Reader_number_0 50 rfl) rfl (n := 1) rfl ?_
    refine x_icmplt (tgt := 94) (zdm d_Reader_number_0 51 rfl) (by decide) (fun c => ?_) (fun c => ?_)
    · have H := H.1 c
      exact zX.sub [0] rfl H
    · have H := H.2 c
      refine x_iload_n (zdm d_Reader_number_0 52 rfl) rfl (n := 3) rfl ?_
      refine x_iload_n (zdm d_Reader_number_0 53 rfl) rfl (n := 2) rfl ?_
      refine x_icmple (tgt := 106) (zdm d_Reader_number_0 54 rfl) (by decide) (fun c => ?_) (fun c => ?_)
      · have H := H.1 c
        refine x_aload_n (zdm d_Reader_number_1 3 rfl) rfl (n := 0) rfl ?_
        refine x_callVv (n := 0) (ci := 7) (zdm d_Reader_number_1 4 rfl) k_Reader_98 (As := []) rfl rfl rfl ⟨_, _, rfl⟩ (Nat.le_of_ble_eq_true rfl) rfl H (fun r1 M2 hr H => ?_)
        refine x_iload_n (zdm d_Reader_number_1 5 rfl) rfl (n := 3) rfl ?_
        exact x_iret (zdm d_Reader_number_1 6 rfl) rfl H
      · have H := H.2 c
        exact zX.sub [0] rfl H
  · have H := H.2 c
    refine x_iload_n (zdm d_Reader_number_0 35 rfl) rfl (n := 3) rfl ?_
    refine x_bipush (zdm d_Reader_number_0 36 rfl) (by decide) ?_
    obtain ⟨g3, H⟩ := H
    refine x_imul (zdm d_Reader_number_0 37 rfl) g3 ?_
    refine x_aload_n (zdm d_Reader_number_0 38 rfl) rfl (n := 0) rfl ?_
    refine x_getG (zdm d_Reader_number_0 39 rfl) f_Reader_25 rfl rfl (by decide) hsl rfl ?_
    refine x_getG (zdm d_Reader_number_0 40 rfl) f_Reader_230 rfl rfl (by decide) hsl rfl ?_
    refine x_iload (zdm d_Reader_number_0 41 rfl) (n := 4) rfl ?_
    obtain ⟨g4, H⟩ := H
    refine x_iald (zdm d_Reader_number_0 42 rfl) rfl g4 ?_
    obtain ⟨g5, H⟩ := H
    refine x_iadd (zdm d_Reader_number_0 43 rfl) g5 ?_
    refine x_bipush (zdm d_Reader_number_0 44 rfl) (by decide) ?_
    obtain ⟨g6, H⟩ := H
    refine x_isub (zdm d_Reader_number_0 45 rfl) g6 ?_
    refine x_istore_n (zdm d_Reader_number_0 46 rfl) rfl (zlt rfl) rfl ?_
    obtain ⟨g7, H⟩ := H
    refine x_iinc (zdm d_Reader_number_0 47 rfl) (n := 4) rfl g7 (zlt rfl) rfl ?_
    refine x_goto (tgt := 50) (zdm d_Reader_number_0 48 rfl) (by decide) ?_
    exact zX.sub [2, 3, 4, 1, 0] rfl H
set_option maxRecDepth 20000 in
set_option maxHeartbeats 4000000 in
theorem E_Reader_number {G : zG} {h sl : Nat} (hsl : 1 ≤ sl) {l1 l2 : Int} {M : zM} {Q : Int → zM → Prop} (H : ((M 72 9) = 2 → (zI ((M 72 11) - (M 72 10))) ∧ ((((M 72 11) - (M 72 10)) ≤ 4 → zX G (y_Reader_number, h + 1, sl) (0, 0, 0, 0) 50 [(0, (2, 72)), (1, (0, l1)), (2, (0, l2)), (3, (0, 0)), (4, (0, (M 72 10)))] [] M Q) ∧ (¬ ((M 72 11) - (M 72 10)) ≤ 4 → (zI ((M 72 10) + 4)) ∧ (zCt G h sl 0 0 y_Reader_refuse [(2, 72), (0, 1), (0, ((M 72 10) + 4))] M (fun r3 M4 => Q (-1) M4))))) ∧ (¬ (M 72 9) = 2 → zCt G h sl 0 0 y_Reader_unfit [(2, 72)] M (fun r6 M7 => Q (-1) M7))) : zCt G (h + 1) sl 0 0 y_Reader_number [(2, 72), (0, l1), (0, l2)] M Q := by
  refine zCt.of (by decide +kernel) (Nat.le_of_ble_eq_true rfl) ?_
  refine x_aload_n (zdm d_Reader_number_0 0 rfl) rfl (n := 0) rfl ?_
  refine x_getf (zdm d_Reader_number_0 1 rfl) f_Reader_46 rfl rfl ?_
  refine x_iconst (zdm d_Reader_number_0 2 rfl) (zIl rfl) ?_
  refine x_icmpeq (tgt := 15) (zdm d_Reader_number_0 3 rfl) (by decide) (fun c => ?_) (fun c => ?_)
  · have H := H.1 c
    refine x_aload_n (zdm d_Reader_number_0 9 rfl) rfl (n := 0) rfl ?_
    refine x_getf (zdm d_Reader_number_0 10 rfl) f_Reader_92 rfl rfl ?_
    refine x_aload_n (zdm d_Reader_number_0 11 rfl) rfl (n := 0) rfl ?_
    refine x_getf (zdm d_Reader_number_0 12 rfl) f_Reader_49 rfl rfl ?_
    obtain ⟨g1, H⟩ := H
    refine x_isub (zdm d_Reader_number_0 13 rfl) g1 ?_
    refine x_iconst (zdm d_Reader_number_0 14 rfl) (zIl rfl) ?_
    refine x_icmple (tgt := 42) (zdm d_Reader_number_0 15 rfl) (by decide) (fun c => ?_) (fun c => ?_)
    · have H := H.1 c
      refine x_iconst (zdm d_Reader_number_0 26 rfl) (zIl rfl) ?_
      refine x_istore_n (zdm d_Reader_number_0 27 rfl) rfl (zlt rfl) rfl ?_
      refine x_aload_n (zdm d_Reader_number_0 28 rfl) rfl (n := 1) rfl ?_
      refine x_getf (zdm d_Reader_number_0 29 rfl) f_Reader_49 rfl rfl ?_
      refine x_istore (zdm d_Reader_number_0 30 rfl) (zlt rfl) rfl ?_
      exact zX.sub [2, 3, 4, 1, 0] rfl H
    · have H := H.2 c
      refine x_aload_n (zdm d_Reader_number_0 16 rfl) rfl (n := 0) rfl ?_
      refine x_iconst (zdm d_Reader_number_0 17 rfl) (zIl rfl) ?_
      refine x_aload_n (zdm d_Reader_number_0 18 rfl) rfl (n := 0) rfl ?_
      refine x_getf (zdm d_Reader_number_0 19 rfl) f_Reader_49 rfl rfl ?_
      refine x_iconst (zdm d_Reader_number_0 20 rfl) (zIl rfl) ?_
      obtain ⟨g2, H⟩ := H
      refine x_iadd (zdm d_Reader_number_0 21 rfl) g2 ?_
      refine x_callVi (n := 2) (ci := 7) (zdm d_Reader_number_0 22 rfl) k_Reader_52 (As := [(0, 1), (0, ((M 72 10) + 4))]) rfl rfl rfl ⟨_, _, rfl⟩ (Nat.le_of_ble_eq_true rfl) trivial H (fun r3 M4 hr H => ?_)
      have b5 : r3 = 0 ∨ r3 = 1 := hr
      refine x_pop (zdm d_Reader_number_0 23 rfl) z0n1 ?_
      refine x_iconst (zdm d_Reader_number_0 24 rfl) (zIl rfl) ?_
      exact x_iret (zdm d_Reader_number_0 25 rfl) rfl H
  · have H := H.2 c
    refine x_aload_n (zdm d_Reader_number_0 4 rfl) rfl (n := 0) rfl ?_
    refine x_callVi (n := 0) (ci := 7) (zdm d_Reader_number_0 5 rfl) k_Reader_77 (As := []) rfl rfl rfl ⟨_, _, rfl⟩ (Nat.le_of_ble_eq_true rfl) trivial H (fun r6 M7 hr H => ?_)
    have b8 : r6 = 0 ∨ r6 = 1 := hr
    refine x_pop (zdm d_Reader_number_0 6 rfl) z0n1 ?_
    refine x_iconst (zdm d_Reader_number_0 7 rfl) (zIl rfl) ?_
    exact x_iret (zdm d_Reader_number_0 8 rfl) rfl H
set_option maxRecDepth 20000 in
set_option maxHeartbeats 4000000 in
theorem E_Reader_isSign {G : zG} {h sl : Nat} (hsl : 1 ≤ sl) {l1 : Int} {M : zM} {Q : Int → zM → Prop} (H : (¬ (M 72 9) = 3 → Q 0 M) ∧ (¬ (¬ (M 72 9) = 3) → (0 ≤ (M 72 10) ∧ (M 72 10) < 1600) ∧ ((¬ (M 3 (M 72 10)) = l1 → Q 0 M) ∧ (¬ (¬ (M 3 (M 72 10)) = l1) → Q 1 M)))) : zCt G h sl 0 0 y_Reader_isSign [(2, 72), (0, l1)] M Q := by
  refine zCt.of (by decide +kernel) (Nat.le_of_ble_eq_true rfl) ?_
  refine x_aload_n (zdm d_Reader_isSign_0 0 rfl) rfl (n := 0) rfl ?_
  refine x_getf (zdm d_Reader_isSign_0 1 rfl) f_Reader_46 rfl rfl ?_
  refine x_iconst (zdm d_Reader_isSign_0 2 rfl) (zIl rfl) ?_
  refine x_icmpne (tgt := 28) (zdm d_Reader_isSign_0 3 rfl) (by decide) (fun c => ?_) (fun c => ?_)
  · have H := H.1 c
    refine x_iconst (zdm d_Reader_isSign_0 14 rfl) (zIl rfl) ?_
    exact x_ireturn (zdm d_Reader_isSign_0 15 rfl) (ty := .boolean) rfl (by decide) (Or.inl rfl) H
  · have H := H.2 c
    refine x_aload_n (zdm d_Reader_isSign_0 4 rfl) rfl (n := 0) rfl ?_
    refine x_getG (zdm d_Reader_isSign_0 5 rfl) f_Reader_25 rfl rfl (by decide) hsl rfl ?_
    refine x_getG (zdm d_Reader_isSign_0 6 rfl) f_Reader_230 rfl rfl (by decide) hsl rfl ?_
    refine x_aload_n (zdm d_Reader_isSign_0 7 rfl) rfl (n := 0) rfl ?_
    refine x_getf (zdm d_Reader_isSign_0 8 rfl) f_Reader_49 rfl rfl ?_
    obtain ⟨g1, H⟩ := H
    refine x_iald (zdm d_Reader_isSign_0 9 rfl) rfl g1 ?_
    refine x_iload_n (zdm d_Reader_isSign_0 10 rfl) rfl (n := 1) rfl ?_
    refine x_icmpne (tgt := 28) (zdm d_Reader_isSign_0 11 rfl) (by decide) (fun c => ?_) (fun c => ?_)
    · have H := H.1 c
      refine x_iconst (zdm d_Reader_isSign_0 14 rfl) (zIl rfl) ?_
      exact x_ireturn (zdm d_Reader_isSign_0 15 rfl) (ty := .boolean) rfl (by decide) (Or.inl rfl) H
    · have H := H.2 c
      refine x_iconst (zdm d_Reader_isSign_0 12 rfl) (zIl rfl) ?_
      refine x_goto (tgt := 29) (zdm d_Reader_isSign_0 13 rfl) (by decide) ?_
      exact x_ireturn (zdm d_Reader_isSign_0 15 rfl) (ty := .boolean) rfl (by decide) (Or.inr rfl) H
set_option maxRecDepth 20000 in
set_option maxHeartbeats 4000000 in
theorem B_Reader_isWord_28 {G : zG} {h sl : Nat} (hsl : 1 ≤ sl) {u : Nat × Nat × Nat × Nat} {l1 l2 : Int} {M : zM} {Q : Int → zM → Prop} (H : (zSt l1) ∧ (zCt G h sl 0 0 y_Js_length [(2, l1)] M (fun r1 M2 => (r1 ≤ l2 → Q 1 M2) ∧ (¬ r1 ≤ l2 → (zI ((M2 72 10) + l2)) ∧ ((0 ≤ ((M2 72 10) + l2) ∧ ((M2 72 10) + l2) < 1600) ∧ (zCt G h sl 0 0 y_Js_charAt [(2, l1), (0, l2)] M2 (fun r6 M7 => ((M2 3 ((M2 72 10) + l2)) = r6 → (zI (l2 + 1)) ∧ (zX G (y_Reader_isWord, h + 1, sl) u 28 [(0, (2, 72)), (1, (2, l1)), (2, (0, (l2 + 1)))] [] M7 Q)) ∧ (¬ (M2 3 ((M2 72 10) + l2)) = r6 → Q 0 M7)))))))) : zX G (y_Reader_isWord, h + 1, sl) u 28 [(0, (2, 72)), (1, (2, l1)), (2, (0, l2))] [] M Q := by
  refine x_iload_n (zdm d_Reader_isWord_0 16 rfl) rfl (n := 2) rfl ?_
  refine x_aload_n (zdm d_Reader_isWord_0 17 rfl) rfl (n := 1) rfl ?_
  obtain ⟨g3, H⟩ := H
  refine x_callTi (n := 0) (zdm d_Reader_isWord_0 18 rfl) k_Reader_303 (As := []) rfl rfl g3 rfl (Nat.le_of_ble_eq_true rfl) trivial H (fun r1 M2 hr H => ?_)
  refine x_icmpge (tgt := 66) (zdm d_Reader_isWord_0 19 rfl) (by decide) (fun c => ?_) (fun c => ?_)
  · have H := H.1 c
    refine x_iconst (zdm d_Reader_isWord_0 36 rfl) (zIl rfl) ?_
    exact x_ireturn (zdm d_Reader_isWord_0 37 rfl) (ty := .boolean) rfl (by decide) (Or.inr rfl) H
  · have H := H.2 c
    refine x_aload_n (zdm d_Reader_isWord_0 20 rfl) rfl (n := 0) rfl ?_
    refine x_getG (zdm d_Reader_isWord_0 21 rfl) f_Reader_25 rfl rfl (by decide) hsl rfl ?_
    refine x_getG (zdm d_Reader_isWord_0 22 rfl) f_Reader_230 rfl rfl (by decide) hsl rfl ?_
    refine x_aload_n (zdm d_Reader_isWord_0 23 rfl) rfl (n := 0) rfl ?_
    refine x_getf (zdm d_Reader_isWord_0 24 rfl) f_Reader_49 rfl rfl ?_
    refine x_iload_n (zdm d_Reader_isWord_0 25 rfl) rfl (n := 2) rfl ?_
    obtain ⟨g4, H⟩ := H
    refine x_iadd (zdm d_Reader_isWord_0 26 rfl) g4 ?_
    obtain ⟨g5, H⟩ := H
    refine x_iald (zdm d_Reader_isWord_0 27 rfl) rfl g5 ?_
    refine x_aload_n (zdm d_Reader_isWord_0 28 rfl) rfl (n := 1) rfl ?_
    refine x_iload_n (zdm d_Reader_isWord_0 29 rfl) rfl (n := 2) rfl ?_
    refine x_callTi (n := 1) (zdm d_Reader_isWord_0 30 rfl) k_Reader_308 (As := [(0, l2)]) rfl rfl g3 rfl (Nat.le_of_ble_eq_true rfl) trivial H (fun r6 M7 hr H => ?_)
    refine x_icmpeq (tgt := 60) (zdm d_Reader_isWord_0 31 rfl) (by decide) (fun c => ?_) (fun c => ?_)
    · have H := H.1 c
      obtain ⟨g8, H⟩ := H
      refine x_iinc (zdm d_Reader_isWord_0 34 rfl) (n := 2) rfl g8 (zlt rfl) rfl ?_
      refine x_goto (tgt := 28) (zdm d_Reader_isWord_0 35 rfl) (by decide) ?_
      exact zX.sub [1, 2, 0] rfl H
    · have H := H.2 c
      refine x_iconst (zdm d_Reader_isWord_0 32 rfl) (zIl rfl) ?_
      exact x_ireturn (zdm d_Reader_isWord_0 33 rfl) (ty := .boolean) rfl (by decide) (Or.inl rfl) H
set_option maxRecDepth 20000 in
set_option maxHeartbeats 4000000 in
theorem E_Reader_isWord {G : zG} {h sl : Nat} (hsl : 1 ≤ sl) {l1 : Int} {M : zM} {Q : Int → zM → Prop} (H : (¬ (M 72 9) = 1 → Q 0 M) ∧ (¬ (¬ (M 72 9) = 1) → (zSt l1) ∧ (zCt G h sl 0 0 y_Js_length [(2, l1)] M (fun r1 M2 => (zI ((M2 72 11) - (M2 72 10))) ∧ ((r1 = ((M2 72 11) - (M2 72 10)) → zX G (y_Reader_isWord, h + 1, sl) (0, 0, 0, 0) 28 [(0, (2, 72)), (1, (2, l1)), (2, (0, 0))] [] M2 Q) ∧ (¬ r1 = ((M2 72 11) - (M2 72 10)) → Q 0 M2)))))) : zCt G (h + 1) sl 0 0 y_Reader_isWord [(2, 72), (2, l1)] M Q := by
  refine zCt.of (by decide +kernel) (Nat.le_of_ble_eq_true rfl) ?_
  refine x_aload_n (zdm d_Reader_isWord_0 0 rfl) rfl (n := 0) rfl ?_
  refine x_getf (zdm d_Reader_isWord_0 1 rfl) f_Reader_46 rfl rfl ?_
  refine x_iconst (zdm d_Reader_isWord_0 2 rfl) (zIl rfl) ?_
  refine x_icmpne (tgt := 24) (zdm d_Reader_isWord_0 3 rfl) (by decide) (fun c => ?_) (fun c => ?_)
  · have H := H.1 c
    refine x_iconst (zdm d_Reader_isWord_0 12 rfl) (zIl rfl) ?_
    exact x_ireturn (zdm d_Reader_isWord_0 13 rfl) (ty := .boolean) rfl (by decide) (Or.inl rfl) H
  · have H := H.2 c
    refine x_aload_n (zdm d_Reader_isWord_0 4 rfl) rfl (n := 1) rfl ?_
    obtain ⟨g3, H⟩ := H
    refine x_callTi (n := 0) (zdm d_Reader_isWord_0 5 rfl) k_Reader_303 (As := []) rfl rfl g3 rfl (Nat.le_of_ble_eq_true rfl) trivial H (fun r1 M2 hr H => ?_)
    refine x_aload_n (zdm d_Reader_isWord_0 6 rfl) rfl (n := 0) rfl ?_
    refine x_getf (zdm d_Reader_isWord_0 7 rfl) f_Reader_92 rfl rfl ?_
    refine x_aload_n (zdm d_Reader_isWord_0 8 rfl) rfl (n := 0) rfl ?_
    refine x_getf (zdm d_Reader_isWord_0 9 rfl) f_Reader_49 rfl rfl ?_
    obtain ⟨g4, H⟩ := H
    refine x_isub (zdm d_Reader_isWord_0 10 rfl) g4 ?_
    refine x_icmpeq (tgt := 26) (zdm d_Reader_isWord_0 11 rfl) (by decide) (fun c => ?_) (fun c => ?_)
    · have H := H.1 c
      refine x_iconst (zdm d_Reader_isWord_0 14 rfl) (zIl rfl) ?_
      refine x_istore_n (zdm d_Reader_isWord_0 15 rfl) rfl (zlt rfl) rfl ?_
      exact zX.sub [1, 2, 0] rfl H
    · have H := H.2 c
      refine x_iconst (zdm d_Reader_isWord_0 12 rfl) (zIl rfl) ?_
      exact x_ireturn (zdm d_Reader_isWord_0 13 rfl) (ty := .boolean) rfl (by decide) (Or.inl rfl) H
set_option maxRecDepth 20000 in
set_option maxHeartbeats 4000000 in
theorem B_Reader_isOwnWord_7 {G : zG} {h sl : Nat} (hsl : 1 ≤ sl) {u : Nat × Nat × Nat × Nat} {l1 l2 : Int} {M : zM} {Q : Int → zM → Prop} (H : zCt G h sl 0 0 y_Js_length [(2, (-42))] M (fun r1 M2 => (r1 ≤ l2 → Q 0 M2) ∧ (¬ r1 ≤ l2 → zCt G h sl 0 0 y_Js_charAt [(2, (-42)), (0, l2)] M2 (fun r3 M4 => (¬ r3 = 32 → (l1 < (M4 72 10) → (zI (l2 + 1)) ∧ (zX G (y_Reader_isOwnWord, h + 1, sl) u 7 [(0, (2, 72)), (1, (0, l1)), (2, (0, (l2 + 1)))] [] M4 Q)) ∧ (¬ l1 < (M4 72 10) → ((M4 72 11) ≤ l1 → (zI (l2 + 1)) ∧ (zX G (y_Reader_isOwnWord, h + 1, sl) u 7 [(0, (2, 72)), (1, (0, (-1))), (2, (0, (l2 + 1)))] [] M4 Q)) ∧ (¬ (M4 72 11) ≤ l1 → (0 ≤ l1 ∧ l1 < 1600) ∧ ((¬ (M4 3 l1) = r3 → (zI (l2 + 1)) ∧ (zX G (y_Reader_isOwnWord, h + 1, sl) u 7 [(0, (2, 72)), (1, (0, (-1))), (2, (0, (l2 + 1)))] [] M4 Q)) ∧ (¬ (¬ (M4 3 l1) = r3) → (zI (l1 + 1)) ∧ ((zI (l2 + 1)) ∧ (zX G (y_Reader_isOwnWord, h + 1, sl) u 7 [(0, (2, 72)), (1, (0, (l1 + 1))), (2, (0, (l2 + 1)))] [] M4 Q))))))) ∧ (¬ (¬ r3 = 32) → (¬ l1 = (M4 72 11) → (zI (l2 + 1)) ∧ (zX G (y_Reader_isOwnWord, h + 1, sl) u 7 [(0, (2, 72)), (1, (0, (M4 72 10))), (2, (0, (l2 + 1)))] [] M4 Q)) ∧ (¬ (¬ l1 = (M4 72 11)) → Q 1 M4)))))) : zX G (y_Reader_isOwnWord, h + 1, sl) u 7 [(0, (2, 72)), (1, (0, l1)), (2, (0, l2))] [] M Q := by
  refine x_iload_n (zdm d_Reader_isOwnWord_0 5 rfl) rfl (n := 2) rfl ?_
  refine x_ldcwS (zdm d_Reader_isOwnWord_0 6 rfl) (i := 20) (x := (-42)) rfl rfl ?_
  refine x_callTi (n := 0) (zdm d_Reader_isOwnWord_0 7 rfl) k_Reader_303 (As := []) rfl rfl (zSt_i 20) rfl (Nat.le_of_ble_eq_true rfl) trivial H (fun r1 M2 hr H => ?_)
  refine x_icmpge (tgt := 92) (zdm d_Reader_isOwnWord_0 8 rfl) (by decide) (fun c => ?_) (fun c => ?_)
  · have H := H.1 c
    refine x_iconst (zdm d_Reader_isOwnWord_0 49 rfl) (zIl rfl) ?_
    exact x_ireturn (zdm d_Reader_isOwnWord_0 50 rfl) (ty := .boolean) rfl (by decide) (Or.inl rfl) H
  · have H := H.2 c
    refine x_ldcwS (zdm d_Reader_isOwnWord_0 9 rfl) (i := 20) (x := (-42)) rfl rfl ?_
    refine x_iload_n (zdm d_Reader_isOwnWord_0 10 rfl) rfl (n := 2) rfl ?_
    refine x_callTi (n := 1) (zdm d_Reader_isOwnWord_0 11 rfl) k_Reader_308 (As := [(0, l2)]) rfl rfl (zSt_i 20) rfl (Nat.le_of_ble_eq_true rfl) trivial H (fun r3 M4 hr H => ?_)
    refine x_istore_n (zdm d_Reader_isOwnWord_0 12 rfl) rfl (zlt rfl) rfl ?_
    refine x_iload_n (zdm d_Reader_isOwnWord_0 13 rfl) rfl (n := 0) rfl ?_
    refine x_bipush (zdm d_Reader_isOwnWord_0 14 rfl) (by decide) ?_
    refine x_icmpne (tgt := 49) (zdm d_Reader_isOwnWord_0 15 rfl) (by decide) (fun c => ?_) (fun c => ?_)
    · have H := H.1 c
      refine x_iload_n (zdm d_Reader_isOwnWord_0 26 rfl) rfl (n := 2) rfl ?_
      refine x_aload_n (zdm d_Reader_isOwnWord_0 27 rfl) rfl (n := 1) rfl ?_
      refine x_getf (zdm d_Reader_isOwnWord_0 28 rfl) f_Reader_49 rfl rfl ?_
      refine x_icmplt (tgt := 86) (zdm d_Reader_isOwnWord_0 29 rfl) (by decide) (fun c => ?_) (fun c => ?_)
      · have H := H.1 c
        obtain ⟨g5, H⟩ := H
        refine x_iinc (zdm d_Reader_isOwnWord_0 47 rfl) (n := 3) rfl g5 (zlt rfl) rfl ?_
        refine x_goto (tgt := 7) (zdm d_Reader_isOwnWord_0 48 rfl) (by decide) ?_
        exact zX.sub [2, 3, 0] rfl H
      · have H := H.2 c
        refine x_iload_n (zdm d_Reader_isOwnWord_0 30 rfl) rfl (n := 2) rfl ?_
        refine x_aload_n (zdm d_Reader_isOwnWord_0 31 rfl) rfl (n := 1) rfl ?_
        refine x_getf (zdm d_Reader_isOwnWord_0 32 rfl) f_Reader_92 rfl rfl ?_
        refine x_icmpge (tgt := 84) (zdm d_Reader_isOwnWord_0 33 rfl) (by decide) (fun c => ?_) (fun c => ?_)
        · have H := H.1 c
          refine x_iconst (zdm d_Reader_isOwnWord_0 45 rfl) (zIl rfl) ?_
          refine x_istore_n (zdm d_Reader_isOwnWord_0 46 rfl) rfl (zlt rfl) rfl ?_
          obtain ⟨g6, H⟩ := H
          refine x_iinc (zdm d_Reader_isOwnWord_0 47 rfl) (n := 3) rfl g6 (zlt rfl) rfl ?_
          refine x_goto (tgt := 7) (zdm d_Reader_isOwnWord_0 48 rfl) (by decide) ?_
          exact zX.sub [3, 1, 0] rfl H
        · have H := H.2 c
          refine x_aload_n (zdm d_Reader_isOwnWord_0 34 rfl) rfl (n := 1) rfl ?_
          refine x_getG (zdm d_Reader_isOwnWord_0 35 rfl) f_Reader_25 rfl rfl (by decide) hsl rfl ?_
          refine x_getG (zdm d_Reader_isOwnWord_0 36 rfl) f_Reader_230 rfl rfl (by decide) hsl rfl ?_
          refine x_iload_n (zdm d_Reader_isOwnWord_0 37 rfl) rfl (n := 2) rfl ?_
          obtain ⟨g7, H⟩ := H
          refine x_iald (zdm d_Reader_isOwnWord_0 38 rfl) rfl g7 ?_
          refine x_iload_n (zdm d_Reader_isOwnWord_0 39 rfl) rfl (n := 0) rfl ?_
          refine x_icmpne (tgt := 84) (zdm d_Reader_isOwnWord_0 40 rfl) (by decide) (fun c => ?_) (fun c => ?_)
          · have H := H.1 c
            refine x_iconst (zdm d_Reader_isOwnWord_0 45 rfl) (zIl rfl) ?_
            refine x_istore_n (zdm d_Reader_isOwnWord_0 46 rfl) rfl (zlt rfl) rfl ?_
            obtain ⟨g8, H⟩ := H
            refine x_iinc (zdm d_Reader_isOwnWord_0 47 rfl) (n := 3) rfl g8 (zlt rfl) rfl ?_
            refine x_goto (tgt := 7) (zdm d_Reader_isOwnWord_0 48 rfl) (by decide) ?_
            exact zX.sub [3, 1, 0] rfl H
          · have H := H.2 c
            refine x_iload_n (zdm d_Reader_isOwnWord_0 41 rfl) rfl (n := 2) rfl ?_
            refine x_iconst (zdm d_Reader_isOwnWord_0 42 rfl) (zIl rfl) ?_
            obtain ⟨g9, H⟩ := H
            refine x_iadd (zdm d_Reader_isOwnWord_0 43 rfl) g9 ?_
            refine x_goto (tgt := 85) (zdm d_Reader_isOwnWord_0 44 rfl) (by decide) ?_
            refine x_istore_n (zdm d_Reader_isOwnWord_0 46 rfl) rfl (zlt rfl) rfl ?_
            obtain ⟨g10, H⟩ := H
            refine x_iinc (zdm d_Reader_isOwnWord_0 47 rfl) (n := 3) rfl g10 (zlt rfl) rfl ?_
            refine x_goto (tgt := 7) (zdm d_Reader_isOwnWord_0 48 rfl) (by decide) ?_
            exact zX.sub [3, 1, 0] rfl H
    · have H := H.2 c
      refine x_iload_n (zdm d_Reader_isOwnWord_0 16 rfl) rfl (n := 2) rfl ?_
      refine x_aload_n (zdm d_Reader_isOwnWord_0 17 rfl) rfl (n := 1) rfl ?_
      refine x_getf (zdm d_Reader_isOwnWord_0 18 rfl) f_Reader_92 rfl rfl ?_
      refine x_icmpne (tgt := 41) (zdm d_Reader_isOwnWord_0 19 rfl) (by decide) (fun c => ?_) (fun c => ?_)
      · have H := H.1 c
        refine x_aload_n (zdm d_Reader_isOwnWord_0 22 rfl) rfl (n := 1) rfl ?_
        refine x_getf (zdm d_Reader_isOwnWord_0 23 rfl) f_Reader_49 rfl rfl ?_
        refine x_istore_n (zdm d_Reader_isOwnWord_0 24 rfl) rfl (zlt rfl) rfl ?_
        refine x_goto (tgt := 86) (zdm d_Reader_isOwnWord_0 25 rfl) (by decide) ?_
        obtain ⟨g11, H⟩ := H
        refine x_iinc (zdm d_Reader_isOwnWord_0 47 rfl) (n := 3) rfl g11 (zlt rfl) rfl ?_
        refine x_goto (tgt := 7) (zdm d_Reader_isOwnWord_0 48 rfl) (by decide) ?_
        exact zX.sub [3, 1, 0] rfl H
      · have H := H.2 c
        refine x_iconst (zdm d_Reader_isOwnWord_0 20 rfl) (zIl rfl) ?_
        exact x_ireturn (zdm d_Reader_isOwnWord_0 21 rfl) (ty := .boolean) rfl (by decide) (Or.inr rfl) H
set_option maxRecDepth 20000 in
set_option maxHeartbeats 4000000 in
theorem E_Reader_isOwnWord {G : zG} {h sl : Nat} (hsl : 1 ≤ sl) {M : zM} {Q : Int → zM → Prop} (H : zX G (y_Reader_isOwnWord, h + 1, sl) (0, 0, 0, 0) 7 [(0, (2, 72)), (1, (0, (M 72 10))), (2, (0, 0))] [] M Q) : zCt G (h + 1) sl 0 0 y_Reader_isOwnWord [(2, 72)] M Q := by
  refine zCt.of (by decide +kernel) (Nat.le_of_ble_eq_true rfl) ?_
  refine x_aload_n (zdm d_Reader_isOwnWord_0 0 rfl) rfl (n := 0) rfl ?_
  refine x_getf (zdm d_Reader_isOwnWord_0 1 rfl) f_Reader_49 rfl rfl ?_
  refine x_istore_n (zdm d_Reader_isOwnWord_0 2 rfl) rfl (zlt rfl) rfl ?_
  refine x_iconst (zdm d_Reader_isOwnWord_0 3 rfl) (zIl rfl) ?_
  refine x_istore_n (zdm d_Reader_isOwnWord_0 4 rfl) rfl (zlt rfl) rfl ?_
  exact zX.sub [2, 1, 0] rfl H
set_option maxRecDepth 20000 in
set_option maxHeartbeats 4000000 in
theorem B_Reader_columnHere_110 {G : zG} {h sl : Nat} (hsl : 1 ≤ sl) {u : Nat × Nat × Nat × Nat} {l1 l2 l4 s0 s1 : Int} {M : zM} {Q : Int → zM → Prop} (H : (¬ s1 = s0 → (zI (l4 + 1)) ∧ (zX G (y_Reader_columnHere, h, sl) u 57 [(0, (2, 72)), (1, (0, l1)), (2, (2, l2)), (3, (0, 0)), (4, (0, (l4 + 1)))] [] M Q)) ∧ (¬ (¬ s1 = s0) → (zI (l4 + 1)) ∧ (zX G (y_Reader_columnHere, h, sl) u 57 [(0, (2, 72)), (1, (0, l1)), (2, (2, l2)), (3, (0, 1)), (4, (0, (l4 + 1)))] [] M Q))) : zX G (y_Reader_columnHere, h, sl) u 110 [(0, (2, 72)), (1, (0, l1)), (2, (2, l2)), (4, (0, l4))] [(0, s0), (0, s1)] M Q := by
  refine x_icmpne (tgt := 117) (zdm d_Reader_columnHere_1 0 rfl) (by decide) (fun c => ?_) (fun c => ?_)
  · have H := H.1 c
    refine x_iconst (zdm d_Reader_columnHere_1 3 rfl) (zIl rfl) ?_
    refine x_istore_n (zdm d_Reader_columnHere_1 4 rfl) rfl (zlt rfl) rfl ?_
    obtain ⟨g1, H⟩ := H
    refine x_iinc (zdm d_Reader_columnHere_1 5 rfl) (n := 4) rfl g1 (zlt rfl) rfl ?_
    refine x_goto (tgt := 57) (zdm d_Reader_columnHere_1 6 rfl) (by decide) ?_
    exact zX.sub [2, 3, 4, 1, 0] rfl H
  · have H := H.2 c
    refine x_iconst (zdm d_Reader_columnHere_1 1 rfl) (zIl rfl) ?_
    refine x_goto (tgt := 118) (zdm d_Reader_columnHere_1 2 rfl) (by decide) ?_
    refine x_istore_n (zdm d_Reader_columnHere_1 4 rfl) rfl (zlt rfl) rfl ?_
    obtain ⟨g2, H⟩ := H
    refine x_iinc (zdm d_Reader_columnHere_1 5 rfl) (n := 4) rfl g2 (zlt rfl) rfl ?_
    refine x_goto (tgt := 57) (zdm d_Reader_columnHere_1 6 rfl) (by decide) ?_
    exact zX.sub [2, 3, 4, 1, 0] rfl H
set_option maxRecDepth 20000 in
set_option maxHeartbeats 4000000 in
theorem B_Reader_columnHere_57 {G : zG} {h sl : Nat} (hsl : 1 ≤ sl) {u : Nat × Nat × Nat × Nat} {l1 l2 l3 l4 : Int} {M : zM} {Q : Int → zM → Prop} (H : (l3 = 0 → (l3 = 0 → (zI (l1 + 1)) ∧ (zX G (y_Reader_columnHere, h, sl) u 2 [(0, (2, 72)), (1, (0, (l1 + 1)))] [] M Q)) ∧ (¬ l3 = 0 → Q l1 M)) ∧ (¬ l3 = 0 → (6 ≤ l4 → (l3 = 0 → (zI (l1 + 1)) ∧ (zX G (y_Reader_columnHere, h, sl) u 2 [(0, (2, 72)), (1, (0, (l1 + 1)))] [] M Q)) ∧ (¬ l3 = 0 → Q l1 M)) ∧ (¬ 6 ≤ l4 → ((zK l2).1 = 100) ∧ ((0 ≤ l4 ∧ l4 < (zK l2).2) ∧ ((zI ((M 72 10) + l4)) ∧ (((M 72 11) ≤ ((M 72 10) + l4) → zX G (y_Reader_columnHere, h, sl) u 110 [(0, (2, 72)), (1, (0, l1)), (2, (2, l2)), (4, (0, l4))] [(0, 0), (0, (M l2 l4))] M Q) ∧ (¬ (M 72 11) ≤ ((M 72 10) + l4) → (0 ≤ ((M 72 10) + l4) ∧ ((M 72 10) + l4) < 1600) ∧ ((zI ((M 3 ((M 72 10) + l4)) - 97)) ∧ ((zI (((M 3 ((M 72 10) + l4)) - 97) + 1)) ∧ (zX G (y_Reader_columnHere, h, sl) u 110 [(0, (2, 72)), (1, (0, l1)), (2, (2, l2)), (4, (0, l4))] [(0, (((M 3 ((M 72 10) + l4)) - 97) + 1)), (0, (M l2 l4))] M Q)))))))))) : zX G (y_Reader_columnHere, h, sl) u 57 [(0, (2, 72)), (1, (0, l1)), (2, (2, l2)), (3, (0, l3)), (4, (0, l4))] [] M Q := by
  refine x_iload_n (zdm d_Reader_columnHere_0 31 rfl) rfl (n := 3) rfl ?_
  refine x_ifeq (tgt := 125) (zdm d_Reader_columnHere_0 32 rfl) (by decide) (fun c => ?_) (fun c => ?_)
  · have H := H.1 c
    refine x_iload_n (zdm d_Reader_columnHere_1 7 rfl) rfl (n := 3) rfl ?_
    refine x_ifeq (tgt := 131) (zdm d_Reader_columnHere_1 8 rfl) (by decide) (fun c => ?_) (fun c => ?_)
    · have H := H.1 c
      obtain ⟨g1, H⟩ := H
      refine x_iinc (zdm d_Reader_columnHere_1 11 rfl) (n := 1) rfl g1 (zlt rfl) rfl ?_
      refine x_goto (tgt := 2) (zdm d_Reader_columnHere_1 12 rfl) (by decide) ?_
      exact zX.sub [1, 0] rfl H
    · have H := H.2 c
      refine x_iload_n (zdm d_Reader_columnHere_1 9 rfl) rfl (n := 1) rfl ?_
      exact x_iret (zdm d_Reader_columnHere_1 10 rfl) rfl H
  · have H := H.2 c
    refine x_iload (zdm d_Reader_columnHere_0 33 rfl) (n := 4) rfl ?_
    refine x_bipush (zdm d_Reader_columnHere_0 34 rfl) (by decide) ?_
    refine x_icmpge (tgt := 125) (zdm d_Reader_columnHere_0 35 rfl) (by decide) (fun c => ?_) (fun c => ?_)
    · have H := H.1 c
      refine x_iload_n (zdm d_Reader_columnHere_1 7 rfl) rfl (n := 3) rfl ?_
      refine x_ifeq (tgt := 131) (zdm d_Reader_columnHere_1 8 rfl) (by decide) (fun c => ?_) (fun c => ?_)
      · have H := H.1 c
        obtain ⟨g2, H⟩ := H
        refine x_iinc (zdm d_Reader_columnHere_1 11 rfl) (n := 1) rfl g2 (zlt rfl) rfl ?_
        refine x_goto (tgt := 2) (zdm d_Reader_columnHere_1 12 rfl) (by decide) ?_
        exact zX.sub [1, 0] rfl H
      · have H := H.2 c
        refine x_iload_n (zdm d_Reader_columnHere_1 9 rfl) rfl (n := 1) rfl ?_
        exact x_iret (zdm d_Reader_columnHere_1 10 rfl) rfl H
    · have H := H.2 c
      refine x_aload_n (zdm d_Reader_columnHere_0 36 rfl) rfl (n := 2) rfl ?_
      refine x_iload (zdm d_Reader_columnHere_0 37 rfl) (n := 4) rfl ?_
      obtain ⟨g3, H⟩ := H
      obtain ⟨g4, H⟩ := H
      refine x_iald (zdm d_Reader_columnHere_0 38 rfl) (zKe g3) g4 ?_
      refine x_aload_n (zdm d_Reader_columnHere_0 39 rfl) rfl (n := 0) rfl ?_
      refine x_getf (zdm d_Reader_columnHere_0 40 rfl) f_Reader_49 rfl rfl ?_
      refine x_iload (zdm d_Reader_columnHere_0 41 rfl) (n := 4) rfl ?_
      obtain ⟨g5, H⟩ := H
      refine x_iadd (zdm d_Reader_columnHere_0 42 rfl) g5 ?_
      refine x_aload_n (zdm d_Reader_columnHere_0 43 rfl) rfl (n := 0) rfl ?_
      refine x_getf (zdm d_Reader_columnHere_0 44 rfl) f_Reader_92 rfl rfl ?_
      refine x_icmpge (tgt := 109) (zdm d_Reader_columnHere_0 45 rfl) (by decide) (fun c => ?_) (fun c => ?_)
      · have H := H.1 c
        refine x_iconst (zdm d_Reader_columnHere_0 59 rfl) (zIl rfl) ?_
        exact zX.sub [0, 1, 2, 4] rfl H
      · have H := H.2 c
        refine x_aload_n (zdm d_Reader_columnHere_0 46 rfl) rfl (n := 0) rfl ?_
        refine x_getG (zdm d_Reader_columnHere_0 47 rfl) f_Reader_25 rfl rfl (by decide) hsl rfl ?_
        refine x_getG (zdm d_Reader_columnHere_0 48 rfl) f_Reader_230 rfl rfl (by decide) hsl rfl ?_
        refine x_aload_n (zdm d_Reader_columnHere_0 49 rfl) rfl (n := 0) rfl ?_
        refine x_getf (zdm d_Reader_columnHere_0 50 rfl) f_Reader_49 rfl rfl ?_
        refine x_iload (zdm d_Reader_columnHere_0 51 rfl) (n := 4) rfl ?_
        refine x_iadd (zdm d_Reader_columnHere_0 52 rfl) g5 ?_
        obtain ⟨g6, H⟩ := H
        refine x_iald (zdm d_Reader_columnHere_0 53 rfl) rfl g6 ?_
        refine x_bipush (zdm d_Reader_columnHere_0 54 rfl) (by decide) ?_
        obtain ⟨g7, H⟩ := H
        refine x_isub (zdm d_Reader_columnHere_0 55 rfl) g7 ?_
        refine x_iconst (zdm d_Reader_columnHere_0 56 rfl) (zIl rfl) ?_
        obtain ⟨g8, H⟩ := H
        refine x_iadd (zdm d_Reader_columnHere_0 57 rfl) g8 ?_
        refine x_goto (tgt := 110) (zdm d_Reader_columnHere_0 58 rfl) (by decide) ?_
        exact zX.sub [0, 1, 2, 4] rfl H
set_option maxRecDepth 20000 in
set_option maxHeartbeats 4000000 in
theorem B_Reader_columnHere_2 {G : zG} {h sl : Nat} (hsl : 1 ≤ sl) {u : Nat × Nat × Nat × Nat} {l1 : Int} {M : zM} {Q : Int → zM → Prop} (H : (¬ (M 72 9) = 1 → Q (-1) M) ∧ (¬ (¬ (M 72 9) = 1) → (zK (M 72 5) = (8, 0)) ∧ (((M (M 72 5) 2) ≤ l1 → Q (-1) M) ∧ (¬ (M (M 72 5) 2) ≤ l1 → (0 ≤ l1 ∧ l1 < 8) ∧ ((zI ((M 72 11) - (M 72 10))) ∧ ((6 < ((M 72 11) - (M 72 10)) → zX G (y_Reader_columnHere, h, sl) u 57 [(0, (2, 72)), (1, (0, l1)), (2, (2, (((M 72 5) + 7 + 2 * l1) + 1))), (3, (0, 0)), (4, (0, 0))] [] M Q) ∧ (¬ 6 < ((M 72 11) - (M 72 10)) → zX G (y_Reader_columnHere, h, sl) u 57 [(0, (2, 72)), (1, (0, l1)), (2, (2, (((M 72 5) + 7 + 2 * l1) + 1))), (3, (0, 1)), (4, (0, 0))] [] M Q))))))) : zX G (y_Reader_columnHere, h, sl) u 2 [(0, (2, 72)), (1, (0, l1))] [] M Q := by
  refine x_aload_n (zdm d_Reader_columnHere_0 2 rfl) rfl (n := 0) rfl ?_
  refine x_getf (zdm d_Reader_columnHere_0 3 rfl) f_Reader_46 rfl rfl ?_
  refine x_iconst (zdm d_Reader_columnHere_0 4 rfl) (zIl rfl) ?_
  refine x_icmpne (tgt := 137) (zdm d_Reader_columnHere_0 5 rfl) (by decide) (fun c => ?_) (fun c => ?_)
  · have H := H.1 c
    refine x_iconst (zdm d_Reader_columnHere_1 13 rfl) (zIl rfl) ?_
    exact x_iret (zdm d_Reader_columnHere_1 14 rfl) rfl H
  · have H := H.2 c
    refine x_iload_n (zdm d_Reader_columnHere_0 6 rfl) rfl (n := 1) rfl ?_
    refine x_aload_n (zdm d_Reader_columnHere_0 7 rfl) rfl (n := 0) rfl ?_
    refine x_getf (zdm d_Reader_columnHere_0 8 rfl) f_Reader_34 rfl rfl ?_
    obtain ⟨g1, H⟩ := H
    refine x_getf (zdm d_Reader_columnHere_0 9 rfl) f_Reader_139 g1 rfl ?_
    refine x_icmpge (tgt := 137) (zdm d_Reader_columnHere_0 10 rfl) (by decide) (fun c => ?_) (fun c => ?_)
    · have H := H.1 c
      refine x_iconst (zdm d_Reader_columnHere_1 13 rfl) (zIl rfl) ?_
      exact x_iret (zdm d_Reader_columnHere_1 14 rfl) rfl H
    · have H := H.2 c
      refine x_aload_n (zdm d_Reader_columnHere_0 11 rfl) rfl (n := 0) rfl ?_
      refine x_getf (zdm d_Reader_columnHere_0 12 rfl) f_Reader_34 rfl rfl ?_
      refine x_getG (zdm d_Reader_columnHere_0 13 rfl) f_Reader_142 g1 rfl (by decide) hsl (zs_8 g1).1.1 ?_
      refine x_iload_n (zdm d_Reader_columnHere_0 14 rfl) rfl (n := 1) rfl ?_
      obtain ⟨g2, H⟩ := H
      refine x_aald5G (zdm d_Reader_columnHere_0 15 rfl) (zs_8 g1).1.2 g2 hsl (zs_cols g1 g2.1 g2.2).1 ?_
      refine x_getG (zdm d_Reader_columnHere_0 16 rfl) f_Reader_227 (zs_cols g1 g2.1 g2.2).2 rfl (by decide) hsl (zs_1 (zs_cols g1 g2.1 g2.2).2).1 ?_
      refine x_astore_n (zdm d_Reader_columnHere_0 17 rfl) rfl (zlt rfl) rfl ?_
      refine x_aload_n (zdm d_Reader_columnHere_0 18 rfl) rfl (n := 1) rfl ?_
      refine x_getf (zdm d_Reader_columnHere_0 19 rfl) f_Reader_92 rfl rfl ?_
      refine x_aload_n (zdm d_Reader_columnHere_0 20 rfl) rfl (n := 1) rfl ?_
      refine x_getf (zdm d_Reader_columnHere_0 21 rfl) f_Reader_49 rfl rfl ?_
      obtain ⟨g3, H⟩ := H
      refine x_isub (zdm d_Reader_columnHere_0 22 rfl) g3 ?_
      refine x_bipush (zdm d_Reader_columnHere_0 23 rfl) (by decide) ?_
      refine x_icmpgt (tgt := 52) (zdm d_Reader_columnHere_0 24 rfl) (by decide) (fun c => ?_) (fun c => ?_)
      · have H := H.1 c
        refine x_iconst (zdm d_Reader_columnHere_0 27 rfl) (zIl rfl) ?_
        refine x_istore_n (zdm d_Reader_columnHere_0 28 rfl) rfl (zlt rfl) rfl ?_
        refine x_iconst (zdm d_Reader_columnHere_0 29 rfl) (zIl rfl) ?_
        refine x_istore (zdm d_Reader_columnHere_0 30 rfl) (zlt rfl) rfl ?_
        exact zX.sub [3, 4, 2, 1, 0] rfl H
      · have H := H.2 c
        refine x_iconst (zdm d_Reader_columnHere_0 25 rfl) (zIl rfl) ?_
        refine x_goto (tgt := 53) (zdm d_Reader_columnHere_0 26 rfl) (by decide) ?_
        refine x_istore_n (zdm d_Reader_columnHere_0 28 rfl) rfl (zlt rfl) rfl ?_
        refine x_iconst (zdm d_Reader_columnHere_0 29 rfl) (zIl rfl) ?_
        refine x_istore (zdm d_Reader_columnHere_0 30 rfl) (zlt rfl) rfl ?_
        exact zX.sub [3, 4, 2, 1, 0] rfl H
set_option maxRecDepth 20000 in
set_option maxHeartbeats 4000000 in
theorem E_Reader_columnHere {G : zG} {h sl : Nat} (hsl : 1 ≤ sl) {M : zM} {Q : Int → zM → Prop} (H : zX G (y_Reader_columnHere, h, sl) (0, 0, 0, 0) 2 [(0, (2, 72)), (1, (0, 0))] [] M Q) : zCt G h sl 0 0 y_Reader_columnHere [(2, 72)] M Q := by
  refine zCt.of (by decide +kernel) (Nat.le_of_ble_eq_true rfl) ?_
  refine x_iconst (zdm d_Reader_columnHere_0 0 rfl) (zIl rfl) ?_
  refine x_istore_n (zdm d_Reader_columnHere_0 1 rfl) rfl (zlt rfl) rfl ?_
  exact zX.sub [1, 0] rfl H
set_option maxRecDepth 20000 in
set_option maxHeartbeats 4000000 in
theorem E_Reader_refuse {G : zG} {h sl : Nat} (hsl : 1 ≤ sl) {l1 l2 : Int} {M : zM} {Q : Int → zM → Prop} (H : (¬ (M 72 3) = 0 → Q 0 M) ∧ (¬ (¬ (M 72 3) = 0) → Q 0 (zwr (zwr M 72 3 l1) 72 4 l2))) : zCt G h sl 0 0 y_Reader_refuse [(2, 72), (0, l1), (0, l2)] M Q := by
  refine zCt.of (by decide +kernel) (Nat.le_of_ble_eq_true rfl) ?_
  refine x_aload_n (zdm d_Reader_refuse_0 0 rfl) rfl (n := 0) rfl ?_
  refine x_getf (zdm d_Reader_refuse_0 1 rfl) f_Reader_89 rfl rfl ?_
  refine x_ifne (tgt := 17) (zdm d_Reader_refuse_0 2 rfl) (by decide) (fun c => ?_) (fun c => ?_)
  · have H := H.1 c
    refine x_iconst (zdm d_Reader_refuse_0 9 rfl) (zIl rfl) ?_
    exact x_ireturn (zdm d_Reader_refuse_0 10 rfl) (ty := .boolean) rfl (by decide) (Or.inl rfl) H
  · have H := H.2 c
    refine x_aload_n (zdm d_Reader_refuse_0 3 rfl) rfl (n := 0) rfl ?_
    refine x_iload_n (zdm d_Reader_refuse_0 4 rfl) rfl (n := 1) rfl ?_
    refine x_putf (zdm d_Reader_refuse_0 5 rfl) f_Reader_89 rfl ⟨rfl, trivial⟩ (Or.inl rfl) ?_
    refine x_aload_n (zdm d_Reader_refuse_0 6 rfl) rfl (n := 0) rfl ?_
    refine x_iload_n (zdm d_Reader_refuse_0 7 rfl) rfl (n := 2) rfl ?_
    refine x_putf (zdm d_Reader_refuse_0 8 rfl) f_Reader_18 rfl ⟨rfl, trivial⟩ (Or.inl rfl) ?_
    refine x_iconst (zdm d_Reader_refuse_0 9 rfl) (zIl rfl) ?_
    exact x_ireturn (zdm d_Reader_refuse_0 10 rfl) (ty := .boolean) rfl (by decide) (Or.inl rfl) H
set_option maxRecDepth 20000 in
set_option maxHeartbeats 4000000 in
theorem E_Reader_unfit {G : zG} {h sl : Nat} (hsl : 1 ≤ sl) {M : zM} {Q : Int → zM → Prop} (H : zCt G h sl 0 0 y_Reader_refuse [(2, 72), (0, 1), (0, (M 72 10))] M (fun r1 M2 => Q r1 M2)) : zCt G (h + 1) sl 0 0 y_Reader_unfit [(2, 72)] M Q := by
  refine zCt.of (by decide +kernel) (Nat.le_of_ble_eq_true rfl) ?_
  refine x_aload_n (zdm d_Reader_unfit_0 0 rfl) rfl (n := 0) rfl ?_
  refine x_iconst (zdm d_Reader_unfit_0 1 rfl) (zIl rfl) ?_
  refine x_aload_n (zdm d_Reader_unfit_0 2 rfl) rfl (n := 0) rfl ?_
  refine x_getf (zdm d_Reader_unfit_0 3 rfl) f_Reader_49 rfl rfl ?_
  refine x_callVi (n := 2) (ci := 7) (zdm d_Reader_unfit_0 4 rfl) k_Reader_52 (As := [(0, 1), (0, (M 72 10))]) rfl rfl rfl ⟨_, _, rfl⟩ (Nat.le_of_ble_eq_true rfl) trivial H (fun r1 M2 hr H => ?_)
  have b3 : r1 = 0 ∨ r1 = 1 := hr
  exact x_ireturn (zdm d_Reader_unfit_0 5 rfl) (ty := .boolean) rfl (by decide) b3 H
set_option maxRecDepth 20000 in
set_option maxHeartbeats 4000000 in
theorem B_Reader_advance_232 {G : zG} {h sl : Nat} (hsl : 1 ≤ sl) {u : Nat × Nat × Nat × Nat} {l1 : Int} {M : zM} {Q : Int → zM → Prop} (H : (l1 = 0 → Q 0 (zwr M 72 9 (M 72 9))) ∧ (¬ l1 = 0 → Q 0 (zwr M 72 9 4))) : zX G (y_Reader_advance, h + 1, sl) u 232 [(0, (2, 72)), (1, (0, l1))] [] M Q := by
  refine x_aload_n (zdm d_Reader_advance_1 52 rfl) rfl (n := 0) rfl ?_
  refine x_iload_n (zdm d_Reader_advance_1 53 rfl) rfl (n := 1) rfl ?_
  refine x_ifeq (tgt := 241) (zdm d_Reader_advance_1 54 rfl) (by decide) (fun c => ?_) (fun c => ?_)
  · have H := H.1 c
    refine x_aload_n (zdm d_Reader_advance_1 57 rfl) rfl (n := 0) rfl ?_
    refine x_getf (zdm d_Reader_advance_1 58 rfl) f_Reader_46 rfl rfl ?_
    refine x_putf (zdm d_Reader_advance_1 59 rfl) f_Reader_46 rfl ⟨rfl, trivial⟩ (Or.inl rfl) ?_
    exact x_return (zdm d_Reader_advance_2 0 rfl) rfl H
  · have H := H.2 c
    refine x_iconst (zdm d_Reader_advance_1 55 rfl) (zIl rfl) ?_
    refine x_goto (tgt := 245) (zdm d_Reader_advance_1 56 rfl) (by decide) ?_
    refine x_putf (zdm d_Reader_advance_1 59 rfl) f_Reader_46 rfl ⟨rfl, trivial⟩ (Or.inl rfl) ?_
    exact x_return (zdm d_Reader_advance_2 0 rfl) rfl H
set_option maxRecDepth 20000 in
set_option maxHeartbeats 4000000 in
theorem B_Reader_advance_175 {G : zG} {h sl : Nat} (hsl : 1 ≤ sl) {u : Nat × Nat × Nat × Nat} {l1 : Int} {M : zM} {Q : Int → zM → Prop} (H : ((M 72 9) = 3 → zX G (y_Reader_advance, h + 1, sl) u 232 [(0, (2, 72)), (1, (0, l1))] [] M Q) ∧ (¬ (M 72 9) = 3 → ((M 2 1) ≤ (M 72 11) → zX G (y_Reader_advance, h + 1, sl) u 232 [(0, (2, 72)), (1, (0, l1))] [] M Q) ∧ (¬ (M 2 1) ≤ (M 72 11) → (0 ≤ (M 72 11) ∧ (M 72 11) < 1600) ∧ (zCt G h sl 0 0 y_Reader_kindOf [(0, (M 3 (M 72 11)))] M (fun r2 M3 => (¬ r2 = (M3 72 9) → zX G (y_Reader_advance, h + 1, sl) u 232 [(0, (2, 72)), (1, (0, l1))] [] M3 Q) ∧ (¬ (¬ r2 = (M3 72 9)) → (zI ((M3 72 11) + 1)) ∧ (zX G (y_Reader_advance, h + 1, sl) u 175 [(0, (2, 72)), (1, (0, l1))] [] (zwr M3 72 11 ((M3 72 11) + 1)) Q))))))) : zX G (y_Reader_advance, h + 1, sl) u 175 [(0, (2, 72)), (1, (0, l1))] [] M Q := by
  refine x_aload_n (zdm d_Reader_advance_1 25 rfl) rfl (n := 0) rfl ?_
  refine x_getf (zdm d_Reader_advance_1 26 rfl) f_Reader_46 rfl rfl ?_
  refine x_iconst (zdm d_Reader_advance_1 27 rfl) (zIl rfl) ?_
  refine x_icmpeq (tgt := 232) (zdm d_Reader_advance_1 28 rfl) (by decide) (fun c => ?_) (fun c => ?_)
  · have H := H.1 c
    exact H
  · have H := H.2 c
    refine x_aload_n (zdm d_Reader_advance_1 29 rfl) rfl (n := 0) rfl ?_
    refine x_getf (zdm d_Reader_advance_1 30 rfl) f_Reader_92 rfl rfl ?_
    refine x_aload_n (zdm d_Reader_advance_1 31 rfl) rfl (n := 0) rfl ?_
    refine x_getG (zdm d_Reader_advance_1 32 rfl) f_Reader_25 rfl rfl (by decide) hsl rfl ?_
    refine x_getf (zdm d_Reader_advance_1 33 rfl) f_Reader_314 rfl rfl ?_
    refine x_icmpge (tgt := 232) (zdm d_Reader_advance_1 34 rfl) (by decide) (fun c => ?_) (fun c => ?_)
    · have H := H.1 c
      exact H
    · have H := H.2 c
      refine x_aload_n (zdm d_Reader_advance_1 35 rfl) rfl (n := 0) rfl ?_
      refine x_getG (zdm d_Reader_advance_1 36 rfl) f_Reader_25 rfl rfl (by decide) hsl rfl ?_
      refine x_getG (zdm d_Reader_advance_1 37 rfl) f_Reader_230 rfl rfl (by decide) hsl rfl ?_
      refine x_aload_n (zdm d_Reader_advance_1 38 rfl) rfl (n := 0) rfl ?_
      refine x_getf (zdm d_Reader_advance_1 39 rfl) f_Reader_92 rfl rfl ?_
      obtain ⟨g1, H⟩ := H
      refine x_iald (zdm d_Reader_advance_1 40 rfl) rfl g1 ?_
      refine x_callSi (n := 1) (zdm d_Reader_advance_1 41 rfl) k_Reader_319 (As := [(0, (M 3 (M 72 11)))]) rfl rfl (Nat.le_of_ble_eq_true rfl) trivial H (fun r2 M3 hr H => ?_)
      refine x_aload_n (zdm d_Reader_advance_1 42 rfl) rfl (n := 0) rfl ?_
      refine x_getf (zdm d_Reader_advance_1 43 rfl) f_Reader_46 rfl rfl ?_
      refine x_icmpne (tgt := 232) (zdm d_Reader_advance_1 44 rfl) (by decide) (fun c => ?_) (fun c => ?_)
      · have H := H.1 c
        exact H
      · have H := H.2 c
        refine x_aload_n (zdm d_Reader_advance_1 45 rfl) rfl (n := 0) rfl ?_
        refine x_dup (zdm d_Reader_advance_1 46 rfl) z2n1 ?_
        refine x_getf (zdm d_Reader_advance_1 47 rfl) f_Reader_92 rfl rfl ?_
        refine x_iconst (zdm d_Reader_advance_1 48 rfl) (zIl rfl) ?_
        obtain ⟨g4, H⟩ := H
        refine x_iadd (zdm d_Reader_advance_1 49 rfl) g4 ?_
        refine x_putf (zdm d_Reader_advance_1 50 rfl) f_Reader_92 rfl ⟨rfl, trivial⟩ (Or.inl rfl) ?_
        refine x_goto (tgt := 175) (zdm d_Reader_advance_1 51 rfl) (by decide) ?_
        exact H
set_option maxRecDepth 20000 in
set_option maxHeartbeats 4000000 in
theorem B_Reader_advance_150 {G : zG} {h sl : Nat} (hsl : 1 ≤ sl) {u : Nat × Nat × Nat × Nat} {s0 : Int} {M : zM} {Q : Int → zM → Prop} (H : (¬ (M 72 9) = 0 → (zI ((M 72 10) + 1)) ∧ (zX G (y_Reader_advance, h + 1, sl) u 175 [(0, (2, 72)), (1, (0, s0))] [] (zwr M 72 11 ((M 72 10) + 1)) Q)) ∧ (¬ (¬ (M 72 9) = 0) → zX G (y_Reader_advance, h + 1, sl) u 175 [(0, (2, 72)), (1, (0, s0))] [] (zwr M 72 11 (M 72 10)) Q)) : zX G (y_Reader_advance, h + 1, sl) u 150 [(0, (2, 72))] [(0, s0)] M Q := by
  refine x_istore_n (zdm d_Reader_advance_1 12 rfl) rfl (zlt rfl) rfl ?_
  refine x_aload_n (zdm d_Reader_advance_1 13 rfl) rfl (n := 1) rfl ?_
  refine x_aload_n (zdm d_Reader_advance_1 14 rfl) rfl (n := 1) rfl ?_
  refine x_getf (zdm d_Reader_advance_1 15 rfl) f_Reader_46 rfl rfl ?_
  refine x_ifne (tgt := 166) (zdm d_Reader_advance_1 16 rfl) (by decide) (fun c => ?_) (fun c => ?_)
  · have H := H.1 c
    refine x_aload_n (zdm d_Reader_advance_1 20 rfl) rfl (n := 1) rfl ?_
    refine x_getf (zdm d_Reader_advance_1 21 rfl) f_Reader_49 rfl rfl ?_
    refine x_iconst (zdm d_Reader_advance_1 22 rfl) (zIl rfl) ?_
    obtain ⟨g1, H⟩ := H
    refine x_iadd (zdm d_Reader_advance_1 23 rfl) g1 ?_
    refine x_putf (zdm d_Reader_advance_1 24 rfl) f_Reader_92 rfl ⟨rfl, trivial⟩ (Or.inl rfl) ?_
    exact zX.sub [1, 0] rfl H
  · have H := H.2 c
    refine x_aload_n (zdm d_Reader_advance_1 17 rfl) rfl (n := 1) rfl ?_
    refine x_getf (zdm d_Reader_advance_1 18 rfl) f_Reader_49 rfl rfl ?_
    refine x_goto (tgt := 172) (zdm d_Reader_advance_1 19 rfl) (by decide) ?_
    refine x_putf (zdm d_Reader_advance_1 24 rfl) f_Reader_92 rfl ⟨rfl, trivial⟩ (Or.inl rfl) ?_
    exact zX.sub [1, 0] rfl H
set_option maxRecDepth 20000 in
set_option maxHeartbeats 4000000 in
theorem B_Reader_advance_124 {G : zG} {h sl : Nat} (hsl : 1 ≤ sl) {u : Nat × Nat × Nat × Nat} {M : zM} {Q : Int → zM → Prop} (H : (zI ((M 72 10) - 1)) ∧ ((0 ≤ ((M 72 10) - 1) ∧ ((M 72 10) - 1) < 1600) ∧ (zCt G h sl 0 0 y_Reader_kindOf [(0, (M 3 ((M 72 10) - 1)))] M (fun r3 M4 => (r3 = 3 → zX G (y_Reader_advance, h + 1, sl) u 150 [(0, (2, 72))] [(0, 0)] M4 Q) ∧ (¬ r3 = 3 → zX G (y_Reader_advance, h + 1, sl) u 150 [(0, (2, 72))] [(0, 1)] M4 Q))))) : zX G (y_Reader_advance, h + 1, sl) u 124 [(0, (2, 72))] [] M Q := by
  refine x_aload_n (zdm d_Reader_advance_0 58 rfl) rfl (n := 0) rfl ?_
  refine x_getG (zdm d_Reader_advance_0 59 rfl) f_Reader_25 rfl rfl (by decide) hsl rfl ?_
  refine x_getG (zdm d_Reader_advance_1 0 rfl) f_Reader_230 rfl rfl (by decide) hsl rfl ?_
  refine x_aload_n (zdm d_Reader_advance_1 1 rfl) rfl (n := 0) rfl ?_
  refine x_getf (zdm d_Reader_advance_1 2 rfl) f_Reader_49 rfl rfl ?_
  refine x_iconst (zdm d_Reader_advance_1 3 rfl) (zIl rfl) ?_
  obtain ⟨g1, H⟩ := H
  refine x_isub (zdm d_Reader_advance_1 4 rfl) g1 ?_
  obtain ⟨g2, H⟩ := H
  refine x_iald (zdm d_Reader_advance_1 5 rfl) rfl g2 ?_
  refine x_callSi (n := 1) (zdm d_Reader_advance_1 6 rfl) k_Reader_319 (As := [(0, (M 3 ((M 72 10) - 1)))]) rfl rfl (Nat.le_of_ble_eq_true rfl) trivial H (fun r3 M4 hr H => ?_)
  refine x_iconst (zdm d_Reader_advance_1 7 rfl) (zIl rfl) ?_
  refine x_icmpeq (tgt := 149) (zdm d_Reader_advance_1 8 rfl) (by decide) (fun c => ?_) (fun c => ?_)
  · have H := H.1 c
    refine x_iconst (zdm d_Reader_advance_1 11 rfl) (zIl rfl) ?_
    exact H
  · have H := H.2 c
    refine x_iconst (zdm d_Reader_advance_1 9 rfl) (zIl rfl) ?_
    refine x_goto (tgt := 150) (zdm d_Reader_advance_1 10 rfl) (by decide) ?_
    exact H
set_option maxRecDepth 20000 in
set_option maxHeartbeats 4000000 in
theorem B_Reader_advance_87 {G : zG} {h sl : Nat} (hsl : 1 ≤ sl) {u : Nat × Nat × Nat × Nat} {s0 : Int} {M : zM} {Q : Int → zM → Prop} (H : (¬ ((zwr M 72 9 s0) 72 10) = ((zwr M 72 9 s0) 72 11) → zX G (y_Reader_advance, h + 1, sl) u 150 [(0, (2, 72))] [(0, 0)] (zwr M 72 9 s0) Q) ∧ (¬ (¬ ((zwr M 72 9 s0) 72 10) = ((zwr M 72 9 s0) 72 11)) → (((zwr M 72 9 s0) 72 10) ≤ 0 → zX G (y_Reader_advance, h + 1, sl) u 150 [(0, (2, 72))] [(0, 0)] (zwr M 72 9 s0) Q) ∧ (¬ ((zwr M 72 9 s0) 72 10) ≤ 0 → (((zwr M 72 9 s0) 72 9) = 1 → zX G (y_Reader_advance, h + 1, sl) u 124 [(0, (2, 72))] [] (zwr M 72 9 s0) Q) ∧ (¬ ((zwr M 72 9 s0) 72 9) = 1 → (¬ ((zwr M 72 9 s0) 72 9) = 2 → zX G (y_Reader_advance, h + 1, sl) u 150 [(0, (2, 72))] [(0, 0)] (zwr M 72 9 s0) Q) ∧ (¬ (¬ ((zwr M 72 9 s0) 72 9) = 2) → zX G (y_Reader_advance, h + 1, sl) u 124 [(0, (2, 72))] [] (zwr M 72 9 s0) Q))))) : zX G (y_Reader_advance, h + 1, sl) u 87 [(0, (2, 72))] [(0, s0), (2, 72)] M Q := by
  refine x_putf (zdm d_Reader_advance_0 41 rfl) f_Reader_46 rfl ⟨rfl, trivial⟩ (Or.inl rfl) ?_
  refine x_aload_n (zdm d_Reader_advance_0 42 rfl) rfl (n := 0) rfl ?_
  refine x_getf (zdm d_Reader_advance_0 43 rfl) f_Reader_49 rfl rfl ?_
  refine x_aload_n (zdm d_Reader_advance_0 44 rfl) rfl (n := 0) rfl ?_
  refine x_getf (zdm d_Reader_advance_0 45 rfl) f_Reader_92 rfl rfl ?_
  refine x_icmpne (tgt := 149) (zdm d_Reader_advance_0 46 rfl) (by decide) (fun c => ?_) (fun c => ?_)
  · have H := H.1 c
    refine x_iconst (zdm d_Reader_advance_1 11 rfl) (zIl rfl) ?_
    exact H
  · have H := H.2 c
    refine x_aload_n (zdm d_Reader_advance_0 47 rfl) rfl (n := 0) rfl ?_
    refine x_getf (zdm d_Reader_advance_0 48 rfl) f_Reader_49 rfl rfl ?_
    refine x_ifle (tgt := 149) (zdm d_Reader_advance_0 49 rfl) (by decide) (fun c => ?_) (fun c => ?_)
    · have H := H.1 c
      refine x_iconst (zdm d_Reader_advance_1 11 rfl) (zIl rfl) ?_
      exact H
    · have H := H.2 c
      refine x_aload_n (zdm d_Reader_advance_0 50 rfl) rfl (n := 0) rfl ?_
      refine x_getf (zdm d_Reader_advance_0 51 rfl) f_Reader_46 rfl rfl ?_
      refine x_iconst (zdm d_Reader_advance_0 52 rfl) (zIl rfl) ?_
      refine x_icmpeq (tgt := 124) (zdm d_Reader_advance_0 53 rfl) (by decide) (fun c => ?_) (fun c => ?_)
      · have H := H.1 c
        exact H
      · have H := H.2 c
        refine x_aload_n (zdm d_Reader_advance_0 54 rfl) rfl (n := 0) rfl ?_
        refine x_getf (zdm d_Reader_advance_0 55 rfl) f_Reader_46 rfl rfl ?_
        refine x_iconst (zdm d_Reader_advance_0 56 rfl) (zIl rfl) ?_
        refine x_icmpne (tgt := 149) (zdm d_Reader_advance_0 57 rfl) (by decide) (fun c => ?_) (fun c => ?_)
        · have H := H.1 c
          refine x_iconst (zdm d_Reader_advance_1 11 rfl) (zIl rfl) ?_
          exact H
        · have H := H.2 c
          exact H
set_option maxRecDepth 20000 in
set_option maxHeartbeats 4000000 in
theorem B_Reader_advance_53 {G : zG} {h sl : Nat} (hsl : 1 ≤ sl) {u : Nat × Nat × Nat × Nat} {M : zM} {Q : Int → zM → Prop} (H : ((M 2 1) ≤ (M 72 10) → zX G (y_Reader_advance, h + 1, sl) u 87 [(0, (2, 72))] [(0, 0), (2, 72)] M Q) ∧ (¬ (M 2 1) ≤ (M 72 10) → (0 ≤ (M 72 10) ∧ (M 72 10) < 1600) ∧ (zCt G h sl 0 0 y_Reader_kindOf [(0, (M 3 (M 72 10)))] M (fun r2 M3 => zX G (y_Reader_advance, h + 1, sl) u 87 [(0, (2, 72))] [(0, r2), (2, 72)] M3 Q)))) : zX G (y_Reader_advance, h + 1, sl) u 53 [(0, (2, 72))] [] M Q := by
  refine x_aload_n (zdm d_Reader_advance_0 25 rfl) rfl (n := 0) rfl ?_
  refine x_aload_n (zdm d_Reader_advance_0 26 rfl) rfl (n := 0) rfl ?_
  refine x_getf (zdm d_Reader_advance_0 27 rfl) f_Reader_49 rfl rfl ?_
  refine x_aload_n (zdm d_Reader_advance_0 28 rfl) rfl (n := 0) rfl ?_
  refine x_getG (zdm d_Reader_advance_0 29 rfl) f_Reader_25 rfl rfl (by decide) hsl rfl ?_
  refine x_getf (zdm d_Reader_advance_0 30 rfl) f_Reader_314 rfl rfl ?_
  refine x_icmpge (tgt := 86) (zdm d_Reader_advance_0 31 rfl) (by decide) (fun c => ?_) (fun c => ?_)
  · have H := H.1 c
    refine x_iconst (zdm d_Reader_advance_0 40 rfl) (zIl rfl) ?_
    exact H
  · have H := H.2 c
    refine x_aload_n (zdm d_Reader_advance_0 32 rfl) rfl (n := 0) rfl ?_
    refine x_getG (zdm d_Reader_advance_0 33 rfl) f_Reader_25 rfl rfl (by decide) hsl rfl ?_
    refine x_getG (zdm d_Reader_advance_0 34 rfl) f_Reader_230 rfl rfl (by decide) hsl rfl ?_
    refine x_aload_n (zdm d_Reader_advance_0 35 rfl) rfl (n := 0) rfl ?_
    refine x_getf (zdm d_Reader_advance_0 36 rfl) f_Reader_49 rfl rfl ?_
    obtain ⟨g1, H⟩ := H
    refine x_iald (zdm d_Reader_advance_0 37 rfl) rfl g1 ?_
    refine x_callSi (n := 1) (zdm d_Reader_advance_0 38 rfl) k_Reader_319 (As := [(0, (M 3 (M 72 10)))]) rfl rfl (Nat.le_of_ble_eq_true rfl) trivial H (fun r2 M3 hr H => ?_)
    refine x_goto (tgt := 87) (zdm d_Reader_advance_0 39 rfl) (by decide) ?_
    exact H
set_option maxRecDepth 20000 in
set_option maxHeartbeats 4000000 in
theorem B_Reader_advance_8 {G : zG} {h sl : Nat} (hsl : 1 ≤ sl) {u : Nat × Nat × Nat × Nat} {M : zM} {Q : Int → zM → Prop} (H : ((M 2 1) ≤ (M 72 10) → zX G (y_Reader_advance, h + 1, sl) u 53 [(0, (2, 72))] [] M Q) ∧ (¬ (M 2 1) ≤ (M 72 10) → (0 ≤ (M 72 10) ∧ (M 72 10) < 1600) ∧ (zCt G h sl 0 0 y_Reader_isBlank [(0, (M 3 (M 72 10)))] M (fun r2 M3 => (r2 = 0 → zX G (y_Reader_advance, h + 1, sl) u 53 [(0, (2, 72))] [] M3 Q) ∧ (¬ r2 = 0 → (zI ((M3 72 10) + 1)) ∧ (zX G (y_Reader_advance, h + 1, sl) u 8 [(0, (2, 72))] [] (zwr M3 72 10 ((M3 72 10) + 1)) Q)))))) : zX G (y_Reader_advance, h + 1, sl) u 8 [(0, (2, 72))] [] M Q := by
  refine x_aload_n (zdm d_Reader_advance_0 4 rfl) rfl (n := 0) rfl ?_
  refine x_getf (zdm d_Reader_advance_0 5 rfl) f_Reader_49 rfl rfl ?_
  refine x_aload_n (zdm d_Reader_advance_0 6 rfl) rfl (n := 0) rfl ?_
  refine x_getG (zdm d_Reader_advance_0 7 rfl) f_Reader_25 rfl rfl (by decide) hsl rfl ?_
  refine x_getf (zdm d_Reader_advance_0 8 rfl) f_Reader_314 rfl rfl ?_
  refine x_icmpge (tgt := 53) (zdm d_Reader_advance_0 9 rfl) (by decide) (fun c => ?_) (fun c => ?_)
  · have H := H.1 c
    exact H
  · have H := H.2 c
    refine x_aload_n (zdm d_Reader_advance_0 10 rfl) rfl (n := 0) rfl ?_
    refine x_getG (zdm d_Reader_advance_0 11 rfl) f_Reader_25 rfl rfl (by decide) hsl rfl ?_
    refine x_getG (zdm d_Reader_advance_0 12 rfl) f_Reader_230 rfl rfl (by decide) hsl rfl ?_
    refine x_aload_n (zdm d_Reader_advance_0 13 rfl) rfl (n := 0) rfl ?_
    refine x_getf (zdm d_Reader_advance_0 14 rfl) f_Reader_49 rfl rfl ?_
    obtain ⟨g1, H⟩ := H
    refine x_iald (zdm d_Reader_advance_0 15 rfl) rfl g1 ?_
    refine x_callSi (n := 1) (zdm d_Reader_advance_0 16 rfl) k_Reader_316 (As := [(0, (M 3 (M 72 10)))]) rfl rfl (Nat.le_of_ble_eq_true rfl) trivial H (fun r2 M3 hr H => ?_)
    have b4 : r2 = 0 ∨ r2 = 1 := hr
    refine x_ifeq (tgt := 53) (zdm d_Reader_advance_0 17 rfl) (by decide) (fun c => ?_) (fun c => ?_)
    · have H := H.1 c
      exact H
    · have H := H.2 c
      refine x_aload_n (zdm d_Reader_advance_0 18 rfl) rfl (n := 0) rfl ?_
      refine x_dup (zdm d_Reader_advance_0 19 rfl) z2n1 ?_
      refine x_getf (zdm d_Reader_advance_0 20 rfl) f_Reader_49 rfl rfl ?_
      refine x_iconst (zdm d_Reader_advance_0 21 rfl) (zIl rfl) ?_
      obtain ⟨g5, H⟩ := H
      refine x_iadd (zdm d_Reader_advance_0 22 rfl) g5 ?_
      refine x_putf (zdm d_Reader_advance_0 23 rfl) f_Reader_49 rfl ⟨rfl, trivial⟩ (Or.inl rfl) ?_
      refine x_goto (tgt := 8) (zdm d_Reader_advance_0 24 rfl) (by decide) ?_
      exact H
set_option maxRecDepth 20000 in
set_option maxHeartbeats 4000000 in
theorem E_Reader_advance {G : zG} {h sl : Nat} (hsl : 1 ≤ sl) {M : zM} {Q : Int → zM → Prop} (H : zX G (y_Reader_advance, h + 1, sl) (0, 0, 0, 0) 8 [(0, (2, 72))] [] (zwr M 72 10 (M 72 11)) Q) : zCt G (h + 1) sl 0 0 y_Reader_advance [(2, 72)] M Q := by
  refine zCt.of (by decide +kernel) (Nat.le_of_ble_eq_true rfl) ?_
  refine x_aload_n (zdm d_Reader_advance_0 0 rfl) rfl (n := 0) rfl ?_
  refine x_aload_n (zdm d_Reader_advance_0 1 rfl) rfl (n := 0) rfl ?_
  refine x_getf (zdm d_Reader_advance_0 2 rfl) f_Reader_92 rfl rfl ?_
  refine x_putf (zdm d_Reader_advance_0 3 rfl) f_Reader_49 rfl ⟨rfl, trivial⟩ (Or.inl rfl) ?_
  exact H
set_option maxRecDepth 20000 in
set_option maxHeartbeats 4000000 in
theorem E_Reader_isBlank {G : zG} {h sl : Nat} (hsl : 1 ≤ sl) {l0 : Int} {M : zM} {Q : Int → zM → Prop} (H : (l0 = 10 → Q 1 M) ∧ (¬ l0 = 10 → (¬ l0 = 32 → Q 0 M) ∧ (¬ (¬ l0 = 32) → Q 1 M))) : zCt G h sl 0 0 y_Reader_isBlank [(0, l0)] M Q := by
  refine zCt.of (by decide +kernel) (Nat.le_of_ble_eq_true rfl) ?_
  refine x_iload_n (zdm d_Reader_isBlank_0 0 rfl) rfl (n := 0) rfl ?_
  refine x_bipush (zdm d_Reader_isBlank_0 1 rfl) (by decide) ?_
  refine x_icmpeq (tgt := 12) (zdm d_Reader_isBlank_0 2 rfl) (by decide) (fun c => ?_) (fun c => ?_)
  · have H := H.1 c
    refine x_iconst (zdm d_Reader_isBlank_0 6 rfl) (zIl rfl) ?_
    refine x_goto (tgt := 17) (zdm d_Reader_isBlank_0 7 rfl) (by decide) ?_
    exact x_ireturn (zdm d_Reader_isBlank_0 9 rfl) (ty := .boolean) rfl (by decide) (Or.inr rfl) H
  · have H := H.2 c
    refine x_iload_n (zdm d_Reader_isBlank_0 3 rfl) rfl (n := 0) rfl ?_
    refine x_bipush (zdm d_Reader_isBlank_0 4 rfl) (by decide) ?_
    refine x_icmpne (tgt := 16) (zdm d_Reader_isBlank_0 5 rfl) (by decide) (fun c => ?_) (fun c => ?_)
    · have H := H.1 c
      refine x_iconst (zdm d_Reader_isBlank_0 8 rfl) (zIl rfl) ?_
      exact x_ireturn (zdm d_Reader_isBlank_0 9 rfl) (ty := .boolean) rfl (by decide) (Or.inl rfl) H
    · have H := H.2 c
      refine x_iconst (zdm d_Reader_isBlank_0 6 rfl) (zIl rfl) ?_
      refine x_goto (tgt := 17) (zdm d_Reader_isBlank_0 7 rfl) (by decide) ?_
      exact x_ireturn (zdm d_Reader_isBlank_0 9 rfl) (ty := .boolean) rfl (by decide) (Or.inr rfl) H
set_option maxRecDepth 20000 in
set_option maxHeartbeats 4000000 in
theorem B_Reader_kindOf_14 {G : zG} {h sl : Nat} (hsl : 1 ≤ sl) {u : Nat × Nat × Nat × Nat} {l0 : Int} {M : zM} {Q : Int → zM → Prop} (H : (l0 < 48 → Q 3 M) ∧ (¬ l0 < 48 → (57 < l0 → Q 3 M) ∧ (¬ 57 < l0 → Q 2 M))) : zX G (y_Reader_kindOf, h, sl) u 14 [(0, (0, l0))] [] M Q := by
  refine x_iload_n (zdm d_Reader_kindOf_0 8 rfl) rfl (n := 0) rfl ?_
  refine x_bipush (zdm d_Reader_kindOf_0 9 rfl) (by decide) ?_
  refine x_icmplt (tgt := 30) (zdm d_Reader_kindOf_0 10 rfl) (by decide) (fun c => ?_) (fun c => ?_)
  · have H := H.1 c
    refine x_iconst (zdm d_Reader_kindOf_0 16 rfl) (zIl rfl) ?_
    exact x_iret (zdm d_Reader_kindOf_0 17 rfl) rfl H
  · have H := H.2 c
    refine x_iload_n (zdm d_Reader_kindOf_0 11 rfl) rfl (n := 0) rfl ?_
    refine x_bipush (zdm d_Reader_kindOf_0 12 rfl) (by decide) ?_
    refine x_icmpgt (tgt := 30) (zdm d_Reader_kindOf_0 13 rfl) (by decide) (fun c => ?_) (fun c => ?_)
    · have H := H.1 c
      refine x_iconst (zdm d_Reader_kindOf_0 16 rfl) (zIl rfl) ?_
      exact x_iret (zdm d_Reader_kindOf_0 17 rfl) rfl H
    · have H := H.2 c
      refine x_iconst (zdm d_Reader_kindOf_0 14 rfl) (zIl rfl) ?_
      refine x_goto (tgt := 31) (zdm d_Reader_kindOf_0 15 rfl) (by decide) ?_
      exact x_iret (zdm d_Reader_kindOf_0 17 rfl) rfl H
set_option maxRecDepth 20000 in
set_option maxHeartbeats 4000000 in
theorem E_Reader_kindOf {G : zG} {h sl : Nat} (hsl : 1 ≤ sl) {l0 : Int} {M : zM} {Q : Int → zM → Prop} (H : (l0 < 97 → zX G (y_Reader_kindOf, h, sl) (0, 0, 0, 0) 14 [(0, (0, l0))] [] M Q) ∧ (¬ l0 < 97 → (122 < l0 → zX G (y_Reader_kindOf, h, sl) (0, 0, 0, 0) 14 [(0, (0, l0))] [] M Q) ∧ (¬ 122 < l0 → Q 1 M))) : zCt G h sl 0 0 y_Reader_kindOf [(0, l0)] M Q := by
  refine zCt.of (by decide +kernel) (Nat.le_of_ble_eq_true rfl) ?_
  refine x_iload_n (zdm d_Reader_kindOf_0 0 rfl) rfl (n := 0) rfl ?_
  refine x_bipush (zdm d_Reader_kindOf_0 1 rfl) (by decide) ?_
  refine x_icmplt (tgt := 14) (zdm d_Reader_kindOf_0 2 rfl) (by decide) (fun c => ?_) (fun c => ?_)
  · have H := H.1 c
    exact H
  · have H := H.2 c
    refine x_iload_n (zdm d_Reader_kindOf_0 3 rfl) rfl (n := 0) rfl ?_
    refine x_bipush (zdm d_Reader_kindOf_0 4 rfl) (by decide) ?_
    refine x_icmpgt (tgt := 14) (zdm d_Reader_kindOf_0 5 rfl) (by decide) (fun c => ?_) (fun c => ?_)
    · have H := H.1 c
      exact H
    · have H := H.2 c
      refine x_iconst (zdm d_Reader_kindOf_0 6 rfl) (zIl rfl) ?_
      exact x_iret (zdm d_Reader_kindOf_0 7 rfl) rfl H
