set_option maxRecDepth 20000 in
set_option maxHeartbeats 4000000 in
theorem B_Question_answer_22 {G : zG} {h sl : Nat} (hsl : 1 ≤ sl) {u : Nat × Nat × Nat × Nat} {l1 l2 l3 l4 l6 : Int} {M : zM} {Q : Int → zM → Prop} (H : (zK l1 = (8, 0)) ∧ (((M l1 2) ≤ l6 → Q l4 M) ∧ (¬ (M l1 2) ≤ l6 → (zK l3 = (0, 0)) ∧ (zCt G h sl 0 0 y_Code_run [(2, l3), (0, 0), (0, ((zwr M 76 4 l6) l3 2)), (2, 76)] (zwr M 76 4 l6) (fun r3 M4 => zCt G h sl 0 0 y_Question_joined [(2, 76), (0, l2), (1, l4), (0, r3)] M4 (fun r5 M6 => (zI (l6 + 1)) ∧ (zX G (y_Question_answer, h + 1, sl) u 22 [(0, (2, 76)), (1, (2, l1)), (2, (0, l2)), (3, (2, l3)), (4, (1, r5)), (6, (0, (l6 + 1)))] [] M6 Q))))))) : zX G (y_Question_answer, h + 1, sl) u 22 [(0, (2, 76)), (1, (2, l1)), (2, (0, l2)), (3, (2, l3)), (4, (1, l4)), (6, (0, l6))] [] M Q := by
  refine x_iload (zdm d_Question_answer_0 12 rfl) (n := 5) rfl ?_
  refine x_aload_n (zdm d_Question_answer_0 13 rfl) rfl (n := 1) rfl ?_
  obtain ⟨g1, H⟩ := H
  refine x_getf (zdm d_Question_answer_0 14 rfl) f_Question_28 g1 rfl ?_
  refine x_icmpge (tgt := 62) (zdm d_Question_answer_0 15 rfl) (by decide) (fun c => ?_) (fun c => ?_)
  · have H := H.1 c
    refine x_lload (zdm d_Question_answer_0 32 rfl) (n := 4) rfl ?_
    exact x_lreturn (zdm d_Question_answer_0 33 rfl) rfl H
  · have H := H.2 c
    refine x_aload_n (zdm d_Question_answer_0 16 rfl) rfl (n := 0) rfl ?_
    refine x_iload (zdm d_Question_answer_0 17 rfl) (n := 5) rfl ?_
    refine x_putf (zdm d_Question_answer_0 18 rfl) f_Question_34 rfl ⟨rfl, trivial⟩ (Or.inl rfl) ?_
    refine x_aload_n (zdm d_Question_answer_0 19 rfl) rfl (n := 0) rfl ?_
    refine x_iload_n (zdm d_Question_answer_0 20 rfl) rfl (n := 2) rfl ?_
    refine x_lload (zdm d_Question_answer_0 21 rfl) (n := 4) rfl ?_
    refine x_aload_n (zdm d_Question_answer_0 22 rfl) rfl (n := 3) rfl ?_
    refine x_iconst (zdm d_Question_answer_0 23 rfl) (zIl rfl) ?_
    refine x_aload_n (zdm d_Question_answer_0 24 rfl) rfl (n := 3) rfl ?_
    obtain ⟨g2, H⟩ := H
    refine x_getf (zdm d_Question_answer_0 25 rfl) f_Question_37 g2 rfl ?_
    refine x_aload_n (zdm d_Question_answer_0 26 rfl) rfl (n := 0) rfl ?_
    refine x_callVi (n := 3) (ci := 0) (zdm d_Question_answer_0 27 rfl) k_Question_42 (As := [(0, 0), (0, ((zwr M 76 4 l6) l3 2)), (2, 76)]) rfl rfl g2 ⟨_, _, rfl⟩ (Nat.le_of_ble_eq_true rfl) trivial H (fun r3 M4 hr H => ?_)
    refine x_callVl (n := 3) (ci := 6) (zdm d_Question_answer_0 28 rfl) k_Question_46 (As := [(0, l2), (1, l4), (0, r3)]) rfl rfl rfl ⟨_, _, rfl⟩ (Nat.le_of_ble_eq_true rfl) rfl H (fun r5 M6 hr H => ?_)
    refine x_lstore (zdm d_Question_answer_0 29 rfl) (zlt rfl) rfl ?_
    obtain ⟨g7, H⟩ := H
    refine x_iinc (zdm d_Question_answer_0 30 rfl) (n := 5) rfl g7 (zlt rfl) rfl ?_
    refine x_goto (tgt := 22) (zdm d_Question_answer_0 31 rfl) (by decide) ?_
    exact zX.sub [2, 3, 4, 5, 1, 0] rfl H
set_option maxRecDepth 20000 in
set_option maxHeartbeats 4000000 in
theorem E_Question_answer {G : zG} {h sl : Nat} (hsl : 1 ≤ sl) {l1 l2 l3 : Int} {M : zM} {Q : Int → zM → Prop} (H : (1 < l2 → zX G (y_Question_answer, h + 1, sl) (0, 0, 0, 0) 22 [(0, (2, 76)), (1, (2, l1)), (2, (0, l2)), (3, (2, l3)), (4, (1, 0)), (6, (0, 0))] [] (zwr M 76 3 l1) Q) ∧ (¬ 1 < l2 → zX G (y_Question_answer, h + 1, sl) (0, 0, 0, 0) 22 [(0, (2, 76)), (1, (2, l1)), (2, (0, l2)), (3, (2, l3)), (4, (1, (-1))), (6, (0, 0))] [] (zwr M 76 3 l1) Q)) : zCt G (h + 1) sl 0 0 y_Question_answer [(2, 76), (2, l1), (0, l2), (2, l3)] M Q := by
  refine zCt.of (by decide +kernel) (Nat.le_of_ble_eq_true rfl) ?_
  refine x_aload_n (zdm d_Question_answer_0 0 rfl) rfl (n := 0) rfl ?_
  refine x_aload_n (zdm d_Question_answer_0 1 rfl) rfl (n := 1) rfl ?_
  refine x_putf (zdm d_Question_answer_0 2 rfl) f_Question_22 rfl ⟨rfl, trivial⟩ (Or.inl rfl) ?_
  refine x_iload_n (zdm d_Question_answer_0 3 rfl) rfl (n := 2) rfl ?_
  refine x_iconst (zdm d_Question_answer_0 4 rfl) (zIl rfl) ?_
  refine x_icmpgt (tgt := 16) (zdm d_Question_answer_0 5 rfl) (by decide) (fun c => ?_) (fun c => ?_)
  · have H := H.1 c
    refine x_lconst (zdm d_Question_answer_0 8 rfl) (x := 0) rfl ?_
    refine x_lstore (zdm d_Question_answer_0 9 rfl) (zlt rfl) rfl ?_
    refine x_iconst (zdm d_Question_answer_0 10 rfl) (zIl rfl) ?_
    refine x_istore (zdm d_Question_answer_0 11 rfl) (zlt rfl) rfl ?_
    exact zX.sub [2, 3, 4, 5, 1, 0] rfl H
  · have H := H.2 c
    refine x_ldc2 (zdm d_Question_answer_0 6 rfl) (n := (-1)) (zLl rfl) w_Question_26 ?_
    refine x_goto (tgt := 17) (zdm d_Question_answer_0 7 rfl) (by decide) ?_
    refine x_lstore (zdm d_Question_answer_0 9 rfl) (zlt rfl) rfl ?_
    refine x_iconst (zdm d_Question_answer_0 10 rfl) (zIl rfl) ?_
    refine x_istore (zdm d_Question_answer_0 11 rfl) (zlt rfl) rfl ?_
    exact zX.sub [2, 3, 4, 5, 1, 0] rfl H
set_option maxRecDepth 20000 in
set_option maxHeartbeats 4000000 in
theorem E_Question_joined {G : zG} {h sl : Nat} (hsl : 1 ≤ sl) {l1 l2 l4 : Int} {M : zM} {Q : Int → zM → Prop} (H : (l1 = 0 → (¬ l2 = (-1) → Q l2 M) ∧ (¬ (¬ l2 = (-1)) → (¬ l4 = 1 → Q l2 M) ∧ (¬ (¬ l4 = 1) → Q (M 76 4) M))) ∧ (l1 = 1 → (¬ l4 = 1 → Q l2 M) ∧ (¬ (¬ l4 = 1) → Q (M 76 4) M)) ∧ (l1 = 2 → (zL (l2 + l4)) ∧ (Q (l2 + l4) M)) ∧ (l1 = 3 → (zL (l2 + l4)) ∧ (Q (l2 + l4) M)) ∧ (l1 = 4 → (¬ (M 76 4) = 0 → zCt G h sl 0 0 y_Jm_max_JJJ [(1, l2), (1, l4)] M (fun r3 M4 => Q r3 M4)) ∧ (¬ (¬ (M 76 4) = 0) → Q l4 M)) ∧ (l1 = 5 → (¬ (M 76 4) = 0 → zCt G h sl 0 0 y_Jm_min_JJJ [(1, l2), (1, l4)] M (fun r5 M6 => Q r5 M6)) ∧ (¬ (¬ (M 76 4) = 0) → Q l4 M)) ∧ ((l1 < 0 ∨ 5 < l1) → (zL (l2 + l4)) ∧ (Q (l2 + l4) M))) : zCt G (h + 1) sl 0 0 y_Question_joined [(2, 76), (0, l1), (1, l2), (0, l4)] M Q := by
  refine zCt.of (by decide +kernel) (Nat.le_of_ble_eq_true rfl) ?_
  refine x_iload_n (zdm d_Question_joined_0 0 rfl) rfl (n := 1) rfl ?_
  by_cases c0 : l1 = 0
  · refine x_tsw (tgt := 40) (zdm d_Question_joined_0 1 rfl) c0 (by decide) rfl (by decide) ?_
    have H := H.1 c0
    refine x_lload_n (zdm d_Question_joined_0 2 rfl) rfl (n := 2) rfl ?_
    refine x_ldc2 (zdm d_Question_joined_0 3 rfl) (n := (-1)) (zLl rfl) w_Question_26 ?_
    refine x_lcmp_ne (tgt := 62) (zdm d_Question_joined_0 4 rfl) (zdm d_Question_joined_0 5 rfl) (by decide) (fun c => ?_) (fun c => ?_)
    · have H := H.1 c
      refine x_lload_n (zdm d_Question_joined_0 13 rfl) rfl (n := 2) rfl ?_
      exact x_lreturn (zdm d_Question_joined_0 14 rfl) rfl H
    · have H := H.2 c
      refine x_iload (zdm d_Question_joined_0 6 rfl) (n := 3) rfl ?_
      refine x_iconst (zdm d_Question_joined_0 7 rfl) (zIl rfl) ?_
      refine x_icmpne (tgt := 62) (zdm d_Question_joined_0 8 rfl) (by decide) (fun c => ?_) (fun c => ?_)
      · have H := H.1 c
        refine x_lload_n (zdm d_Question_joined_0 13 rfl) rfl (n := 2) rfl ?_
        exact x_lreturn (zdm d_Question_joined_0 14 rfl) rfl H
      · have H := H.2 c
        refine x_aload_n (zdm d_Question_joined_0 9 rfl) rfl (n := 0) rfl ?_
        refine x_getf (zdm d_Question_joined_0 10 rfl) f_Question_34 rfl rfl ?_
        refine x_i2l (zdm d_Question_joined_0 11 rfl) ?_
        refine x_goto (tgt := 63) (zdm d_Question_joined_0 12 rfl) (by decide) ?_
        exact x_lreturn (zdm d_Question_joined_0 14 rfl) rfl H
  · skip
    by_cases c1 : l1 = 1
    · refine x_tsw (tgt := 64) (zdm d_Question_joined_0 1 rfl) c1 (by decide) rfl (by decide) ?_
      have H := H.2.1 c1
      refine x_iload (zdm d_Question_joined_0 15 rfl) (n := 3) rfl ?_
      refine x_iconst (zdm d_Question_joined_0 16 rfl) (zIl rfl) ?_
      refine x_icmpne (tgt := 78) (zdm d_Question_joined_0 17 rfl) (by decide) (fun c => ?_) (fun c => ?_)
      · have H := H.1 c
        refine x_lload_n (zdm d_Question_joined_0 22 rfl) rfl (n := 2) rfl ?_
        exact x_lreturn (zdm d_Question_joined_0 23 rfl) rfl H
      · have H := H.2 c
        refine x_aload_n (zdm d_Question_joined_0 18 rfl) rfl (n := 0) rfl ?_
        refine x_getf (zdm d_Question_joined_0 19 rfl) f_Question_34 rfl rfl ?_
        refine x_i2l (zdm d_Question_joined_0 20 rfl) ?_
        refine x_goto (tgt := 79) (zdm d_Question_joined_0 21 rfl) (by decide) ?_
        exact x_lreturn (zdm d_Question_joined_0 23 rfl) rfl H
    · skip
      by_cases c2 : l1 = 2
      · refine x_tsw (tgt := 122) (zdm d_Question_joined_0 1 rfl) c2 (by decide) rfl (by decide) ?_
        have H := H.2.2.1 c2
        refine x_lload_n (zdm d_Question_joined_0 46 rfl) rfl (n := 2) rfl ?_
        refine x_iload (zdm d_Question_joined_0 47 rfl) (n := 3) rfl ?_
        refine x_i2l (zdm d_Question_joined_0 48 rfl) ?_
        obtain ⟨g1, H⟩ := H
        refine x_ladd (zdm d_Question_joined_0 49 rfl) g1 ?_
        exact x_lreturn (zdm d_Question_joined_0 50 rfl) rfl H
      · skip
        by_cases c3 : l1 = 3
        · refine x_tsw (tgt := 122) (zdm d_Question_joined_0 1 rfl) c3 (by decide) rfl (by decide) ?_
          have H := H.2.2.2.1 c3
          refine x_lload_n (zdm d_Question_joined_0 46 rfl) rfl (n := 2) rfl ?_
          refine x_iload (zdm d_Question_joined_0 47 rfl) (n := 3) rfl ?_
          refine x_i2l (zdm d_Question_joined_0 48 rfl) ?_
          obtain ⟨g2, H⟩ := H
          refine x_ladd (zdm d_Question_joined_0 49 rfl) g2 ?_
          exact x_lreturn (zdm d_Question_joined_0 50 rfl) rfl H
        · skip
          by_cases c4 : l1 = 4
          · refine x_tsw (tgt := 80) (zdm d_Question_joined_0 1 rfl) c4 (by decide) rfl (by decide) ?_
            have H := H.2.2.2.2.1 c4
            refine x_aload_n (zdm d_Question_joined_0 24 rfl) rfl (n := 0) rfl ?_
            refine x_getf (zdm d_Question_joined_0 25 rfl) f_Question_34 rfl rfl ?_
            refine x_ifne (tgt := 93) (zdm d_Question_joined_0 26 rfl) (by decide) (fun c => ?_) (fun c => ?_)
            · have H := H.1 c
              refine x_lload_n (zdm d_Question_joined_0 30 rfl) rfl (n := 2) rfl ?_
              refine x_iload (zdm d_Question_joined_0 31 rfl) (n := 3) rfl ?_
              refine x_i2l (zdm d_Question_joined_0 32 rfl) ?_
              refine x_callSl (n := 2) (zdm d_Question_joined_0 33 rfl) k_Question_50 (As := [(1, l2), (1, l4)]) rfl rfl (Nat.le_of_ble_eq_true rfl) rfl H (fun r3 M4 hr H => ?_)
              exact x_lreturn (zdm d_Question_joined_0 34 rfl) rfl H
            · have H := H.2 c
              refine x_iload (zdm d_Question_joined_0 27 rfl) (n := 3) rfl ?_
              refine x_i2l (zdm d_Question_joined_0 28 rfl) ?_
              refine x_goto (tgt := 100) (zdm d_Question_joined_0 29 rfl) (by decide) ?_
              exact x_lreturn (zdm d_Question_joined_0 34 rfl) rfl H
          · skip
            by_cases c5 : l1 = 5
            · refine x_tsw (tgt := 101) (zdm d_Question_joined_0 1 rfl) c5 (by decide) rfl (by decide) ?_
              have H := H.2.2.2.2.2.1 c5
              refine x_aload_n (zdm d_Question_joined_0 35 rfl) rfl (n := 0) rfl ?_
              refine x_getf (zdm d_Question_joined_0 36 rfl) f_Question_34 rfl rfl ?_
              refine x_ifne (tgt := 114) (zdm d_Question_joined_0 37 rfl) (by decide) (fun c => ?_) (fun c => ?_)
              · have H := H.1 c
                refine x_lload_n (zdm d_Question_joined_0 41 rfl) rfl (n := 2) rfl ?_
                refine x_iload (zdm d_Question_joined_0 42 rfl) (n := 3) rfl ?_
                refine x_i2l (zdm d_Question_joined_0 43 rfl) ?_
                refine x_callSl (n := 2) (zdm d_Question_joined_0 44 rfl) k_Question_56 (As := [(1, l2), (1, l4)]) rfl rfl (Nat.le_of_ble_eq_true rfl) rfl H (fun r5 M6 hr H => ?_)
                exact x_lreturn (zdm d_Question_joined_0 45 rfl) rfl H
              · have H := H.2 c
                refine x_iload (zdm d_Question_joined_0 38 rfl) (n := 3) rfl ?_
                refine x_i2l (zdm d_Question_joined_0 39 rfl) ?_
                refine x_goto (tgt := 121) (zdm d_Question_joined_0 40 rfl) (by decide) ?_
                exact x_lreturn (zdm d_Question_joined_0 45 rfl) rfl H
            · skip
              have cd : (l1 < 0 ∨ 5 < l1) := by omega
              refine x_tswd (tgt := 122) (zdm d_Question_joined_0 1 rfl) cd (by decide) ?_
              have H := H.2.2.2.2.2.2 cd
              refine x_lload_n (zdm d_Question_joined_0 46 rfl) rfl (n := 2) rfl ?_
              refine x_iload (zdm d_Question_joined_0 47 rfl) (n := 3) rfl ?_
              refine x_i2l (zdm d_Question_joined_0 48 rfl) ?_
              obtain ⟨g7, H⟩ := H
              refine x_ladd (zdm d_Question_joined_0 49 rfl) g7 ?_
              exact x_lreturn (zdm d_Question_joined_0 50 rfl) rfl H
set_option maxRecDepth 20000 in
set_option maxHeartbeats 4000000 in
theorem E_Question_told {G : zG} {h sl : Nat} (hsl : 1 ≤ sl) {l1 : Int} {M : zM} {Q : Int → zM → Prop} (H : ((M 76 3) = 0 → Q 0 M) ∧ (¬ (M 76 3) = 0 → ((M 76 4) < 0 → Q 0 M) ∧ (¬ (M 76 4) < 0 → (zK (M 76 3) = (8, 0)) ∧ (((M 76 4) < (M (M 76 3) 2) → (l1 = 0 → Q (M 76 4) M) ∧ (l1 = 1 → (0 ≤ (M 76 4) ∧ (M 76 4) < 8) ∧ (Q (M ((M 76 3) + 7 + 2 * (M 76 4)) 1) M)) ∧ (l1 = 2 → (0 ≤ (M 76 4) ∧ (M 76 4) < 8) ∧ (Q (M 5 (M 76 4)) M)) ∧ (l1 = 3 → (0 ≤ (M 76 4) ∧ (M 76 4) < 8) ∧ (zCt G h sl 0 0 y_Course_told [(2, 8), (0, (M 4 1)), (0, (M 76 4))] M (fun r5 M6 => (zI ((M 5 (M 76 4)) - r5)) ∧ (zCt G h sl 0 0 y_Jm_min_III [(0, 1000000), (0, ((M 5 (M 76 4)) - r5))] M6 (fun r8 M9 => zCt G h sl 0 0 y_Jm_max_III [(0, (-1000000)), (0, r8)] M9 (fun r10 M11 => Q r10 M11)))))) ∧ (l1 = 4 → Q (M 4 1) M) ∧ ((l1 < 0 ∨ 4 < l1) → Q 0 M)) ∧ (¬ (M 76 4) < (M (M 76 3) 2) → Q 0 M))))) : zCt G (h + 1) sl 0 0 y_Question_told [(2, 76), (0, l1)] M Q := by
  refine zCt.of (by decide +kernel) (Nat.le_of_ble_eq_true rfl) ?_
  refine x_aload_n (zdm d_Question_told_0 0 rfl) rfl (n := 0) rfl ?_
  refine x_getf (zdm d_Question_told_0 1 rfl) f_Question_22 rfl rfl ?_
  refine x_ifnull (tgt := 28) (zdm d_Question_told_0 2 rfl) (by decide) (fun c => ?_) (fun c => ?_)
  · have H := H.1 c
    refine x_iconst (zdm d_Question_told_0 12 rfl) (zIl rfl) ?_
    exact x_iret (zdm d_Question_told_0 13 rfl) rfl H
  · have H := H.2 c
    refine x_aload_n (zdm d_Question_told_0 3 rfl) rfl (n := 0) rfl ?_
    refine x_getf (zdm d_Question_told_0 4 rfl) f_Question_34 rfl rfl ?_
    refine x_iflt (tgt := 28) (zdm d_Question_told_0 5 rfl) (by decide) (fun c => ?_) (fun c => ?_)
    · have H := H.1 c
      refine x_iconst (zdm d_Question_told_0 12 rfl) (zIl rfl) ?_
      exact x_iret (zdm d_Question_told_0 13 rfl) rfl H
    · have H := H.2 c
      refine x_aload_n (zdm d_Question_told_0 6 rfl) rfl (n := 0) rfl ?_
      refine x_getf (zdm d_Question_told_0 7 rfl) f_Question_34 rfl rfl ?_
      refine x_aload_n (zdm d_Question_told_0 8 rfl) rfl (n := 0) rfl ?_
      refine x_getf (zdm d_Question_told_0 9 rfl) f_Question_22 rfl rfl ?_
      obtain ⟨g1, H⟩ := H
      refine x_getf (zdm d_Question_told_0 10 rfl) f_Question_28 g1 rfl ?_
      refine x_icmplt (tgt := 30) (zdm d_Question_told_0 11 rfl) (by decide) (fun c => ?_) (fun c => ?_)
      · have H := H.1 c
        refine x_iload_n (zdm d_Question_told_0 14 rfl) rfl (n := 1) rfl ?_
        by_cases c0 : l1 = 0
        · refine x_tsw (tgt := 64) (zdm d_Question_told_0 15 rfl) c0 (by decide) rfl (by decide) ?_
          have H := H.1 c0
          refine x_aload_n (zdm d_Question_told_0 16 rfl) rfl (n := 0) rfl ?_
          refine x_getf (zdm d_Question_told_0 17 rfl) f_Question_34 rfl rfl ?_
          exact x_iret (zdm d_Question_told_0 18 rfl) rfl H
        · skip
          by_cases c1 : l1 = 1
          · refine x_tsw (tgt := 69) (zdm d_Question_told_0 15 rfl) c1 (by decide) rfl (by decide) ?_
            have H := H.2.1 c1
            refine x_aload_n (zdm d_Question_told_0 19 rfl) rfl (n := 0) rfl ?_
            refine x_getf (zdm d_Question_told_0 20 rfl) f_Question_22 rfl rfl ?_
            refine x_getG (zdm d_Question_told_0 21 rfl) f_Question_59 g1 rfl (by decide) hsl (zs_8 g1).1.1 ?_
            refine x_aload_n (zdm d_Question_told_0 22 rfl) rfl (n := 0) rfl ?_
            refine x_getf (zdm d_Question_told_0 23 rfl) f_Question_34 rfl rfl ?_
            obtain ⟨g2, H⟩ := H
            refine x_aald5G (zdm d_Question_told_0 24 rfl) (zs_8 g1).1.2 g2 hsl (zs_cols g1 g2.1 g2.2).1 ?_
            refine x_getf (zdm d_Question_told_0 25 rfl) f_Question_63 (zs_cols g1 g2.1 g2.2).2 rfl ?_
            exact x_iret (zdm d_Question_told_0 26 rfl) rfl H
          · skip
            by_cases c2 : l1 = 2
            · refine x_tsw (tgt := 85) (zdm d_Question_told_0 15 rfl) c2 (by decide) rfl (by decide) ?_
              have H := H.2.2.1 c2
              refine x_aload_n (zdm d_Question_told_0 27 rfl) rfl (n := 0) rfl ?_
              refine x_getG (zdm d_Question_told_0 28 rfl) f_Question_9 rfl rfl (by decide) hsl rfl ?_
              refine x_getG (zdm d_Question_told_0 29 rfl) f_Question_68 rfl rfl (by decide) hsl rfl ?_
              refine x_aload_n (zdm d_Question_told_0 30 rfl) rfl (n := 0) rfl ?_
              refine x_getf (zdm d_Question_told_0 31 rfl) f_Question_34 rfl rfl ?_
              obtain ⟨g3, H⟩ := H
              refine x_iald (zdm d_Question_told_0 32 rfl) rfl g3 ?_
              exact x_iret (zdm d_Question_told_0 33 rfl) rfl H
            · skip
              by_cases c3 : l1 = 3
              · refine x_tsw (tgt := 98) (zdm d_Question_told_0 15 rfl) c3 (by decide) rfl (by decide) ?_
                have H := H.2.2.2.1 c3
                refine x_aload_n (zdm d_Question_told_0 34 rfl) rfl (n := 0) rfl ?_
                refine x_getG (zdm d_Question_told_0 35 rfl) f_Question_9 rfl rfl (by decide) hsl rfl ?_
                refine x_getG (zdm d_Question_told_0 36 rfl) f_Question_68 rfl rfl (by decide) hsl rfl ?_
                refine x_aload_n (zdm d_Question_told_0 37 rfl) rfl (n := 0) rfl ?_
                refine x_getf (zdm d_Question_told_0 38 rfl) f_Question_34 rfl rfl ?_
                obtain ⟨g4, H⟩ := H
                refine x_iald (zdm d_Question_told_0 39 rfl) rfl g4 ?_
                refine x_aload_n (zdm d_Question_told_0 40 rfl) rfl (n := 0) rfl ?_
                refine x_getG (zdm d_Question_told_0 41 rfl) f_Question_15 rfl rfl (by decide) hsl rfl ?_
                refine x_aload_n (zdm d_Question_told_0 42 rfl) rfl (n := 0) rfl ?_
                refine x_getG (zdm d_Question_told_0 43 rfl) f_Question_9 rfl rfl (by decide) hsl rfl ?_
                refine x_getf (zdm d_Question_told_0 44 rfl) f_Question_74 rfl rfl ?_
                refine x_aload_n (zdm d_Question_told_0 45 rfl) rfl (n := 0) rfl ?_
                refine x_getf (zdm d_Question_told_0 46 rfl) f_Question_34 rfl rfl ?_
                refine x_callVi (n := 2) (ci := 2) (zdm d_Question_told_0 47 rfl) k_Question_77 (As := [(0, (M 4 1)), (0, (M 76 4))]) rfl rfl rfl ⟨_, _, rfl⟩ (Nat.le_of_ble_eq_true rfl) trivial H (fun r5 M6 hr H => ?_)
                obtain ⟨g7, H⟩ := H
                refine x_isub (zdm d_Question_told_0 48 rfl) g7 ?_
                refine x_istore_n (zdm d_Question_told_0 49 rfl) rfl (zlt rfl) rfl ?_
                refine x_ldc (zdm d_Question_told_0 50 rfl) (n := (-1000000)) (zIl rfl) w_Question_83 ?_
                refine x_ldc (zdm d_Question_told_0 51 rfl) (n := 1000000) (zIl rfl) w_Question_84 ?_
                refine x_iload_n (zdm d_Question_told_0 52 rfl) rfl (n := 0) rfl ?_
                refine x_callSi (n := 2) (zdm d_Question_told_0 53 rfl) k_Question_85 (As := [(0, 1000000), (0, ((M 5 (M 76 4)) - r5))]) rfl rfl (Nat.le_of_ble_eq_true rfl) trivial H (fun r8 M9 hr H => ?_)
                refine x_callSi (n := 2) (zdm d_Question_told_0 54 rfl) k_Question_87 (As := [(0, (-1000000)), (0, r8)]) rfl rfl (Nat.le_of_ble_eq_true rfl) trivial H (fun r10 M11 hr H => ?_)
                exact x_iret (zdm d_Question_told_0 55 rfl) rfl H
              · skip
                by_cases c4 : l1 = 4
                · refine x_tsw (tgt := 142) (zdm d_Question_told_0 15 rfl) c4 (by decide) rfl (by decide) ?_
                  have H := H.2.2.2.2.1 c4
                  refine x_aload_n (zdm d_Question_told_0 56 rfl) rfl (n := 0) rfl ?_
                  refine x_getG (zdm d_Question_told_0 57 rfl) f_Question_9 rfl rfl (by decide) hsl rfl ?_
                  refine x_getf (zdm d_Question_told_0 58 rfl) f_Question_74 rfl rfl ?_
                  exact x_iret (zdm d_Question_told_0 59 rfl) rfl H
                · skip
                  have cd : (l1 < 0 ∨ 4 < l1) := by omega
                  refine x_tswd (tgt := 150) (zdm d_Question_told_0 15 rfl) cd (by decide) ?_
                  have H := H.2.2.2.2.2 cd
                  refine x_iconst (zdm d_Question_told_1 0 rfl) (zIl rfl) ?_
                  exact x_iret (zdm d_Question_told_1 1 rfl) rfl H
      · have H := H.2 c
        refine x_iconst (zdm d_Question_told_0 12 rfl) (zIl rfl) ?_
        exact x_iret (zdm d_Question_told_0 13 rfl) rfl H
set_option maxRecDepth 20000 in
set_option maxHeartbeats 4000000 in
theorem B_Question_asked_35 {G : zG} {h sl : Nat} (hsl : 1 ≤ sl) {u : Nat × Nat × Nat × Nat} {l2 s0 : Int} {M : zM} {Q : Int → zM → Prop} (H : (s0 = 0 → Q 0 M) ∧ (¬ s0 = 0 → zCt G h sl 0 0 y_Course_told [(2, 13), (0, l2), (0, (M 76 4))] M (fun r1 M2 => Q r1 M2))) : zX G (y_Question_asked, h + 1, sl) u 35 [(0, (2, 76)), (2, (0, l2))] [(0, s0)] M Q := by
  refine x_istore_n (zdm d_Question_asked_0 17 rfl) rfl (zlt rfl) rfl ?_
  refine x_iload_n (zdm d_Question_asked_0 18 rfl) rfl (n := 0) rfl ?_
  refine x_ifeq (tgt := 55) (zdm d_Question_asked_0 19 rfl) (by decide) (fun c => ?_) (fun c => ?_)
  · have H := H.1 c
    refine x_iconst (zdm d_Question_asked_0 27 rfl) (zIl rfl) ?_
    exact x_iret (zdm d_Question_asked_0 28 rfl) rfl H
  · have H := H.2 c
    refine x_aload_n (zdm d_Question_asked_0 20 rfl) rfl (n := 1) rfl ?_
    refine x_getG (zdm d_Question_asked_0 21 rfl) f_Question_19 rfl rfl (by decide) hsl rfl ?_
    refine x_iload_n (zdm d_Question_asked_0 22 rfl) rfl (n := 2) rfl ?_
    refine x_aload_n (zdm d_Question_asked_0 23 rfl) rfl (n := 1) rfl ?_
    refine x_getf (zdm d_Question_asked_0 24 rfl) f_Question_34 rfl rfl ?_
    refine x_callVi (n := 2) (ci := 2) (zdm d_Question_asked_0 25 rfl) k_Question_77 (As := [(0, l2), (0, (M 76 4))]) rfl rfl rfl ⟨_, _, rfl⟩ (Nat.le_of_ble_eq_true rfl) trivial H (fun r1 M2 hr H => ?_)
    refine x_goto (tgt := 56) (zdm d_Question_asked_0 26 rfl) (by decide) ?_
    exact x_iret (zdm d_Question_asked_0 28 rfl) rfl H
set_option maxRecDepth 20000 in
set_option maxHeartbeats 4000000 in
theorem E_Question_asked {G : zG} {h sl : Nat} (hsl : 1 ≤ sl) {l1 l2 : Int} {M : zM} {Q : Int → zM → Prop} (H : (¬ l1 = 0 → ((M 76 3) = 0 → Q 0 M) ∧ (¬ (M 76 3) = 0 → (l2 < 0 → Q 0 M) ∧ (¬ l2 < 0 → (zK (M 76 3) = (8, 0)) ∧ (((M (M 76 3) 2) ≤ l2 → Q 0 M) ∧ (¬ (M (M 76 3) 2) ≤ l2 → (0 ≤ l2 ∧ l2 < 8) ∧ (Q (M 5 l2) M)))))) ∧ (¬ (¬ l1 = 0) → (l2 < 0 → zX G (y_Question_asked, h + 1, sl) (0, 0, 0, 0) 35 [(0, (2, 76)), (2, (0, l2))] [(0, 0)] M Q) ∧ (¬ l2 < 0 → (200 < l2 → zX G (y_Question_asked, h + 1, sl) (0, 0, 0, 0) 35 [(0, (2, 76)), (2, (0, l2))] [(0, 0)] M Q) ∧ (¬ 200 < l2 → (zI (999 - (M 4 1))) ∧ (((999 - (M 4 1)) < l2 → zX G (y_Question_asked, h + 1, sl) (0, 0, 0, 0) 35 [(0, (2, 76)), (2, (0, l2))] [(0, 0)] M Q) ∧ (¬ (999 - (M 4 1)) < l2 → zX G (y_Question_asked, h + 1, sl) (0, 0, 0, 0) 35 [(0, (2, 76)), (2, (0, l2))] [(0, 1)] M Q)))))) : zCt G (h + 1) sl 0 0 y_Question_asked [(2, 76), (0, l1), (0, l2)] M Q := by
  refine zCt.of (by decide +kernel) (Nat.le_of_ble_eq_true rfl) ?_
  refine x_iload_n (zdm d_Question_asked_0 0 rfl) rfl (n := 1) rfl ?_
  refine x_ifne (tgt := 57) (zdm d_Question_asked_0 1 rfl) (by decide) (fun c => ?_) (fun c => ?_)
  · have H := H.1 c
    refine x_aload_n (zdm d_Question_asked_0 29 rfl) rfl (n := 0) rfl ?_
    refine x_getf (zdm d_Question_asked_0 30 rfl) f_Question_22 rfl rfl ?_
    refine x_ifnull (tgt := 91) (zdm d_Question_asked_0 31 rfl) (by decide) (fun c => ?_) (fun c => ?_)
    · have H := H.1 c
      refine x_iconst (zdm d_Question_asked_0 45 rfl) (zIl rfl) ?_
      exact x_iret (zdm d_Question_asked_0 46 rfl) rfl H
    · have H := H.2 c
      refine x_iload_n (zdm d_Question_asked_0 32 rfl) rfl (n := 2) rfl ?_
      refine x_iflt (tgt := 91) (zdm d_Question_asked_0 33 rfl) (by decide) (fun c => ?_) (fun c => ?_)
      · have H := H.1 c
        refine x_iconst (zdm d_Question_asked_0 45 rfl) (zIl rfl) ?_
        exact x_iret (zdm d_Question_asked_0 46 rfl) rfl H
      · have H := H.2 c
        refine x_iload_n (zdm d_Question_asked_0 34 rfl) rfl (n := 2) rfl ?_
        refine x_aload_n (zdm d_Question_asked_0 35 rfl) rfl (n := 0) rfl ?_
        refine x_getf (zdm d_Question_asked_0 36 rfl) f_Question_22 rfl rfl ?_
        obtain ⟨g1, H⟩ := H
        refine x_getf (zdm d_Question_asked_0 37 rfl) f_Question_28 g1 rfl ?_
        refine x_icmpge (tgt := 91) (zdm d_Question_asked_0 38 rfl) (by decide) (fun c => ?_) (fun c => ?_)
        · have H := H.1 c
          refine x_iconst (zdm d_Question_asked_0 45 rfl) (zIl rfl) ?_
          exact x_iret (zdm d_Question_asked_0 46 rfl) rfl H
        · have H := H.2 c
          refine x_aload_n (zdm d_Question_asked_0 39 rfl) rfl (n := 0) rfl ?_
          refine x_getG (zdm d_Question_asked_0 40 rfl) f_Question_9 rfl rfl (by decide) hsl rfl ?_
          refine x_getG (zdm d_Question_asked_0 41 rfl) f_Question_68 rfl rfl (by decide) hsl rfl ?_
          refine x_iload_n (zdm d_Question_asked_0 42 rfl) rfl (n := 2) rfl ?_
          obtain ⟨g2, H⟩ := H
          refine x_iald (zdm d_Question_asked_0 43 rfl) rfl g2 ?_
          refine x_goto (tgt := 92) (zdm d_Question_asked_0 44 rfl) (by decide) ?_
          exact x_iret (zdm d_Question_asked_0 46 rfl) rfl H
  · have H := H.2 c
    refine x_iload_n (zdm d_Question_asked_0 2 rfl) rfl (n := 2) rfl ?_
    refine x_iflt (tgt := 34) (zdm d_Question_asked_0 3 rfl) (by decide) (fun c => ?_) (fun c => ?_)
    · have H := H.1 c
      refine x_iconst (zdm d_Question_asked_0 16 rfl) (zIl rfl) ?_
      exact zX.sub [0, 2] rfl H
    · have H := H.2 c
      refine x_iload_n (zdm d_Question_asked_0 4 rfl) rfl (n := 2) rfl ?_
      refine x_sipush (zdm d_Question_asked_0 5 rfl) (by decide) ?_
      refine x_icmpgt (tgt := 34) (zdm d_Question_asked_0 6 rfl) (by decide) (fun c => ?_) (fun c => ?_)
      · have H := H.1 c
        refine x_iconst (zdm d_Question_asked_0 16 rfl) (zIl rfl) ?_
        exact zX.sub [0, 2] rfl H
      · have H := H.2 c
        refine x_iload_n (zdm d_Question_asked_0 7 rfl) rfl (n := 2) rfl ?_
        refine x_sipush (zdm d_Question_asked_0 8 rfl) (by decide) ?_
        refine x_aload_n (zdm d_Question_asked_0 9 rfl) rfl (n := 0) rfl ?_
        refine x_getG (zdm d_Question_asked_0 10 rfl) f_Question_9 rfl rfl (by decide) hsl rfl ?_
        refine x_getf (zdm d_Question_asked_0 11 rfl) f_Question_74 rfl rfl ?_
        obtain ⟨g3, H⟩ := H
        refine x_isub (zdm d_Question_asked_0 12 rfl) g3 ?_
        refine x_icmpgt (tgt := 34) (zdm d_Question_asked_0 13 rfl) (by decide) (fun c => ?_) (fun c => ?_)
        · have H := H.1 c
          refine x_iconst (zdm d_Question_asked_0 16 rfl) (zIl rfl) ?_
          exact zX.sub [0, 2] rfl H
        · have H := H.2 c
          refine x_iconst (zdm d_Question_asked_0 14 rfl) (zIl rfl) ?_
          refine x_goto (tgt := 35) (zdm d_Question_asked_0 15 rfl) (by decide) ?_
          exact zX.sub [0, 2] rfl H
