set_option maxRecDepth 20000 in
set_option maxHeartbeats 4000000 in
theorem E_Md_isIn {G : zG} {h sl : Nat} (hsl : 2 ≤ sl) {l0 l2 l4 : Int} {M : zM} {Q : Int → zM → Prop} (H : (l0 < l2 → Q 0 M) ∧ (¬ l0 < l2 → (l4 < l0 → Q 0 M) ∧ (¬ l4 < l0 → Q 1 M))) : zCt G h sl 0 0 y_Md_isIn [(1, l0), (1, l2), (1, l4)] M Q := by
  refine zCt.of (by decide +kernel) (Nat.le_of_ble_eq_true rfl) ?_
  refine x_lload_n (zdm d_Md_isIn_0 0 rfl) rfl (n := 0) rfl ?_
  refine x_lload_n (zdm d_Md_isIn_0 1 rfl) rfl (n := 1) rfl ?_
  refine x_lcmp_lt (tgt := 17) (zdm d_Md_isIn_0 2 rfl) (zdm d_Md_isIn_0 3 rfl) (by decide) (fun c => ?_) (fun c => ?_)
  · have H := H.1 c
    refine x_iconst (zdm d_Md_isIn_0 10 rfl) (zIl rfl) ?_
    exact x_ireturn (zdm d_Md_isIn_0 11 rfl) (ty := .boolean) rfl (by decide) (Or.inl rfl) H
  · have H := H.2 c
    refine x_lload_n (zdm d_Md_isIn_0 4 rfl) rfl (n := 0) rfl ?_
    refine x_lload (zdm d_Md_isIn_0 5 rfl) (n := 2) rfl ?_
    refine x_lcmp_gt (tgt := 17) (zdm d_Md_isIn_0 6 rfl) (zdm d_Md_isIn_0 7 rfl) (by decide) (fun c => ?_) (fun c => ?_)
    · have H := H.1 c
      refine x_iconst (zdm d_Md_isIn_0 10 rfl) (zIl rfl) ?_
      exact x_ireturn (zdm d_Md_isIn_0 11 rfl) (ty := .boolean) rfl (by decide) (Or.inl rfl) H
    · have H := H.2 c
      refine x_iconst (zdm d_Md_isIn_0 8 rfl) (zIl rfl) ?_
      refine x_goto (tgt := 18) (zdm d_Md_isIn_0 9 rfl) (by decide) ?_
      exact x_ireturn (zdm d_Md_isIn_0 11 rfl) (ty := .boolean) rfl (by decide) (Or.inr rfl) H
set_option maxRecDepth 20000 in
set_option maxHeartbeats 4000000 in
theorem B_Md_feed_81 {G : zG} {h sl : Nat} (hsl : 2 ≤ sl) {u : Nat × Nat × Nat × Nat} {l1 l2 l3 l4 l5 l6 s0 : Int} {M : zM} {Q : Int → zM → Prop} (H : (zI (3 - (Int.tmod l6 4))) ∧ ((zI (8 * (3 - (Int.tmod l6 4)))) ∧ ((0 ≤ (M 125 1) ∧ (M 125 1) < 1600) ∧ ((zI (((zwr M 126 (M 125 1) (zand (zshr s0 (8 * (3 - (Int.tmod l6 4)))) 255)) 125 1) + 1)) ∧ ((zI (l6 + 1)) ∧ (zX G (y_Md_feed, h, sl) u 28 [(0, (2, 125)), (1, (0, l1)), (2, (0, l2)), (3, (0, l3)), (4, (0, l4)), (5, (0, l5)), (6, (0, (l6 + 1)))] [] (zwr (zwr M 126 (M 125 1) (zand (zshr s0 (8 * (3 - (Int.tmod l6 4)))) 255)) 125 1 (((zwr M 126 (M 125 1) (zand (zshr s0 (8 * (3 - (Int.tmod l6 4)))) 255)) 125 1) + 1)) Q)))))) : zX G (y_Md_feed, h, sl) u 81 [(0, (2, 125)), (1, (0, l1)), (2, (0, l2)), (3, (0, l3)), (4, (0, l4)), (5, (0, l5)), (6, (0, l6))] [(0, s0)] M Q := by
  refine x_istore (zdm d_Md_feed_0 42 rfl) (zlt rfl) rfl ?_
  refine x_aload_n (zdm d_Md_feed_0 43 rfl) rfl (n := 1) rfl ?_
  refine x_getG (zdm d_Md_feed_0 44 rfl) f_Md_7 rfl rfl (by decide) hsl rfl ?_
  refine x_aload_n (zdm d_Md_feed_0 45 rfl) rfl (n := 1) rfl ?_
  refine x_getf (zdm d_Md_feed_0 46 rfl) f_Md_234 rfl rfl ?_
  refine x_iload (zdm d_Md_feed_0 47 rfl) (n := 0) rfl ?_
  refine x_bipush (zdm d_Md_feed_0 48 rfl) (by decide) ?_
  refine x_iconst (zdm d_Md_feed_0 49 rfl) (zIl rfl) ?_
  refine x_iload (zdm d_Md_feed_0 50 rfl) (n := 7) rfl ?_
  refine x_iconst (zdm d_Md_feed_0 51 rfl) (zIl rfl) ?_
  refine x_irem (zdm d_Md_feed_0 52 rfl) (by decide) ?_
  obtain ⟨g1, H⟩ := H
  refine x_isub (zdm d_Md_feed_0 53 rfl) g1 ?_
  obtain ⟨g2, H⟩ := H
  refine x_imul (zdm d_Md_feed_0 54 rfl) g2 ?_
  refine x_ishr (zdm d_Md_feed_0 55 rfl) ?_
  refine x_sipush (zdm d_Md_feed_0 56 rfl) (by decide) ?_
  refine x_iand (zdm d_Md_feed_0 57 rfl) ?_
  obtain ⟨g3, H⟩ := H
  refine x_iast (zdm d_Md_feed_0 58 rfl) rfl g3 ?_
  refine x_aload_n (zdm d_Md_feed_0 59 rfl) rfl (n := 1) rfl ?_
  refine x_dup (zdm d_Md_feed_1 0 rfl) z2n1 ?_
  refine x_getf (zdm d_Md_feed_1 1 rfl) f_Md_234 rfl rfl ?_
  refine x_iconst (zdm d_Md_feed_1 2 rfl) (zIl rfl) ?_
  obtain ⟨g4, H⟩ := H
  refine x_iadd (zdm d_Md_feed_1 3 rfl) g4 ?_
  refine x_putf (zdm d_Md_feed_1 4 rfl) f_Md_234 rfl ⟨rfl, trivial⟩ (Or.inl rfl) ?_
  obtain ⟨g5, H⟩ := H
  refine x_iinc (zdm d_Md_feed_1 5 rfl) (n := 7) rfl g5 (zlt rfl) rfl ?_
  refine x_goto (tgt := 28) (zdm d_Md_feed_1 6 rfl) (by decide) ?_
  exact zX.sub [2, 3, 4, 5, 6, 7, 0] rfl H
set_option maxRecDepth 20000 in
set_option maxHeartbeats 4000000 in
theorem B_Md_feed_28 {G : zG} {h sl : Nat} (hsl : 2 ≤ sl) {u : Nat × Nat × Nat × Nat} {l1 l2 l3 l4 l5 l6 : Int} {M : zM} {Q : Int → zM → Prop} (H : (20 ≤ l6 → Q (M 125 1) M) ∧ (¬ 20 ≤ l6 → (4 ≤ l6 → (8 ≤ l6 → (12 ≤ l6 → (16 ≤ l6 → zX G (y_Md_feed, h, sl) u 81 [(0, (2, 125)), (1, (0, l1)), (2, (0, l2)), (3, (0, l3)), (4, (0, l4)), (5, (0, l5)), (6, (0, l6))] [(0, l5)] M Q) ∧ (¬ 16 ≤ l6 → zX G (y_Md_feed, h, sl) u 81 [(0, (2, 125)), (1, (0, l1)), (2, (0, l2)), (3, (0, l3)), (4, (0, l4)), (5, (0, l5)), (6, (0, l6))] [(0, l4)] M Q)) ∧ (¬ 12 ≤ l6 → zX G (y_Md_feed, h, sl) u 81 [(0, (2, 125)), (1, (0, l1)), (2, (0, l2)), (3, (0, l3)), (4, (0, l4)), (5, (0, l5)), (6, (0, l6))] [(0, l3)] M Q)) ∧ (¬ 8 ≤ l6 → zX G (y_Md_feed, h, sl) u 81 [(0, (2, 125)), (1, (0, l1)), (2, (0, l2)), (3, (0, l3)), (4, (0, l4)), (5, (0, l5)), (6, (0, l6))] [(0, l2)] M Q)) ∧ (¬ 4 ≤ l6 → zX G (y_Md_feed, h, sl) u 81 [(0, (2, 125)), (1, (0, l1)), (2, (0, l2)), (3, (0, l3)), (4, (0, l4)), (5, (0, l5)), (6, (0, l6))] [(0, l1)] M Q))) : zX G (y_Md_feed, h, sl) u 28 [(0, (2, 125)), (1, (0, l1)), (2, (0, l2)), (3, (0, l3)), (4, (0, l4)), (5, (0, l5)), (6, (0, l6))] [] M Q := by
  refine x_iload (zdm d_Md_feed_0 18 rfl) (n := 6) rfl ?_
  refine x_bipush (zdm d_Md_feed_0 19 rfl) (by decide) ?_
  refine x_icmpge (tgt := 124) (zdm d_Md_feed_0 20 rfl) (by decide) (fun c => ?_) (fun c => ?_)
  · have H := H.1 c
    refine x_aload_n (zdm d_Md_feed_1 7 rfl) rfl (n := 0) rfl ?_
    refine x_getf (zdm d_Md_feed_1 8 rfl) f_Md_234 rfl rfl ?_
    exact x_iret (zdm d_Md_feed_1 9 rfl) rfl H
  · have H := H.2 c
    refine x_iload (zdm d_Md_feed_0 21 rfl) (n := 6) rfl ?_
    refine x_iconst (zdm d_Md_feed_0 22 rfl) (zIl rfl) ?_
    refine x_icmpge (tgt := 45) (zdm d_Md_feed_0 23 rfl) (by decide) (fun c => ?_) (fun c => ?_)
    · have H := H.1 c
      refine x_iload (zdm d_Md_feed_0 26 rfl) (n := 6) rfl ?_
      refine x_bipush (zdm d_Md_feed_0 27 rfl) (by decide) ?_
      refine x_icmpge (tgt := 56) (zdm d_Md_feed_0 28 rfl) (by decide) (fun c => ?_) (fun c => ?_)
      · have H := H.1 c
        refine x_iload (zdm d_Md_feed_0 31 rfl) (n := 6) rfl ?_
        refine x_bipush (zdm d_Md_feed_0 32 rfl) (by decide) ?_
        refine x_icmpge (tgt := 67) (zdm d_Md_feed_0 33 rfl) (by decide) (fun c => ?_) (fun c => ?_)
        · have H := H.1 c
          refine x_iload (zdm d_Md_feed_0 36 rfl) (n := 6) rfl ?_
          refine x_bipush (zdm d_Md_feed_0 37 rfl) (by decide) ?_
          refine x_icmpge (tgt := 79) (zdm d_Md_feed_0 38 rfl) (by decide) (fun c => ?_) (fun c => ?_)
          · have H := H.1 c
            refine x_iload (zdm d_Md_feed_0 41 rfl) (n := 5) rfl ?_
            exact H
          · have H := H.2 c
            refine x_iload (zdm d_Md_feed_0 39 rfl) (n := 4) rfl ?_
            refine x_goto (tgt := 81) (zdm d_Md_feed_0 40 rfl) (by decide) ?_
            exact H
        · have H := H.2 c
          refine x_iload_n (zdm d_Md_feed_0 34 rfl) rfl (n := 3) rfl ?_
          refine x_goto (tgt := 81) (zdm d_Md_feed_0 35 rfl) (by decide) ?_
          exact H
      · have H := H.2 c
        refine x_iload_n (zdm d_Md_feed_0 29 rfl) rfl (n := 2) rfl ?_
        refine x_goto (tgt := 81) (zdm d_Md_feed_0 30 rfl) (by decide) ?_
        exact H
    · have H := H.2 c
      refine x_iload_n (zdm d_Md_feed_0 24 rfl) rfl (n := 1) rfl ?_
      refine x_goto (tgt := 81) (zdm d_Md_feed_0 25 rfl) (by decide) ?_
      exact H
set_option maxRecDepth 20000 in
set_option maxHeartbeats 4000000 in
theorem E_Md_feed {G : zG} {h sl : Nat} (hsl : 2 ≤ sl) {l1 l2 l3 l4 l5 : Int} {M : zM} {Q : Int → zM → Prop} (H : (zI ((M 125 1) + 20)) ∧ ((((M 125 1) + 20) ≤ 1600 → zX G (y_Md_feed, h, sl) (0, 0, 0, 0) 28 [(0, (2, 125)), (1, (0, l1)), (2, (0, l2)), (3, (0, l3)), (4, (0, l4)), (5, (0, l5)), (6, (0, 0))] [] M Q) ∧ (¬ ((M 125 1) + 20) ≤ 1600 → (zI ((M 127 0) + 1)) ∧ (Q (-1) (zwr M 127 0 ((M 127 0) + 1)))))) : zCt G h sl 0 0 y_Md_feed [(2, 125), (0, l1), (0, l2), (0, l3), (0, l4), (0, l5)] M Q := by
  refine zCt.of (by decide +kernel) (Nat.le_of_ble_eq_true rfl) ?_
  refine x_aload_n (zdm d_Md_feed_0 0 rfl) rfl (n := 0) rfl ?_
  refine x_getf (zdm d_Md_feed_0 1 rfl) f_Md_234 rfl rfl ?_
  refine x_bipush (zdm d_Md_feed_0 2 rfl) (by decide) ?_
  obtain ⟨g1, H⟩ := H
  refine x_iadd (zdm d_Md_feed_0 3 rfl) g1 ?_
  refine x_sipush (zdm d_Md_feed_0 4 rfl) (by decide) ?_
  refine x_icmple (tgt := 25) (zdm d_Md_feed_0 5 rfl) (by decide) (fun c => ?_) (fun c => ?_)
  · have H := H.1 c
    refine x_iconst (zdm d_Md_feed_0 16 rfl) (zIl rfl) ?_
    refine x_istore (zdm d_Md_feed_0 17 rfl) (zlt rfl) rfl ?_
    exact zX.sub [1, 2, 3, 4, 5, 6, 0] rfl H
  · have H := H.2 c
    refine x_aload_n (zdm d_Md_feed_0 6 rfl) rfl (n := 0) rfl ?_
    refine x_getG (zdm d_Md_feed_0 7 rfl) f_Md_17 rfl rfl (by decide) hsl rfl ?_
    refine x_iconst (zdm d_Md_feed_0 8 rfl) (zIl rfl) ?_
    refine x_dup2 (zdm d_Md_feed_0 9 rfl) z0n1 z2n1 ?_
    refine x_iald (zdm d_Md_feed_0 10 rfl) rfl ⟨by decide, by decide⟩ ?_
    refine x_iconst (zdm d_Md_feed_0 11 rfl) (zIl rfl) ?_
    obtain ⟨g2, H⟩ := H
    refine x_iadd (zdm d_Md_feed_0 12 rfl) g2 ?_
    refine x_iast (zdm d_Md_feed_0 13 rfl) rfl ⟨by decide, by decide⟩ ?_
    refine x_iconst (zdm d_Md_feed_0 14 rfl) (zIl rfl) ?_
    exact x_iret (zdm d_Md_feed_0 15 rfl) rfl H
set_option maxRecDepth 20000 in
set_option maxHeartbeats 4000000 in
theorem B_Md_end_12 {G : zG} {h sl : Nat} (hsl : 2 ≤ sl) {u : Nat × Nat × Nat × Nat} {M : zM} {Q : Int → zM → Prop} (H : (zI ((M 127 0) + 1)) ∧ (Q 0 (zwr M 127 0 ((M 127 0) + 1)))) : zX G (y_Md_end, h, sl) u 12 [(0, (2, 125))] [] M Q := by
  refine x_aload_n (zdm d_Md_end_0 6 rfl) rfl (n := 0) rfl ?_
  refine x_getG (zdm d_Md_end_0 7 rfl) f_Md_17 rfl rfl (by decide) hsl rfl ?_
  refine x_iconst (zdm d_Md_end_0 8 rfl) (zIl rfl) ?_
  refine x_dup2 (zdm d_Md_end_0 9 rfl) z0n1 z2n1 ?_
  refine x_iald (zdm d_Md_end_0 10 rfl) rfl ⟨by decide, by decide⟩ ?_
  refine x_iconst (zdm d_Md_end_0 11 rfl) (zIl rfl) ?_
  obtain ⟨g1, H⟩ := H
  refine x_iadd (zdm d_Md_end_0 12 rfl) g1 ?_
  refine x_iast (zdm d_Md_end_0 13 rfl) rfl ⟨by decide, by decide⟩ ?_
  refine x_iconst (zdm d_Md_end_0 14 rfl) (zIl rfl) ?_
  exact x_ireturn (zdm d_Md_end_0 15 rfl) (ty := .boolean) rfl (by decide) (Or.inl rfl) H
set_option maxRecDepth 20000 in
set_option maxHeartbeats 4000000 in
theorem E_Md_end {G : zG} {h sl : Nat} (hsl : 2 ≤ sl) {l1 : Int} {M : zM} {Q : Int → zM → Prop} (H : (l1 < 0 → zX G (y_Md_end, h, sl) (0, 0, 0, 0) 12 [(0, (2, 125))] [] M Q) ∧ (¬ l1 < 0 → (l1 ≤ (M 125 1) → Q 1 (zwr M 125 1 l1)) ∧ (¬ l1 ≤ (M 125 1) → zX G (y_Md_end, h, sl) (0, 0, 0, 0) 12 [(0, (2, 125))] [] M Q))) : zCt G h sl 0 0 y_Md_end [(2, 125), (0, l1)] M Q := by
  refine zCt.of (by decide +kernel) (Nat.le_of_ble_eq_true rfl) ?_
  refine x_iload_n (zdm d_Md_end_0 0 rfl) rfl (n := 1) rfl ?_
  refine x_iflt (tgt := 12) (zdm d_Md_end_0 1 rfl) (by decide) (fun c => ?_) (fun c => ?_)
  · have H := H.1 c
    exact zX.sub [0] rfl H
  · have H := H.2 c
    refine x_iload_n (zdm d_Md_end_0 2 rfl) rfl (n := 1) rfl ?_
    refine x_aload_n (zdm d_Md_end_0 3 rfl) rfl (n := 0) rfl ?_
    refine x_getf (zdm d_Md_end_0 4 rfl) f_Md_234 rfl rfl ?_
    refine x_icmple (tgt := 24) (zdm d_Md_end_0 5 rfl) (by decide) (fun c => ?_) (fun c => ?_)
    · have H := H.1 c
      refine x_aload_n (zdm d_Md_end_0 16 rfl) rfl (n := 0) rfl ?_
      refine x_iload_n (zdm d_Md_end_0 17 rfl) rfl (n := 1) rfl ?_
      refine x_putf (zdm d_Md_end_0 18 rfl) f_Md_234 rfl ⟨rfl, trivial⟩ (Or.inl rfl) ?_
      refine x_iconst (zdm d_Md_end_0 19 rfl) (zIl rfl) ?_
      exact x_ireturn (zdm d_Md_end_0 20 rfl) (ty := .boolean) rfl (by decide) (Or.inr rfl) H
    · have H := H.2 c
      exact zX.sub [0] rfl H
set_option maxRecDepth 20000 in
set_option maxHeartbeats 4000000 in
theorem E_Md_fail {G : zG} {h sl : Nat} (hsl : 2 ≤ sl) {l1 l2 : Int} {M : zM} {Q : Int → zM → Prop} (H : ((M 125 5) = 0 → Q 0 (zwr (zwr M 125 5 l1) 125 6 l2)) ∧ (¬ (M 125 5) = 0 → Q 0 M)) : zCt G h sl 0 0 y_Md_fail [(2, 125), (0, l1), (0, l2)] M Q := by
  refine zCt.of (by decide +kernel) (Nat.le_of_ble_eq_true rfl) ?_
  refine x_aload_n (zdm d_Md_fail_0 0 rfl) rfl (n := 0) rfl ?_
  refine x_getf (zdm d_Md_fail_0 1 rfl) f_Md_237 rfl rfl ?_
  refine x_ifeq (tgt := 8) (zdm d_Md_fail_0 2 rfl) (by decide) (fun c => ?_) (fun c => ?_)
  · have H := H.1 c
    refine x_aload_n (zdm d_Md_fail_0 4 rfl) rfl (n := 0) rfl ?_
    refine x_iload_n (zdm d_Md_fail_0 5 rfl) rfl (n := 1) rfl ?_
    refine x_putf (zdm d_Md_fail_0 6 rfl) f_Md_237 rfl ⟨rfl, trivial⟩ (Or.inl rfl) ?_
    refine x_aload_n (zdm d_Md_fail_0 7 rfl) rfl (n := 0) rfl ?_
    refine x_iload_n (zdm d_Md_fail_0 8 rfl) rfl (n := 2) rfl ?_
    refine x_putf (zdm d_Md_fail_0 9 rfl) f_Md_240 rfl ⟨rfl, trivial⟩ (Or.inl rfl) ?_
    exact x_return (zdm d_Md_fail_0 10 rfl) rfl H
  · have H := H.2 c
    exact x_return (zdm d_Md_fail_0 3 rfl) rfl H
set_option maxRecDepth 20000 in
set_option maxHeartbeats 4000000 in
theorem E_Md_isLetter {G : zG} {h sl : Nat} (hsl : 2 ≤ sl) {l0 : Int} {M : zM} {Q : Int → zM → Prop} (H : (l0 < 97 → Q 0 M) ∧ (¬ l0 < 97 → (122 < l0 → Q 0 M) ∧ (¬ 122 < l0 → Q 1 M))) : zCt G h sl 0 0 y_Md_isLetter [(0, l0)] M Q := by
  refine zCt.of (by decide +kernel) (Nat.le_of_ble_eq_true rfl) ?_
  refine x_iload_n (zdm d_Md_isLetter_0 0 rfl) rfl (n := 0) rfl ?_
  refine x_bipush (zdm d_Md_isLetter_0 1 rfl) (by decide) ?_
  refine x_icmplt (tgt := 16) (zdm d_Md_isLetter_0 2 rfl) (by decide) (fun c => ?_) (fun c => ?_)
  · have H := H.1 c
    refine x_iconst (zdm d_Md_isLetter_0 8 rfl) (zIl rfl) ?_
    exact x_ireturn (zdm d_Md_isLetter_0 9 rfl) (ty := .boolean) rfl (by decide) (Or.inl rfl) H
  · have H := H.2 c
    refine x_iload_n (zdm d_Md_isLetter_0 3 rfl) rfl (n := 0) rfl ?_
    refine x_bipush (zdm d_Md_isLetter_0 4 rfl) (by decide) ?_
    refine x_icmpgt (tgt := 16) (zdm d_Md_isLetter_0 5 rfl) (by decide) (fun c => ?_) (fun c => ?_)
    · have H := H.1 c
      refine x_iconst (zdm d_Md_isLetter_0 8 rfl) (zIl rfl) ?_
      exact x_ireturn (zdm d_Md_isLetter_0 9 rfl) (ty := .boolean) rfl (by decide) (Or.inl rfl) H
    · have H := H.2 c
      refine x_iconst (zdm d_Md_isLetter_0 6 rfl) (zIl rfl) ?_
      refine x_goto (tgt := 17) (zdm d_Md_isLetter_0 7 rfl) (by decide) ?_
      exact x_ireturn (zdm d_Md_isLetter_0 9 rfl) (ty := .boolean) rfl (by decide) (Or.inr rfl) H
set_option maxRecDepth 20000 in
set_option maxHeartbeats 4000000 in
theorem E_Md_isDigit {G : zG} {h sl : Nat} (hsl : 2 ≤ sl) {l0 : Int} {M : zM} {Q : Int → zM → Prop} (H : (l0 < 48 → Q 0 M) ∧ (¬ l0 < 48 → (57 < l0 → Q 0 M) ∧ (¬ 57 < l0 → Q 1 M))) : zCt G h sl 0 0 y_Md_isDigit [(0, l0)] M Q := by
  refine zCt.of (by decide +kernel) (Nat.le_of_ble_eq_true rfl) ?_
  refine x_iload_n (zdm d_Md_isDigit_0 0 rfl) rfl (n := 0) rfl ?_
  refine x_bipush (zdm d_Md_isDigit_0 1 rfl) (by decide) ?_
  refine x_icmplt (tgt := 16) (zdm d_Md_isDigit_0 2 rfl) (by decide) (fun c => ?_) (fun c => ?_)
  · have H := H.1 c
    refine x_iconst (zdm d_Md_isDigit_0 8 rfl) (zIl rfl) ?_
    exact x_ireturn (zdm d_Md_isDigit_0 9 rfl) (ty := .boolean) rfl (by decide) (Or.inl rfl) H
  · have H := H.2 c
    refine x_iload_n (zdm d_Md_isDigit_0 3 rfl) rfl (n := 0) rfl ?_
    refine x_bipush (zdm d_Md_isDigit_0 4 rfl) (by decide) ?_
    refine x_icmpgt (tgt := 16) (zdm d_Md_isDigit_0 5 rfl) (by decide) (fun c => ?_) (fun c => ?_)
    · have H := H.1 c
      refine x_iconst (zdm d_Md_isDigit_0 8 rfl) (zIl rfl) ?_
      exact x_ireturn (zdm d_Md_isDigit_0 9 rfl) (ty := .boolean) rfl (by decide) (Or.inl rfl) H
    · have H := H.2 c
      refine x_iconst (zdm d_Md_isDigit_0 6 rfl) (zIl rfl) ?_
      refine x_goto (tgt := 17) (zdm d_Md_isDigit_0 7 rfl) (by decide) ?_
      exact x_ireturn (zdm d_Md_isDigit_0 9 rfl) (ty := .boolean) rfl (by decide) (Or.inr rfl) H
set_option maxRecDepth 20000 in
set_option maxHeartbeats 4000000 in
theorem B_Md_look_52 {G : zG} {h sl : Nat} (hsl : 2 ≤ sl) {u : Nat × Nat × Nat × Nat} {M : zM} {Q : Int → zM → Prop} (H : ((M 125 3) ≤ (M 125 2) → Q (-1) M) ∧ (¬ (M 125 3) ≤ (M 125 2) → (0 ≤ (M 125 2) ∧ (M 125 2) < 1600) ∧ (Q (M 126 (M 125 2)) M))) : zX G (y_Md_look, h, sl) u 52 [(0, (2, 125))] [] M Q := by
  refine x_aload_n (zdm d_Md_look_0 26 rfl) rfl (n := 0) rfl ?_
  refine x_getf (zdm d_Md_look_0 27 rfl) f_Md_243 rfl rfl ?_
  refine x_aload_n (zdm d_Md_look_0 28 rfl) rfl (n := 0) rfl ?_
  refine x_getf (zdm d_Md_look_0 29 rfl) f_Md_246 rfl rfl ?_
  refine x_icmpge (tgt := 75) (zdm d_Md_look_0 30 rfl) (by decide) (fun c => ?_) (fun c => ?_)
  · have H := H.1 c
    refine x_iconst (zdm d_Md_look_0 37 rfl) (zIl rfl) ?_
    exact x_iret (zdm d_Md_look_0 38 rfl) rfl H
  · have H := H.2 c
    refine x_aload_n (zdm d_Md_look_0 31 rfl) rfl (n := 0) rfl ?_
    refine x_getG (zdm d_Md_look_0 32 rfl) f_Md_7 rfl rfl (by decide) hsl rfl ?_
    refine x_aload_n (zdm d_Md_look_0 33 rfl) rfl (n := 0) rfl ?_
    refine x_getf (zdm d_Md_look_0 34 rfl) f_Md_243 rfl rfl ?_
    obtain ⟨g1, H⟩ := H
    refine x_iald (zdm d_Md_look_0 35 rfl) rfl g1 ?_
    refine x_goto (tgt := 76) (zdm d_Md_look_0 36 rfl) (by decide) ?_
    exact x_iret (zdm d_Md_look_0 38 rfl) rfl H
set_option maxRecDepth 20000 in
set_option maxHeartbeats 4000000 in
theorem B_Md_look_0 {G : zG} {h sl : Nat} (hsl : 2 ≤ sl) {u : Nat × Nat × Nat × Nat} {M : zM} {Q : Int → zM → Prop} (H : ((M 125 3) ≤ (M 125 2) → zX G (y_Md_look, h, sl) u 52 [(0, (2, 125))] [] M Q) ∧ (¬ (M 125 3) ≤ (M 125 2) → (0 ≤ (M 125 2) ∧ (M 125 2) < 1600) ∧ (((M 126 (M 125 2)) = 10 → (zI ((M 125 2) + 1)) ∧ (zX G (y_Md_look, h, sl) u 0 [(0, (2, 125))] [] (zwr M 125 2 ((M 125 2) + 1)) Q)) ∧ (¬ (M 126 (M 125 2)) = 10 → (¬ (M 126 (M 125 2)) = 32 → zX G (y_Md_look, h, sl) u 52 [(0, (2, 125))] [] M Q) ∧ (¬ (¬ (M 126 (M 125 2)) = 32) → (zI ((M 125 2) + 1)) ∧ (zX G (y_Md_look, h, sl) u 0 [(0, (2, 125))] [] (zwr M 125 2 ((M 125 2) + 1)) Q)))))) : zX G (y_Md_look, h, sl) u 0 [(0, (2, 125))] [] M Q := by
  refine x_aload_n (zdm d_Md_look_0 0 rfl) rfl (n := 0) rfl ?_
  refine x_getf (zdm d_Md_look_0 1 rfl) f_Md_243 rfl rfl ?_
  refine x_aload_n (zdm d_Md_look_0 2 rfl) rfl (n := 0) rfl ?_
  refine x_getf (zdm d_Md_look_0 3 rfl) f_Md_246 rfl rfl ?_
  refine x_icmpge (tgt := 52) (zdm d_Md_look_0 4 rfl) (by decide) (fun c => ?_) (fun c => ?_)
  · have H := H.1 c
    exact H
  · have H := H.2 c
    refine x_aload_n (zdm d_Md_look_0 5 rfl) rfl (n := 0) rfl ?_
    refine x_getG (zdm d_Md_look_0 6 rfl) f_Md_7 rfl rfl (by decide) hsl rfl ?_
    refine x_aload_n (zdm d_Md_look_0 7 rfl) rfl (n := 0) rfl ?_
    refine x_getf (zdm d_Md_look_0 8 rfl) f_Md_243 rfl rfl ?_
    obtain ⟨g1, H⟩ := H
    refine x_iald (zdm d_Md_look_0 9 rfl) rfl g1 ?_
    refine x_bipush (zdm d_Md_look_0 10 rfl) (by decide) ?_
    refine x_icmpeq (tgt := 39) (zdm d_Md_look_0 11 rfl) (by decide) (fun c => ?_) (fun c => ?_)
    · have H := H.1 c
      refine x_aload_n (zdm d_Md_look_0 19 rfl) rfl (n := 0) rfl ?_
      refine x_dup (zdm d_Md_look_0 20 rfl) z2n1 ?_
      refine x_getf (zdm d_Md_look_0 21 rfl) f_Md_243 rfl rfl ?_
      refine x_iconst (zdm d_Md_look_0 22 rfl) (zIl rfl) ?_
      obtain ⟨g2, H⟩ := H
      refine x_iadd (zdm d_Md_look_0 23 rfl) g2 ?_
      refine x_putf (zdm d_Md_look_0 24 rfl) f_Md_243 rfl ⟨rfl, trivial⟩ (Or.inl rfl) ?_
      refine x_goto (tgt := 0) (zdm d_Md_look_0 25 rfl) (by decide) ?_
      exact H
    · have H := H.2 c
      refine x_aload_n (zdm d_Md_look_0 12 rfl) rfl (n := 0) rfl ?_
      refine x_getG (zdm d_Md_look_0 13 rfl) f_Md_7 rfl rfl (by decide) hsl rfl ?_
      refine x_aload_n (zdm d_Md_look_0 14 rfl) rfl (n := 0) rfl ?_
      refine x_getf (zdm d_Md_look_0 15 rfl) f_Md_243 rfl rfl ?_
      refine x_iald (zdm d_Md_look_0 16 rfl) rfl g1 ?_
      refine x_bipush (zdm d_Md_look_0 17 rfl) (by decide) ?_
      refine x_icmpne (tgt := 52) (zdm d_Md_look_0 18 rfl) (by decide) (fun c => ?_) (fun c => ?_)
      · have H := H.1 c
        exact H
      · have H := H.2 c
        refine x_aload_n (zdm d_Md_look_0 19 rfl) rfl (n := 0) rfl ?_
        refine x_dup (zdm d_Md_look_0 20 rfl) z2n1 ?_
        refine x_getf (zdm d_Md_look_0 21 rfl) f_Md_243 rfl rfl ?_
        refine x_iconst (zdm d_Md_look_0 22 rfl) (zIl rfl) ?_
        obtain ⟨g3, H⟩ := H
        refine x_iadd (zdm d_Md_look_0 23 rfl) g3 ?_
        refine x_putf (zdm d_Md_look_0 24 rfl) f_Md_243 rfl ⟨rfl, trivial⟩ (Or.inl rfl) ?_
        refine x_goto (tgt := 0) (zdm d_Md_look_0 25 rfl) (by decide) ?_
        exact H
set_option maxRecDepth 20000 in
set_option maxHeartbeats 4000000 in
theorem E_Md_look {G : zG} {h sl : Nat} (hsl : 2 ≤ sl) {M : zM} {Q : Int → zM → Prop} (H : ((M 125 3) ≤ (M 125 2) → zX G (y_Md_look, h, sl) (0, 0, 0, 0) 52 [(0, (2, 125))] [] M Q) ∧ (¬ (M 125 3) ≤ (M 125 2) → (0 ≤ (M 125 2) ∧ (M 125 2) < 1600) ∧ (((M 126 (M 125 2)) = 10 → (zI ((M 125 2) + 1)) ∧ (zX G (y_Md_look, h, sl) (0, 0, 0, 0) 0 [(0, (2, 125))] [] (zwr M 125 2 ((M 125 2) + 1)) Q)) ∧ (¬ (M 126 (M 125 2)) = 10 → (¬ (M 126 (M 125 2)) = 32 → zX G (y_Md_look, h, sl) (0, 0, 0, 0) 52 [(0, (2, 125))] [] M Q) ∧ (¬ (¬ (M 126 (M 125 2)) = 32) → (zI ((M 125 2) + 1)) ∧ (zX G (y_Md_look, h, sl) (0, 0, 0, 0) 0 [(0, (2, 125))] [] (zwr M 125 2 ((M 125 2) + 1)) Q)))))) : zCt G h sl 0 0 y_Md_look [(2, 125)] M Q := by
  refine zCt.of (by decide +kernel) (Nat.le_of_ble_eq_true rfl) ?_
  refine x_aload_n (zdm d_Md_look_0 0 rfl) rfl (n := 0) rfl ?_
  refine x_getf (zdm d_Md_look_0 1 rfl) f_Md_243 rfl rfl ?_
  refine x_aload_n (zdm d_Md_look_0 2 rfl) rfl (n := 0) rfl ?_
  refine x_getf (zdm d_Md_look_0 3 rfl) f_Md_246 rfl rfl ?_
  refine x_icmpge (tgt := 52) (zdm d_Md_look_0 4 rfl) (by decide) (fun c => ?_) (fun c => ?_)
  · have H := H.1 c
    exact H
  · have H := H.2 c
    refine x_aload_n (zdm d_Md_look_0 5 rfl) rfl (n := 0) rfl ?_
    refine x_getG (zdm d_Md_look_0 6 rfl) f_Md_7 rfl rfl (by decide) hsl rfl ?_
    refine x_aload_n (zdm d_Md_look_0 7 rfl) rfl (n := 0) rfl ?_
    refine x_getf (zdm d_Md_look_0 8 rfl) f_Md_243 rfl rfl ?_
    obtain ⟨g1, H⟩ := H
    refine x_iald (zdm d_Md_look_0 9 rfl) rfl g1 ?_
    refine x_bipush (zdm d_Md_look_0 10 rfl) (by decide) ?_
    refine x_icmpeq (tgt := 39) (zdm d_Md_look_0 11 rfl) (by decide) (fun c => ?_) (fun c => ?_)
    · have H := H.1 c
      refine x_aload_n (zdm d_Md_look_0 19 rfl) rfl (n := 0) rfl ?_
      refine x_dup (zdm d_Md_look_0 20 rfl) z2n1 ?_
      refine x_getf (zdm d_Md_look_0 21 rfl) f_Md_243 rfl rfl ?_
      refine x_iconst (zdm d_Md_look_0 22 rfl) (zIl rfl) ?_
      obtain ⟨g2, H⟩ := H
      refine x_iadd (zdm d_Md_look_0 23 rfl) g2 ?_
      refine x_putf (zdm d_Md_look_0 24 rfl) f_Md_243 rfl ⟨rfl, trivial⟩ (Or.inl rfl) ?_
      refine x_goto (tgt := 0) (zdm d_Md_look_0 25 rfl) (by decide) ?_
      exact H
    · have H := H.2 c
      refine x_aload_n (zdm d_Md_look_0 12 rfl) rfl (n := 0) rfl ?_
      refine x_getG (zdm d_Md_look_0 13 rfl) f_Md_7 rfl rfl (by decide) hsl rfl ?_
      refine x_aload_n (zdm d_Md_look_0 14 rfl) rfl (n := 0) rfl ?_
      refine x_getf (zdm d_Md_look_0 15 rfl) f_Md_243 rfl rfl ?_
      refine x_iald (zdm d_Md_look_0 16 rfl) rfl g1 ?_
      refine x_bipush (zdm d_Md_look_0 17 rfl) (by decide) ?_
      refine x_icmpne (tgt := 52) (zdm d_Md_look_0 18 rfl) (by decide) (fun c => ?_) (fun c => ?_)
      · have H := H.1 c
        exact H
      · have H := H.2 c
        refine x_aload_n (zdm d_Md_look_0 19 rfl) rfl (n := 0) rfl ?_
        refine x_dup (zdm d_Md_look_0 20 rfl) z2n1 ?_
        refine x_getf (zdm d_Md_look_0 21 rfl) f_Md_243 rfl rfl ?_
        refine x_iconst (zdm d_Md_look_0 22 rfl) (zIl rfl) ?_
        obtain ⟨g3, H⟩ := H
        refine x_iadd (zdm d_Md_look_0 23 rfl) g3 ?_
        refine x_putf (zdm d_Md_look_0 24 rfl) f_Md_243 rfl ⟨rfl, trivial⟩ (Or.inl rfl) ?_
        refine x_goto (tgt := 0) (zdm d_Md_look_0 25 rfl) (by decide) ?_
        exact H
set_option maxRecDepth 20000 in
set_option maxHeartbeats 4000000 in
theorem B_Md_isHere_76 {G : zG} {h sl : Nat} (hsl : 2 ≤ sl) {u : Nat × Nat × Nat × Nat} {l1 l3 : Int} {M : zM} {Q : Int → zM → Prop} (H : ((zK l1).1 = 102) ∧ ((0 ≤ (zK l1).2 ∧ (zK l1).2 ≤ 100000) ∧ (((zK l1).2 ≤ l3 → Q 1 M) ∧ (¬ (zK l1).2 ≤ l3 → (zI ((M 125 2) + l3)) ∧ ((0 ≤ ((M 125 2) + l3) ∧ ((M 125 2) + l3) < 1600) ∧ ((0 ≤ l3 ∧ l3 < (zK l1).2) ∧ (((M 126 ((M 125 2) + l3)) = (zFn l1 l3) → (zI (l3 + 1)) ∧ (zX G (y_Md_isHere, h + 1, sl) u 76 [(0, (2, 125)), (1, (2, l1)), (3, (0, (l3 + 1)))] [] M Q)) ∧ (¬ (M 126 ((M 125 2) + l3)) = (zFn l1 l3) → Q 0 M)))))))) : zX G (y_Md_isHere, h + 1, sl) u 76 [(0, (2, 125)), (1, (2, l1)), (3, (0, l3))] [] M Q := by
  refine x_iload_n (zdm d_Md_isHere_0 40 rfl) rfl (n := 2) rfl ?_
  refine x_aload_n (zdm d_Md_isHere_0 41 rfl) rfl (n := 1) rfl ?_
  obtain ⟨g1, H⟩ := H
  obtain ⟨g2, H⟩ := H
  refine x_alen2 (zdm d_Md_isHere_0 42 rfl) (zKe g1) g2 ?_
  refine x_icmpge (tgt := 107) (zdm d_Md_isHere_0 43 rfl) (by decide) (fun c => ?_) (fun c => ?_)
  · have H := H.1 c
    refine x_iconst (zdm d_Md_isHere_0 59 rfl) (zIl rfl) ?_
    exact x_ireturn (zdm d_Md_isHere_1 0 rfl) (ty := .boolean) rfl (by decide) (Or.inr rfl) H
  · have H := H.2 c
    refine x_aload_n (zdm d_Md_isHere_0 44 rfl) rfl (n := 0) rfl ?_
    refine x_getG (zdm d_Md_isHere_0 45 rfl) f_Md_7 rfl rfl (by decide) hsl rfl ?_
    refine x_aload_n (zdm d_Md_isHere_0 46 rfl) rfl (n := 0) rfl ?_
    refine x_getf (zdm d_Md_isHere_0 47 rfl) f_Md_243 rfl rfl ?_
    refine x_iload_n (zdm d_Md_isHere_0 48 rfl) rfl (n := 2) rfl ?_
    obtain ⟨g3, H⟩ := H
    refine x_iadd (zdm d_Md_isHere_0 49 rfl) g3 ?_
    obtain ⟨g4, H⟩ := H
    refine x_iald (zdm d_Md_isHere_0 50 rfl) rfl g4 ?_
    refine x_aload_n (zdm d_Md_isHere_0 51 rfl) rfl (n := 1) rfl ?_
    refine x_iload_n (zdm d_Md_isHere_0 52 rfl) rfl (n := 2) rfl ?_
    obtain ⟨g5, H⟩ := H
    refine x_caldF (zdm d_Md_isHere_0 53 rfl) (zKe g1) g5 hsl ?_
    refine x_icmpeq (tgt := 101) (zdm d_Md_isHere_0 54 rfl) (by decide) (fun c => ?_) (fun c => ?_)
    · have H := H.1 c
      obtain ⟨g6, H⟩ := H
      refine x_iinc (zdm d_Md_isHere_0 57 rfl) (n := 2) rfl g6 (zlt rfl) rfl ?_
      refine x_goto (tgt := 76) (zdm d_Md_isHere_0 58 rfl) (by decide) ?_
      exact zX.sub [1, 2, 0] rfl H
    · have H := H.2 c
      refine x_iconst (zdm d_Md_isHere_0 55 rfl) (zIl rfl) ?_
      exact x_ireturn (zdm d_Md_isHere_0 56 rfl) (ty := .boolean) rfl (by decide) (Or.inl rfl) H
set_option maxRecDepth 20000 in
set_option maxHeartbeats 4000000 in
theorem B_Md_isHere_61 {G : zG} {h sl : Nat} (hsl : 2 ≤ sl) {u : Nat × Nat × Nat × Nat} {l1 l2 : Int} {M : zM} {Q : Int → zM → Prop} (H : (zI (l2 - (M 125 2))) ∧ (((zK l1).1 = 102) ∧ ((0 ≤ (zK l1).2 ∧ (zK l1).2 ≤ 100000) ∧ (((l2 - (M 125 2)) = (zK l1).2 → zX G (y_Md_isHere, h + 1, sl) u 76 [(0, (2, 125)), (1, (2, l1)), (3, (0, 0))] [] M Q) ∧ (¬ (l2 - (M 125 2)) = (zK l1).2 → Q 0 M))))) : zX G (y_Md_isHere, h + 1, sl) u 61 [(0, (2, 125)), (1, (2, l1)), (2, (0, l2))] [] M Q := by
  refine x_iload_n (zdm d_Md_isHere_0 29 rfl) rfl (n := 2) rfl ?_
  refine x_aload_n (zdm d_Md_isHere_0 30 rfl) rfl (n := 0) rfl ?_
  refine x_getf (zdm d_Md_isHere_0 31 rfl) f_Md_243 rfl rfl ?_
  obtain ⟨g1, H⟩ := H
  refine x_isub (zdm d_Md_isHere_0 32 rfl) g1 ?_
  refine x_aload_n (zdm d_Md_isHere_0 33 rfl) rfl (n := 1) rfl ?_
  obtain ⟨g2, H⟩ := H
  obtain ⟨g3, H⟩ := H
  refine x_alen2 (zdm d_Md_isHere_0 34 rfl) (zKe g2) g3 ?_
  refine x_icmpeq (tgt := 74) (zdm d_Md_isHere_0 35 rfl) (by decide) (fun c => ?_) (fun c => ?_)
  · have H := H.1 c
    refine x_iconst (zdm d_Md_isHere_0 38 rfl) (zIl rfl) ?_
    refine x_istore_n (zdm d_Md_isHere_0 39 rfl) rfl (zlt rfl) rfl ?_
    exact zX.sub [1, 2, 0] rfl H
  · have H := H.2 c
    refine x_iconst (zdm d_Md_isHere_0 36 rfl) (zIl rfl) ?_
    exact x_ireturn (zdm d_Md_isHere_0 37 rfl) (ty := .boolean) rfl (by decide) (Or.inl rfl) H
set_option maxRecDepth 20000 in
set_option maxHeartbeats 4000000 in
theorem B_Md_isHere_35 {G : zG} {h sl : Nat} (hsl : 2 ≤ sl) {u : Nat × Nat × Nat × Nat} {l1 l2 : Int} {M : zM} {Q : Int → zM → Prop} (H : ((M 125 3) ≤ l2 → zX G (y_Md_isHere, h + 1, sl) u 61 [(0, (2, 125)), (1, (2, l1)), (2, (0, l2))] [] M Q) ∧ (¬ (M 125 3) ≤ l2 → (0 ≤ l2 ∧ l2 < 1600) ∧ (zCt G h sl 0 0 y_Md_isLetter [(0, (M 126 l2))] M (fun r2 M3 => (r2 = 0 → zX G (y_Md_isHere, h + 1, sl) u 61 [(0, (2, 125)), (1, (2, l1)), (2, (0, l2))] [] M3 Q) ∧ (¬ r2 = 0 → (zI (l2 + 1)) ∧ (zX G (y_Md_isHere, h + 1, sl) u 35 [(0, (2, 125)), (1, (2, l1)), (2, (0, (l2 + 1)))] [] M3 Q)))))) : zX G (y_Md_isHere, h + 1, sl) u 35 [(0, (2, 125)), (1, (2, l1)), (2, (0, l2))] [] M Q := by
  refine x_iload_n (zdm d_Md_isHere_0 17 rfl) rfl (n := 2) rfl ?_
  refine x_aload_n (zdm d_Md_isHere_0 18 rfl) rfl (n := 0) rfl ?_
  refine x_getf (zdm d_Md_isHere_0 19 rfl) f_Md_246 rfl rfl ?_
  refine x_icmpge (tgt := 61) (zdm d_Md_isHere_0 20 rfl) (by decide) (fun c => ?_) (fun c => ?_)
  · have H := H.1 c
    exact H
  · have H := H.2 c
    refine x_aload_n (zdm d_Md_isHere_0 21 rfl) rfl (n := 0) rfl ?_
    refine x_getG (zdm d_Md_isHere_0 22 rfl) f_Md_7 rfl rfl (by decide) hsl rfl ?_
    refine x_iload_n (zdm d_Md_isHere_0 23 rfl) rfl (n := 2) rfl ?_
    obtain ⟨g1, H⟩ := H
    refine x_iald (zdm d_Md_isHere_0 24 rfl) rfl g1 ?_
    refine x_callSi (n := 1) (zdm d_Md_isHere_0 25 rfl) k_Md_253 (As := [(0, (M 126 l2))]) rfl rfl (Nat.le_of_ble_eq_true rfl) trivial H (fun r2 M3 hr H => ?_)
    have b4 : r2 = 0 ∨ r2 = 1 := hr
    refine x_ifeq (tgt := 61) (zdm d_Md_isHere_0 26 rfl) (by decide) (fun c => ?_) (fun c => ?_)
    · have H := H.1 c
      exact H
    · have H := H.2 c
      obtain ⟨g5, H⟩ := H
      refine x_iinc (zdm d_Md_isHere_0 27 rfl) (n := 2) rfl g5 (zlt rfl) rfl ?_
      refine x_goto (tgt := 35) (zdm d_Md_isHere_0 28 rfl) (by decide) ?_
      exact zX.sub [1, 2, 0] rfl H
set_option maxRecDepth 20000 in
set_option maxHeartbeats 4000000 in
theorem E_Md_isHere {G : zG} {h sl : Nat} (hsl : 2 ≤ sl) {l1 : Int} {M : zM} {Q : Int → zM → Prop} (H : (¬ (M 125 5) = 0 → Q 0 M) ∧ (¬ (¬ (M 125 5) = 0) → zCt G h sl 0 0 y_Md_look [(2, 125)] M (fun r1 M2 => zCt G h sl 0 0 y_Md_isLetter [(0, r1)] M2 (fun r3 M4 => (r3 = 0 → Q 0 M4) ∧ (¬ r3 = 0 → (¬ (M4 125 2) = (M4 125 4) → zX G (y_Md_isHere, h + 1, sl) (0, 0, 0, 0) 35 [(0, (2, 125)), (1, (2, l1)), (2, (0, (M4 125 2)))] [] M4 Q) ∧ (¬ (¬ (M4 125 2) = (M4 125 4)) → Q 0 M4)))))) : zCt G (h + 1) sl 0 0 y_Md_isHere [(2, 125), (2, l1)] M Q := by
  refine zCt.of (by decide +kernel) (Nat.le_of_ble_eq_true rfl) ?_
  refine x_aload_n (zdm d_Md_isHere_0 0 rfl) rfl (n := 0) rfl ?_
  refine x_getf (zdm d_Md_isHere_0 1 rfl) f_Md_237 rfl rfl ?_
  refine x_ifne (tgt := 28) (zdm d_Md_isHere_0 2 rfl) (by decide) (fun c => ?_) (fun c => ?_)
  · have H := H.1 c
    refine x_iconst (zdm d_Md_isHere_0 12 rfl) (zIl rfl) ?_
    exact x_ireturn (zdm d_Md_isHere_0 13 rfl) (ty := .boolean) rfl (by decide) (Or.inl rfl) H
  · have H := H.2 c
    refine x_aload_n (zdm d_Md_isHere_0 3 rfl) rfl (n := 0) rfl ?_
    refine x_callVi (n := 0) (ci := 11) (zdm d_Md_isHere_0 4 rfl) k_Md_249 (As := []) rfl rfl rfl ⟨_, _, rfl⟩ (Nat.le_of_ble_eq_true rfl) trivial H (fun r1 M2 hr H => ?_)
    refine x_callSi (n := 1) (zdm d_Md_isHere_0 5 rfl) k_Md_253 (As := [(0, r1)]) rfl rfl (Nat.le_of_ble_eq_true rfl) trivial H (fun r3 M4 hr H => ?_)
    have b5 : r3 = 0 ∨ r3 = 1 := hr
    refine x_ifeq (tgt := 28) (zdm d_Md_isHere_0 6 rfl) (by decide) (fun c => ?_) (fun c => ?_)
    · have H := H.1 c
      refine x_iconst (zdm d_Md_isHere_0 12 rfl) (zIl rfl) ?_
      exact x_ireturn (zdm d_Md_isHere_0 13 rfl) (ty := .boolean) rfl (by decide) (Or.inl rfl) H
    · have H := H.2 c
      refine x_aload_n (zdm d_Md_isHere_0 7 rfl) rfl (n := 0) rfl ?_
      refine x_getf (zdm d_Md_isHere_0 8 rfl) f_Md_243 rfl rfl ?_
      refine x_aload_n (zdm d_Md_isHere_0 9 rfl) rfl (n := 0) rfl ?_
      refine x_getf (zdm d_Md_isHere_0 10 rfl) f_Md_257 rfl rfl ?_
      refine x_icmpne (tgt := 30) (zdm d_Md_isHere_0 11 rfl) (by decide) (fun c => ?_) (fun c => ?_)
      · have H := H.1 c
        refine x_aload_n (zdm d_Md_isHere_0 14 rfl) rfl (n := 0) rfl ?_
        refine x_getf (zdm d_Md_isHere_0 15 rfl) f_Md_243 rfl rfl ?_
        refine x_istore_n (zdm d_Md_isHere_0 16 rfl) rfl (zlt rfl) rfl ?_
        exact zX.sub [1, 2, 0] rfl H
      · have H := H.2 c
        refine x_iconst (zdm d_Md_isHere_0 12 rfl) (zIl rfl) ?_
        exact x_ireturn (zdm d_Md_isHere_0 13 rfl) (ty := .boolean) rfl (by decide) (Or.inl rfl) H
set_option maxRecDepth 20000 in
set_option maxHeartbeats 4000000 in
theorem E_Md_takes {G : zG} {h sl : Nat} (hsl : 2 ≤ sl) {l1 : Int} {M : zM} {Q : Int → zM → Prop} (H : zCt G h sl 0 0 y_Md_isHere [(2, 125), (2, l1)] M (fun r1 M2 => (¬ r1 = 0 → ((zK l1).1 = 102) ∧ ((0 ≤ (zK l1).2 ∧ (zK l1).2 ≤ 100000) ∧ ((zI ((M2 125 2) + (zK l1).2)) ∧ (Q 1 (zwr (zwr M2 125 2 ((M2 125 2) + (zK l1).2)) 125 4 ((zwr M2 125 2 ((M2 125 2) + (zK l1).2)) 125 2)))))) ∧ (¬ (¬ r1 = 0) → Q 0 M2))) : zCt G (h + 1) sl 0 0 y_Md_takes [(2, 125), (2, l1)] M Q := by
  refine zCt.of (by decide +kernel) (Nat.le_of_ble_eq_true rfl) ?_
  refine x_aload_n (zdm d_Md_takes_0 0 rfl) rfl (n := 0) rfl ?_
  refine x_aload_n (zdm d_Md_takes_0 1 rfl) rfl (n := 1) rfl ?_
  refine x_callVi (n := 1) (ci := 11) (zdm d_Md_takes_0 2 rfl) k_Md_260 (As := [(2, l1)]) rfl rfl rfl ⟨_, _, rfl⟩ (Nat.le_of_ble_eq_true rfl) trivial H (fun r1 M2 hr H => ?_)
  have b3 : r1 = 0 ∨ r1 = 1 := hr
  refine x_ifne (tgt := 10) (zdm d_Md_takes_0 3 rfl) (by decide) (fun c => ?_) (fun c => ?_)
  · have H := H.1 c
    refine x_aload_n (zdm d_Md_takes_0 6 rfl) rfl (n := 0) rfl ?_
    refine x_dup (zdm d_Md_takes_0 7 rfl) z2n1 ?_
    refine x_getf (zdm d_Md_takes_0 8 rfl) f_Md_243 rfl rfl ?_
    refine x_aload_n (zdm d_Md_takes_0 9 rfl) rfl (n := 1) rfl ?_
    obtain ⟨g4, H⟩ := H
    obtain ⟨g5, H⟩ := H
    refine x_alen2 (zdm d_Md_takes_0 10 rfl) (zKe g4) g5 ?_
    obtain ⟨g6, H⟩ := H
    refine x_iadd (zdm d_Md_takes_0 11 rfl) g6 ?_
    refine x_putf (zdm d_Md_takes_0 12 rfl) f_Md_243 rfl ⟨rfl, trivial⟩ (Or.inl rfl) ?_
    refine x_aload_n (zdm d_Md_takes_0 13 rfl) rfl (n := 0) rfl ?_
    refine x_aload_n (zdm d_Md_takes_0 14 rfl) rfl (n := 0) rfl ?_
    refine x_getf (zdm d_Md_takes_0 15 rfl) f_Md_243 rfl rfl ?_
    refine x_putf (zdm d_Md_takes_0 16 rfl) f_Md_257 rfl ⟨rfl, trivial⟩ (Or.inl rfl) ?_
    refine x_iconst (zdm d_Md_takes_0 17 rfl) (zIl rfl) ?_
    exact x_ireturn (zdm d_Md_takes_0 18 rfl) (ty := .boolean) rfl (by decide) (Or.inr rfl) H
  · have H := H.2 c
    refine x_iconst (zdm d_Md_takes_0 4 rfl) (zIl rfl) ?_
    exact x_ireturn (zdm d_Md_takes_0 5 rfl) (ty := .boolean) rfl (by decide) (Or.inl rfl) H
set_option maxRecDepth 20000 in
set_option maxHeartbeats 4000000 in
theorem E_Md_asks {G : zG} {h sl : Nat} (hsl : 2 ≤ sl) {l1 : Int} {M : zM} {Q : Int → zM → Prop} (H : (¬ (M 125 5) = 0 → Q 0 M) ∧ (¬ (¬ (M 125 5) = 0) → zCt G h sl 0 0 y_Md_takes [(2, 125), (2, l1)] M (fun r1 M2 => (¬ r1 = 0 → Q 0 M2) ∧ (¬ (¬ r1 = 0) → zCt G h sl 0 0 y_Md_fail [(2, 125), (0, 1), (0, (M2 125 2))] M2 (fun r4 M5 => Q 0 M5))))) : zCt G (h + 1) sl 0 0 y_Md_asks [(2, 125), (2, l1)] M Q := by
  refine zCt.of (by decide +kernel) (Nat.le_of_ble_eq_true rfl) ?_
  refine x_aload_n (zdm d_Md_asks_0 0 rfl) rfl (n := 0) rfl ?_
  refine x_getf (zdm d_Md_asks_0 1 rfl) f_Md_237 rfl rfl ?_
  refine x_ifne (tgt := 24) (zdm d_Md_asks_0 2 rfl) (by decide) (fun c => ?_) (fun c => ?_)
  · have H := H.1 c
    exact x_return (zdm d_Md_asks_0 12 rfl) rfl H
  · have H := H.2 c
    refine x_aload_n (zdm d_Md_asks_0 3 rfl) rfl (n := 0) rfl ?_
    refine x_aload_n (zdm d_Md_asks_0 4 rfl) rfl (n := 1) rfl ?_
    refine x_callVi (n := 1) (ci := 11) (zdm d_Md_asks_0 5 rfl) k_Md_264 (As := [(2, l1)]) rfl rfl rfl ⟨_, _, rfl⟩ (Nat.le_of_ble_eq_true rfl) trivial H (fun r1 M2 hr H => ?_)
    have b3 : r1 = 0 ∨ r1 = 1 := hr
    refine x_ifne (tgt := 24) (zdm d_Md_asks_0 6 rfl) (by decide) (fun c => ?_) (fun c => ?_)
    · have H := H.1 c
      exact x_return (zdm d_Md_asks_0 12 rfl) rfl H
    · have H := H.2 c
      refine x_aload_n (zdm d_Md_asks_0 7 rfl) rfl (n := 0) rfl ?_
      refine x_iconst (zdm d_Md_asks_0 8 rfl) (zIl rfl) ?_
      refine x_aload_n (zdm d_Md_asks_0 9 rfl) rfl (n := 0) rfl ?_
      refine x_getf (zdm d_Md_asks_0 10 rfl) f_Md_243 rfl rfl ?_
      refine x_callVv (n := 2) (ci := 11) (zdm d_Md_asks_0 11 rfl) k_Md_267 (As := [(0, 1), (0, (M2 125 2))]) rfl rfl rfl ⟨_, _, rfl⟩ (Nat.le_of_ble_eq_true rfl) rfl H (fun r4 M5 hr H => ?_)
      exact x_return (zdm d_Md_asks_0 12 rfl) rfl H
set_option maxRecDepth 20000 in
set_option maxHeartbeats 4000000 in
theorem E_Md_takesSign {G : zG} {h sl : Nat} (hsl : 2 ≤ sl) {l1 : Int} {M : zM} {Q : Int → zM → Prop} (H : (¬ (M 125 5) = 0 → Q 0 M) ∧ (¬ (¬ (M 125 5) = 0) → zCt G h sl 0 0 y_Md_look [(2, 125)] M (fun r1 M2 => (r1 = l1 → (zI ((M2 125 2) + 1)) ∧ (Q 1 (zwr M2 125 2 ((M2 125 2) + 1)))) ∧ (¬ r1 = l1 → Q 0 M2)))) : zCt G (h + 1) sl 0 0 y_Md_takesSign [(2, 125), (0, l1)] M Q := by
  refine zCt.of (by decide +kernel) (Nat.le_of_ble_eq_true rfl) ?_
  refine x_aload_n (zdm d_Md_takesSign_0 0 rfl) rfl (n := 0) rfl ?_
  refine x_getf (zdm d_Md_takesSign_0 1 rfl) f_Md_237 rfl rfl ?_
  refine x_ifne (tgt := 15) (zdm d_Md_takesSign_0 2 rfl) (by decide) (fun c => ?_) (fun c => ?_)
  · have H := H.1 c
    refine x_iconst (zdm d_Md_takesSign_0 7 rfl) (zIl rfl) ?_
    exact x_ireturn (zdm d_Md_takesSign_0 8 rfl) (ty := .boolean) rfl (by decide) (Or.inl rfl) H
  · have H := H.2 c
    refine x_aload_n (zdm d_Md_takesSign_0 3 rfl) rfl (n := 0) rfl ?_
    refine x_callVi (n := 0) (ci := 11) (zdm d_Md_takesSign_0 4 rfl) k_Md_249 (As := []) rfl rfl rfl ⟨_, _, rfl⟩ (Nat.le_of_ble_eq_true rfl) trivial H (fun r1 M2 hr H => ?_)
    refine x_iload_n (zdm d_Md_takesSign_0 5 rfl) rfl (n := 1) rfl ?_
    refine x_icmpeq (tgt := 17) (zdm d_Md_takesSign_0 6 rfl) (by decide) (fun c => ?_) (fun c => ?_)
    · have H := H.1 c
      refine x_aload_n (zdm d_Md_takesSign_0 9 rfl) rfl (n := 0) rfl ?_
      refine x_dup (zdm d_Md_takesSign_0 10 rfl) z2n1 ?_
      refine x_getf (zdm d_Md_takesSign_0 11 rfl) f_Md_243 rfl rfl ?_
      refine x_iconst (zdm d_Md_takesSign_0 12 rfl) (zIl rfl) ?_
      obtain ⟨g3, H⟩ := H
      refine x_iadd (zdm d_Md_takesSign_0 13 rfl) g3 ?_
      refine x_putf (zdm d_Md_takesSign_0 14 rfl) f_Md_243 rfl ⟨rfl, trivial⟩ (Or.inl rfl) ?_
      refine x_iconst (zdm d_Md_takesSign_0 15 rfl) (zIl rfl) ?_
      exact x_ireturn (zdm d_Md_takesSign_0 16 rfl) (ty := .boolean) rfl (by decide) (Or.inr rfl) H
    · have H := H.2 c
      refine x_iconst (zdm d_Md_takesSign_0 7 rfl) (zIl rfl) ?_
      exact x_ireturn (zdm d_Md_takesSign_0 8 rfl) (ty := .boolean) rfl (by decide) (Or.inl rfl) H
set_option maxRecDepth 20000 in
set_option maxHeartbeats 4000000 in
theorem E_Md_asksSign {G : zG} {h sl : Nat} (hsl : 2 ≤ sl) {l1 : Int} {M : zM} {Q : Int → zM → Prop} (H : (¬ (M 125 5) = 0 → Q 0 M) ∧ (¬ (¬ (M 125 5) = 0) → zCt G h sl 0 0 y_Md_takesSign [(2, 125), (0, l1)] M (fun r1 M2 => (¬ r1 = 0 → Q 0 M2) ∧ (¬ (¬ r1 = 0) → zCt G h sl 0 0 y_Md_fail [(2, 125), (0, 1), (0, (M2 125 2))] M2 (fun r4 M5 => Q 0 M5))))) : zCt G (h + 1) sl 0 0 y_Md_asksSign [(2, 125), (0, l1)] M Q := by
  refine zCt.of (by decide +kernel) (Nat.le_of_ble_eq_true rfl) ?_
  refine x_aload_n (zdm d_Md_asksSign_0 0 rfl) rfl (n := 0) rfl ?_
  refine x_getf (zdm d_Md_asksSign_0 1 rfl) f_Md_237 rfl rfl ?_
  refine x_ifne (tgt := 24) (zdm d_Md_asksSign_0 2 rfl) (by decide) (fun c => ?_) (fun c => ?_)
  · have H := H.1 c
    exact x_return (zdm d_Md_asksSign_0 12 rfl) rfl H
  · have H := H.2 c
    refine x_aload_n (zdm d_Md_asksSign_0 3 rfl) rfl (n := 0) rfl ?_
    refine x_iload_n (zdm d_Md_asksSign_0 4 rfl) rfl (n := 1) rfl ?_
    refine x_callVi (n := 1) (ci := 11) (zdm d_Md_asksSign_0 5 rfl) k_Md_271 (As := [(0, l1)]) rfl rfl rfl ⟨_, _, rfl⟩ (Nat.le_of_ble_eq_true rfl) trivial H (fun r1 M2 hr H => ?_)
    have b3 : r1 = 0 ∨ r1 = 1 := hr
    refine x_ifne (tgt := 24) (zdm d_Md_asksSign_0 6 rfl) (by decide) (fun c => ?_) (fun c => ?_)
    · have H := H.1 c
      exact x_return (zdm d_Md_asksSign_0 12 rfl) rfl H
    · have H := H.2 c
      refine x_aload_n (zdm d_Md_asksSign_0 7 rfl) rfl (n := 0) rfl ?_
      refine x_iconst (zdm d_Md_asksSign_0 8 rfl) (zIl rfl) ?_
      refine x_aload_n (zdm d_Md_asksSign_0 9 rfl) rfl (n := 0) rfl ?_
      refine x_getf (zdm d_Md_asksSign_0 10 rfl) f_Md_243 rfl rfl ?_
      refine x_callVv (n := 2) (ci := 11) (zdm d_Md_asksSign_0 11 rfl) k_Md_267 (As := [(0, 1), (0, (M2 125 2))]) rfl rfl rfl ⟨_, _, rfl⟩ (Nat.le_of_ble_eq_true rfl) rfl H (fun r4 M5 hr H => ?_)
      exact x_return (zdm d_Md_asksSign_0 12 rfl) rfl H
set_option maxRecDepth 20000 in
set_option maxHeartbeats 4000000 in
theorem B_Md_number_129 {G : zG} {h sl : Nat} (hsl : 2 ≤ sl) {u : Nat × Nat × Nat × Nat} {l1 l2 l3 l4 : Int} {M : zM} {Q : Int → zM → Prop} (H : zCt G h sl 0 0 y_Md_isIn [(1, l4), (1, l1), (1, l2)] (zwr (zwr M 125 4 (M 125 2)) 125 10 l3) (fun r1 M2 => (¬ r1 = 0 → Q l4 M2) ∧ (¬ (¬ r1 = 0) → zCt G h sl 0 0 y_Md_fail [(2, 125), (0, 2), (0, (M2 125 10))] M2 (fun r4 M5 => Q l4 M5)))) : zX G (y_Md_number, h + 1, sl) u 129 [(0, (2, 125)), (1, (0, l1)), (2, (0, l2)), (3, (0, l3)), (4, (0, l4))] [] M Q := by
  refine x_aload_n (zdm d_Md_number_1 10 rfl) rfl (n := 0) rfl ?_
  refine x_aload_n (zdm d_Md_number_1 11 rfl) rfl (n := 0) rfl ?_
  refine x_getf (zdm d_Md_number_1 12 rfl) f_Md_243 rfl rfl ?_
  refine x_putf (zdm d_Md_number_1 13 rfl) f_Md_257 rfl ⟨rfl, trivial⟩ (Or.inl rfl) ?_
  refine x_aload_n (zdm d_Md_number_1 14 rfl) rfl (n := 0) rfl ?_
  refine x_iload_n (zdm d_Md_number_1 15 rfl) rfl (n := 3) rfl ?_
  refine x_putf (zdm d_Md_number_1 16 rfl) f_Md_277 rfl ⟨rfl, trivial⟩ (Or.inl rfl) ?_
  refine x_iload (zdm d_Md_number_1 17 rfl) (n := 4) rfl ?_
  refine x_i2l (zdm d_Md_number_1 18 rfl) ?_
  refine x_iload_n (zdm d_Md_number_1 19 rfl) rfl (n := 1) rfl ?_
  refine x_i2l (zdm d_Md_number_1 20 rfl) ?_
  refine x_iload_n (zdm d_Md_number_1 21 rfl) rfl (n := 2) rfl ?_
  refine x_i2l (zdm d_Md_number_1 22 rfl) ?_
  refine x_callSi (n := 3) (zdm d_Md_number_1 23 rfl) k_Md_280 (As := [(1, l4), (1, l1), (1, l2)]) rfl rfl (Nat.le_of_ble_eq_true rfl) trivial H (fun r1 M2 hr H => ?_)
  have b3 : r1 = 0 ∨ r1 = 1 := hr
  refine x_ifne (tgt := 164) (zdm d_Md_number_1 24 rfl) (by decide) (fun c => ?_) (fun c => ?_)
  · have H := H.1 c
    refine x_iload (zdm d_Md_number_1 30 rfl) (n := 4) rfl ?_
    exact x_iret (zdm d_Md_number_1 31 rfl) rfl H
  · have H := H.2 c
    refine x_aload_n (zdm d_Md_number_1 25 rfl) rfl (n := 0) rfl ?_
    refine x_iconst (zdm d_Md_number_1 26 rfl) (zIl rfl) ?_
    refine x_aload_n (zdm d_Md_number_1 27 rfl) rfl (n := 0) rfl ?_
    refine x_getf (zdm d_Md_number_1 28 rfl) f_Md_277 rfl rfl ?_
    refine x_callVv (n := 2) (ci := 11) (zdm d_Md_number_1 29 rfl) k_Md_267 (As := [(0, 2), (0, (M2 125 10))]) rfl rfl rfl ⟨_, _, rfl⟩ (Nat.le_of_ble_eq_true rfl) rfl H (fun r4 M5 hr H => ?_)
    refine x_iload (zdm d_Md_number_1 30 rfl) (n := 4) rfl ?_
    exact x_iret (zdm d_Md_number_1 31 rfl) rfl H
set_option maxRecDepth 20000 in
set_option maxHeartbeats 4000000 in
theorem B_Md_number_49 {G : zG} {h sl : Nat} (hsl : 2 ≤ sl) {u : Nat × Nat × Nat × Nat} {l1 l2 l3 l4 : Int} {M : zM} {Q : Int → zM → Prop} (H : ((M 125 3) ≤ (M 125 2) → zX G (y_Md_number, h + 1, sl) u 129 [(0, (2, 125)), (1, (0, l1)), (2, (0, l2)), (3, (0, l3)), (4, (0, l4))] [] M Q) ∧ (¬ (M 125 3) ≤ (M 125 2) → (0 ≤ (M 125 2) ∧ (M 125 2) < 1600) ∧ (zCt G h sl 0 0 y_Md_isDigit [(0, (M 126 (M 125 2)))] M (fun r2 M3 => (r2 = 0 → zX G (y_Md_number, h + 1, sl) u 129 [(0, (2, 125)), (1, (0, l1)), (2, (0, l2)), (3, (0, l3)), (4, (0, l4))] [] M3 Q) ∧ (¬ r2 = 0 → (zI ((M3 125 2) - l3)) ∧ ((¬ ((M3 125 2) - l3) = 4 → (zI (10 * l4)) ∧ ((0 ≤ (M3 125 2) ∧ (M3 125 2) < 1600) ∧ ((zI ((10 * l4) + (M3 126 (M3 125 2)))) ∧ ((zI (((10 * l4) + (M3 126 (M3 125 2))) - 48)) ∧ ((zI ((M3 125 2) + 1)) ∧ (zX G (y_Md_number, h + 1, sl) u 49 [(0, (2, 125)), (1, (0, l1)), (2, (0, l2)), (3, (0, l3)), (4, (0, (((10 * l4) + (M3 126 (M3 125 2))) - 48)))] [] (zwr M3 125 2 ((M3 125 2) + 1)) Q)))))) ∧ (¬ (¬ ((M3 125 2) - l3) = 4) → zCt G h sl 0 0 y_Md_fail [(2, 125), (0, 1), (0, (M3 125 2))] M3 (fun r11 M12 => Q 0 M12)))))))) : zX G (y_Md_number, h + 1, sl) u 49 [(0, (2, 125)), (1, (0, l1)), (2, (0, l2)), (3, (0, l3)), (4, (0, l4))] [] M Q := by
  refine x_aload_n (zdm d_Md_number_0 26 rfl) rfl (n := 0) rfl ?_
  refine x_getf (zdm d_Md_number_0 27 rfl) f_Md_243 rfl rfl ?_
  refine x_aload_n (zdm d_Md_number_0 28 rfl) rfl (n := 0) rfl ?_
  refine x_getf (zdm d_Md_number_0 29 rfl) f_Md_246 rfl rfl ?_
  refine x_icmpge (tgt := 129) (zdm d_Md_number_0 30 rfl) (by decide) (fun c => ?_) (fun c => ?_)
  · have H := H.1 c
    exact H
  · have H := H.2 c
    refine x_aload_n (zdm d_Md_number_0 31 rfl) rfl (n := 0) rfl ?_
    refine x_getG (zdm d_Md_number_0 32 rfl) f_Md_7 rfl rfl (by decide) hsl rfl ?_
    refine x_aload_n (zdm d_Md_number_0 33 rfl) rfl (n := 0) rfl ?_
    refine x_getf (zdm d_Md_number_0 34 rfl) f_Md_243 rfl rfl ?_
    obtain ⟨g1, H⟩ := H
    refine x_iald (zdm d_Md_number_0 35 rfl) rfl g1 ?_
    refine x_callSi (n := 1) (zdm d_Md_number_0 36 rfl) k_Md_274 (As := [(0, (M 126 (M 125 2)))]) rfl rfl (Nat.le_of_ble_eq_true rfl) trivial H (fun r2 M3 hr H => ?_)
    have b4 : r2 = 0 ∨ r2 = 1 := hr
    refine x_ifeq (tgt := 129) (zdm d_Md_number_0 37 rfl) (by decide) (fun c => ?_) (fun c => ?_)
    · have H := H.1 c
      exact H
    · have H := H.2 c
      refine x_aload_n (zdm d_Md_number_0 38 rfl) rfl (n := 0) rfl ?_
      refine x_getf (zdm d_Md_number_0 39 rfl) f_Md_243 rfl rfl ?_
      refine x_iload_n (zdm d_Md_number_0 40 rfl) rfl (n := 3) rfl ?_
      obtain ⟨g5, H⟩ := H
      refine x_isub (zdm d_Md_number_0 41 rfl) g5 ?_
      refine x_iconst (zdm d_Md_number_0 42 rfl) (zIl rfl) ?_
      refine x_icmpne (tgt := 96) (zdm d_Md_number_0 43 rfl) (by decide) (fun c => ?_) (fun c => ?_)
      · have H := H.1 c
        refine x_bipush (zdm d_Md_number_0 51 rfl) (by decide) ?_
        refine x_iload (zdm d_Md_number_0 52 rfl) (n := 4) rfl ?_
        obtain ⟨g6, H⟩ := H
        refine x_imul (zdm d_Md_number_0 53 rfl) g6 ?_
        refine x_aload_n (zdm d_Md_number_0 54 rfl) rfl (n := 0) rfl ?_
        refine x_getG (zdm d_Md_number_0 55 rfl) f_Md_7 rfl rfl (by decide) hsl rfl ?_
        refine x_aload_n (zdm d_Md_number_0 56 rfl) rfl (n := 0) rfl ?_
        refine x_getf (zdm d_Md_number_0 57 rfl) f_Md_243 rfl rfl ?_
        obtain ⟨g7, H⟩ := H
        refine x_iald (zdm d_Md_number_0 58 rfl) rfl g7 ?_
        obtain ⟨g8, H⟩ := H
        refine x_iadd (zdm d_Md_number_0 59 rfl) g8 ?_
        refine x_bipush (zdm d_Md_number_1 0 rfl) (by decide) ?_
        obtain ⟨g9, H⟩ := H
        refine x_isub (zdm d_Md_number_1 1 rfl) g9 ?_
        refine x_istore (zdm d_Md_number_1 2 rfl) (zlt rfl) rfl ?_
        refine x_aload_n (zdm d_Md_number_1 3 rfl) rfl (n := 1) rfl ?_
        refine x_dup (zdm d_Md_number_1 4 rfl) z2n1 ?_
        refine x_getf (zdm d_Md_number_1 5 rfl) f_Md_243 rfl rfl ?_
        refine x_iconst (zdm d_Md_number_1 6 rfl) (zIl rfl) ?_
        obtain ⟨g10, H⟩ := H
        refine x_iadd (zdm d_Md_number_1 7 rfl) g10 ?_
        refine x_putf (zdm d_Md_number_1 8 rfl) f_Md_243 rfl ⟨rfl, trivial⟩ (Or.inl rfl) ?_
        refine x_goto (tgt := 49) (zdm d_Md_number_1 9 rfl) (by decide) ?_
        exact zX.sub [1, 2, 3, 4, 0] rfl H
      · have H := H.2 c
        refine x_aload_n (zdm d_Md_number_0 44 rfl) rfl (n := 0) rfl ?_
        refine x_iconst (zdm d_Md_number_0 45 rfl) (zIl rfl) ?_
        refine x_aload_n (zdm d_Md_number_0 46 rfl) rfl (n := 0) rfl ?_
        refine x_getf (zdm d_Md_number_0 47 rfl) f_Md_243 rfl rfl ?_
        refine x_callVv (n := 2) (ci := 11) (zdm d_Md_number_0 48 rfl) k_Md_267 (As := [(0, 1), (0, (M3 125 2))]) rfl rfl rfl ⟨_, _, rfl⟩ (Nat.le_of_ble_eq_true rfl) rfl H (fun r11 M12 hr H => ?_)
        refine x_iconst (zdm d_Md_number_0 49 rfl) (zIl rfl) ?_
        exact x_iret (zdm d_Md_number_0 50 rfl) rfl H
set_option maxRecDepth 20000 in
set_option maxHeartbeats 4000000 in
theorem B_Md_number_30 {G : zG} {h sl : Nat} (hsl : 2 ≤ sl) {u : Nat × Nat × Nat × Nat} {M : zM} {Q : Int → zM → Prop} (H : zCt G h sl 0 0 y_Md_fail [(2, 125), (0, 1), (0, (M 125 2))] M (fun r1 M2 => Q 0 M2)) : zX G (y_Md_number, h + 1, sl) u 30 [(0, (2, 125))] [] M Q := by
  refine x_aload_n (zdm d_Md_number_0 14 rfl) rfl (n := 0) rfl ?_
  refine x_iconst (zdm d_Md_number_0 15 rfl) (zIl rfl) ?_
  refine x_aload_n (zdm d_Md_number_0 16 rfl) rfl (n := 0) rfl ?_
  refine x_getf (zdm d_Md_number_0 17 rfl) f_Md_243 rfl rfl ?_
  refine x_callVv (n := 2) (ci := 11) (zdm d_Md_number_0 18 rfl) k_Md_267 (As := [(0, 1), (0, (M 125 2))]) rfl rfl rfl ⟨_, _, rfl⟩ (Nat.le_of_ble_eq_true rfl) rfl H (fun r1 M2 hr H => ?_)
  refine x_iconst (zdm d_Md_number_0 19 rfl) (zIl rfl) ?_
  exact x_iret (zdm d_Md_number_0 20 rfl) rfl H
set_option maxRecDepth 20000 in
set_option maxHeartbeats 4000000 in
theorem E_Md_number {G : zG} {h sl : Nat} (hsl : 2 ≤ sl) {l1 l2 : Int} {M : zM} {Q : Int → zM → Prop} (H : ((M 125 5) = 0 → zCt G h sl 0 0 y_Md_look [(2, 125)] M (fun r1 M2 => zCt G h sl 0 0 y_Md_isDigit [(0, r1)] M2 (fun r3 M4 => (r3 = 0 → zX G (y_Md_number, h + 1, sl) (0, 0, 0, 0) 30 [(0, (2, 125))] [] M4 Q) ∧ (¬ r3 = 0 → (¬ (M4 125 2) = (M4 125 4) → zX G (y_Md_number, h + 1, sl) (0, 0, 0, 0) 49 [(0, (2, 125)), (1, (0, l1)), (2, (0, l2)), (3, (0, (M4 125 2))), (4, (0, 0))] [] M4 Q) ∧ (¬ (¬ (M4 125 2) = (M4 125 4)) → zX G (y_Md_number, h + 1, sl) (0, 0, 0, 0) 30 [(0, (2, 125))] [] M4 Q))))) ∧ (¬ (M 125 5) = 0 → Q 0 M)) : zCt G (h + 1) sl 0 0 y_Md_number [(2, 125), (0, l1), (0, l2)] M Q := by
  refine zCt.of (by decide +kernel) (Nat.le_of_ble_eq_true rfl) ?_
  refine x_aload_n (zdm d_Md_number_0 0 rfl) rfl (n := 0) rfl ?_
  refine x_getf (zdm d_Md_number_0 1 rfl) f_Md_237 rfl rfl ?_
  refine x_ifeq (tgt := 9) (zdm d_Md_number_0 2 rfl) (by decide) (fun c => ?_) (fun c => ?_)
  · have H := H.1 c
    refine x_aload_n (zdm d_Md_number_0 5 rfl) rfl (n := 0) rfl ?_
    refine x_callVi (n := 0) (ci := 11) (zdm d_Md_number_0 6 rfl) k_Md_249 (As := []) rfl rfl rfl ⟨_, _, rfl⟩ (Nat.le_of_ble_eq_true rfl) trivial H (fun r1 M2 hr H => ?_)
    refine x_callSi (n := 1) (zdm d_Md_number_0 7 rfl) k_Md_274 (As := [(0, r1)]) rfl rfl (Nat.le_of_ble_eq_true rfl) trivial H (fun r3 M4 hr H => ?_)
    have b5 : r3 = 0 ∨ r3 = 1 := hr
    refine x_ifeq (tgt := 30) (zdm d_Md_number_0 8 rfl) (by decide) (fun c => ?_) (fun c => ?_)
    · have H := H.1 c
      exact zX.sub [0] rfl H
    · have H := H.2 c
      refine x_aload_n (zdm d_Md_number_0 9 rfl) rfl (n := 0) rfl ?_
      refine x_getf (zdm d_Md_number_0 10 rfl) f_Md_243 rfl rfl ?_
      refine x_aload_n (zdm d_Md_number_0 11 rfl) rfl (n := 0) rfl ?_
      refine x_getf (zdm d_Md_number_0 12 rfl) f_Md_257 rfl rfl ?_
      refine x_icmpne (tgt := 41) (zdm d_Md_number_0 13 rfl) (by decide) (fun c => ?_) (fun c => ?_)
      · have H := H.1 c
        refine x_aload_n (zdm d_Md_number_0 21 rfl) rfl (n := 0) rfl ?_
        refine x_getf (zdm d_Md_number_0 22 rfl) f_Md_243 rfl rfl ?_
        refine x_istore_n (zdm d_Md_number_0 23 rfl) rfl (zlt rfl) rfl ?_
        refine x_iconst (zdm d_Md_number_0 24 rfl) (zIl rfl) ?_
        refine x_istore (zdm d_Md_number_0 25 rfl) (zlt rfl) rfl ?_
        exact zX.sub [2, 3, 4, 1, 0] rfl H
      · have H := H.2 c
        exact zX.sub [0] rfl H
  · have H := H.2 c
    refine x_iconst (zdm d_Md_number_0 3 rfl) (zIl rfl) ?_
    exact x_iret (zdm d_Md_number_0 4 rfl) rfl H
set_option maxRecDepth 20000 in
set_option maxHeartbeats 4000000 in
theorem B_Md_isOwnHere_299 {G : zG} {h sl : Nat} (hsl : 2 ≤ sl) {u : Nat × Nat × Nat × Nat} {s0 : Int} {M : zM} {Q : Int → zM → Prop} (H : (¬ s0 = 0 → Q 1 M) ∧ (¬ (¬ s0 = 0) → zCt G h sl 0 0 y_Md_isHere [(2, 125), (2, 152)] M (fun r1 M2 => (¬ r1 = 0 → Q 1 M2) ∧ (¬ (¬ r1 = 0) → zCt G h sl 0 0 y_Md_isHere [(2, 125), (2, 153)] M2 (fun r4 M5 => (¬ r4 = 0 → Q 1 M5) ∧ (¬ (¬ r4 = 0) → zCt G h sl 0 0 y_Md_isHere [(2, 125), (2, 154)] M5 (fun r7 M8 => (¬ r7 = 0 → Q 1 M8) ∧ (¬ (¬ r7 = 0) → zCt G h sl 0 0 y_Md_isHere [(2, 125), (2, 155)] M8 (fun r10 M11 => (¬ r10 = 0 → Q 1 M11) ∧ (¬ (¬ r10 = 0) → zCt G h sl 0 0 y_Md_isHere [(2, 125), (2, 156)] M11 (fun r13 M14 => (¬ r13 = 0 → Q 1 M14) ∧ (¬ (¬ r13 = 0) → zCt G h sl 0 0 y_Md_isHere [(2, 125), (2, 157)] M14 (fun r16 M17 => (r16 = 0 → Q 0 M17) ∧ (¬ r16 = 0 → Q 1 M17)))))))))))))) : zX G (y_Md_isOwnHere, h + 1, sl) u 299 [(0, (2, 125))] [(0, s0)] M Q := by
  refine x_istore_n (zdm d_Md_isOwnHere_2 21 rfl) rfl (zlt rfl) rfl ?_
  refine x_iload_n (zdm d_Md_isOwnHere_2 22 rfl) rfl (n := 0) rfl ?_
  refine x_ifne (tgt := 370) (zdm d_Md_isOwnHere_2 23 rfl) (by decide) (fun c => ?_) (fun c => ?_)
  · have H := H.1 c
    refine x_iconst (zdm d_Md_isOwnHere_2 54 rfl) (zIl rfl) ?_
    refine x_goto (tgt := 375) (zdm d_Md_isOwnHere_2 55 rfl) (by decide) ?_
    refine x_istore_n (zdm d_Md_isOwnHere_2 57 rfl) rfl (zlt rfl) rfl ?_
    refine x_iload_n (zdm d_Md_isOwnHere_2 58 rfl) rfl (n := 0) rfl ?_
    exact x_ireturn (zdm d_Md_isOwnHere_2 59 rfl) (ty := .boolean) rfl (by decide) (Or.inr rfl) H
  · have H := H.2 c
    refine x_aload_n (zdm d_Md_isOwnHere_2 24 rfl) rfl (n := 1) rfl ?_
    refine x_aload_n (zdm d_Md_isOwnHere_2 25 rfl) rfl (n := 1) rfl ?_
    refine x_getG (zdm d_Md_isOwnHere_2 26 rfl) f_Md_93 rfl rfl (by decide) hsl rfl ?_
    refine x_callVi (n := 1) (ci := 11) (zdm d_Md_isOwnHere_2 27 rfl) k_Md_260 (As := [(2, 152)]) rfl rfl rfl ⟨_, _, rfl⟩ (Nat.le_of_ble_eq_true rfl) trivial H (fun r1 M2 hr H => ?_)
    have b3 : r1 = 0 ∨ r1 = 1 := hr
    refine x_ifne (tgt := 370) (zdm d_Md_isOwnHere_2 28 rfl) (by decide) (fun c => ?_) (fun c => ?_)
    · have H := H.1 c
      refine x_iconst (zdm d_Md_isOwnHere_2 54 rfl) (zIl rfl) ?_
      refine x_goto (tgt := 375) (zdm d_Md_isOwnHere_2 55 rfl) (by decide) ?_
      refine x_istore_n (zdm d_Md_isOwnHere_2 57 rfl) rfl (zlt rfl) rfl ?_
      refine x_iload_n (zdm d_Md_isOwnHere_2 58 rfl) rfl (n := 0) rfl ?_
      exact x_ireturn (zdm d_Md_isOwnHere_2 59 rfl) (ty := .boolean) rfl (by decide) (Or.inr rfl) H
    · have H := H.2 c
      refine x_aload_n (zdm d_Md_isOwnHere_2 29 rfl) rfl (n := 1) rfl ?_
      refine x_aload_n (zdm d_Md_isOwnHere_2 30 rfl) rfl (n := 1) rfl ?_
      refine x_getG (zdm d_Md_isOwnHere_2 31 rfl) f_Md_96 rfl rfl (by decide) hsl rfl ?_
      refine x_callVi (n := 1) (ci := 11) (zdm d_Md_isOwnHere_2 32 rfl) k_Md_260 (As := [(2, 153)]) rfl rfl rfl ⟨_, _, rfl⟩ (Nat.le_of_ble_eq_true rfl) trivial H (fun r4 M5 hr H => ?_)
      have b6 : r4 = 0 ∨ r4 = 1 := hr
      refine x_ifne (tgt := 370) (zdm d_Md_isOwnHere_2 33 rfl) (by decide) (fun c => ?_) (fun c => ?_)
      · have H := H.1 c
        refine x_iconst (zdm d_Md_isOwnHere_2 54 rfl) (zIl rfl) ?_
        refine x_goto (tgt := 375) (zdm d_Md_isOwnHere_2 55 rfl) (by decide) ?_
        refine x_istore_n (zdm d_Md_isOwnHere_2 57 rfl) rfl (zlt rfl) rfl ?_
        refine x_iload_n (zdm d_Md_isOwnHere_2 58 rfl) rfl (n := 0) rfl ?_
        exact x_ireturn (zdm d_Md_isOwnHere_2 59 rfl) (ty := .boolean) rfl (by decide) (Or.inr rfl) H
      · have H := H.2 c
        refine x_aload_n (zdm d_Md_isOwnHere_2 34 rfl) rfl (n := 1) rfl ?_
        refine x_aload_n (zdm d_Md_isOwnHere_2 35 rfl) rfl (n := 1) rfl ?_
        refine x_getG (zdm d_Md_isOwnHere_2 36 rfl) f_Md_99 rfl rfl (by decide) hsl rfl ?_
        refine x_callVi (n := 1) (ci := 11) (zdm d_Md_isOwnHere_2 37 rfl) k_Md_260 (As := [(2, 154)]) rfl rfl rfl ⟨_, _, rfl⟩ (Nat.le_of_ble_eq_true rfl) trivial H (fun r7 M8 hr H => ?_)
        have b9 : r7 = 0 ∨ r7 = 1 := hr
        refine x_ifne (tgt := 370) (zdm d_Md_isOwnHere_2 38 rfl) (by decide) (fun c => ?_) (fun c => ?_)
        · have H := H.1 c
          refine x_iconst (zdm d_Md_isOwnHere_2 54 rfl) (zIl rfl) ?_
          refine x_goto (tgt := 375) (zdm d_Md_isOwnHere_2 55 rfl) (by decide) ?_
          refine x_istore_n (zdm d_Md_isOwnHere_2 57 rfl) rfl (zlt rfl) rfl ?_
          refine x_iload_n (zdm d_Md_isOwnHere_2 58 rfl) rfl (n := 0) rfl ?_
          exact x_ireturn (zdm d_Md_isOwnHere_2 59 rfl) (ty := .boolean) rfl (by decide) (Or.inr rfl) H
        · have H := H.2 c
          refine x_aload_n (zdm d_Md_isOwnHere_2 39 rfl) rfl (n := 1) rfl ?_
          refine x_aload_n (zdm d_Md_isOwnHere_2 40 rfl) rfl (n := 1) rfl ?_
          refine x_getG (zdm d_Md_isOwnHere_2 41 rfl) f_Md_102 rfl rfl (by decide) hsl rfl ?_
          refine x_callVi (n := 1) (ci := 11) (zdm d_Md_isOwnHere_2 42 rfl) k_Md_260 (As := [(2, 155)]) rfl rfl rfl ⟨_, _, rfl⟩ (Nat.le_of_ble_eq_true rfl) trivial H (fun r10 M11 hr H => ?_)
          have b12 : r10 = 0 ∨ r10 = 1 := hr
          refine x_ifne (tgt := 370) (zdm d_Md_isOwnHere_2 43 rfl) (by decide) (fun c => ?_) (fun c => ?_)
          · have H := H.1 c
            refine x_iconst (zdm d_Md_isOwnHere_2 54 rfl) (zIl rfl) ?_
            refine x_goto (tgt := 375) (zdm d_Md_isOwnHere_2 55 rfl) (by decide) ?_
            refine x_istore_n (zdm d_Md_isOwnHere_2 57 rfl) rfl (zlt rfl) rfl ?_
            refine x_iload_n (zdm d_Md_isOwnHere_2 58 rfl) rfl (n := 0) rfl ?_
            exact x_ireturn (zdm d_Md_isOwnHere_2 59 rfl) (ty := .boolean) rfl (by decide) (Or.inr rfl) H
          · have H := H.2 c
            refine x_aload_n (zdm d_Md_isOwnHere_2 44 rfl) rfl (n := 1) rfl ?_
            refine x_aload_n (zdm d_Md_isOwnHere_2 45 rfl) rfl (n := 1) rfl ?_
            refine x_getG (zdm d_Md_isOwnHere_2 46 rfl) f_Md_105 rfl rfl (by decide) hsl rfl ?_
            refine x_callVi (n := 1) (ci := 11) (zdm d_Md_isOwnHere_2 47 rfl) k_Md_260 (As := [(2, 156)]) rfl rfl rfl ⟨_, _, rfl⟩ (Nat.le_of_ble_eq_true rfl) trivial H (fun r13 M14 hr H => ?_)
            have b15 : r13 = 0 ∨ r13 = 1 := hr
            refine x_ifne (tgt := 370) (zdm d_Md_isOwnHere_2 48 rfl) (by decide) (fun c => ?_) (fun c => ?_)
            · have H := H.1 c
              refine x_iconst (zdm d_Md_isOwnHere_2 54 rfl) (zIl rfl) ?_
              refine x_goto (tgt := 375) (zdm d_Md_isOwnHere_2 55 rfl) (by decide) ?_
              refine x_istore_n (zdm d_Md_isOwnHere_2 57 rfl) rfl (zlt rfl) rfl ?_
              refine x_iload_n (zdm d_Md_isOwnHere_2 58 rfl) rfl (n := 0) rfl ?_
              exact x_ireturn (zdm d_Md_isOwnHere_2 59 rfl) (ty := .boolean) rfl (by decide) (Or.inr rfl) H
            · have H := H.2 c
              refine x_aload_n (zdm d_Md_isOwnHere_2 49 rfl) rfl (n := 1) rfl ?_
              refine x_aload_n (zdm d_Md_isOwnHere_2 50 rfl) rfl (n := 1) rfl ?_
              refine x_getG (zdm d_Md_isOwnHere_2 51 rfl) f_Md_108 rfl rfl (by decide) hsl rfl ?_
              refine x_callVi (n := 1) (ci := 11) (zdm d_Md_isOwnHere_2 52 rfl) k_Md_260 (As := [(2, 157)]) rfl rfl rfl ⟨_, _, rfl⟩ (Nat.le_of_ble_eq_true rfl) trivial H (fun r16 M17 hr H => ?_)
              have b18 : r16 = 0 ∨ r16 = 1 := hr
              refine x_ifeq (tgt := 374) (zdm d_Md_isOwnHere_2 53 rfl) (by decide) (fun c => ?_) (fun c => ?_)
              · have H := H.1 c
                refine x_iconst (zdm d_Md_isOwnHere_2 56 rfl) (zIl rfl) ?_
                refine x_istore_n (zdm d_Md_isOwnHere_2 57 rfl) rfl (zlt rfl) rfl ?_
                refine x_iload_n (zdm d_Md_isOwnHere_2 58 rfl) rfl (n := 0) rfl ?_
                exact x_ireturn (zdm d_Md_isOwnHere_2 59 rfl) (ty := .boolean) rfl (by decide) (Or.inl rfl) H
              · have H := H.2 c
                refine x_iconst (zdm d_Md_isOwnHere_2 54 rfl) (zIl rfl) ?_
                refine x_goto (tgt := 375) (zdm d_Md_isOwnHere_2 55 rfl) (by decide) ?_
                refine x_istore_n (zdm d_Md_isOwnHere_2 57 rfl) rfl (zlt rfl) rfl ?_
                refine x_iload_n (zdm d_Md_isOwnHere_2 58 rfl) rfl (n := 0) rfl ?_
                exact x_ireturn (zdm d_Md_isOwnHere_2 59 rfl) (ty := .boolean) rfl (by decide) (Or.inr rfl) H
set_option maxRecDepth 20000 in
set_option maxHeartbeats 4000000 in
theorem B_Md_isOwnHere_223 {G : zG} {h sl : Nat} (hsl : 2 ≤ sl) {u : Nat × Nat × Nat × Nat} {s0 : Int} {M : zM} {Q : Int → zM → Prop} (H : (¬ s0 = 0 → zX G (y_Md_isOwnHere, h + 1, sl) u 299 [(0, (2, 125))] [(0, 1)] M Q) ∧ (¬ (¬ s0 = 0) → zCt G h sl 0 0 y_Md_isHere [(2, 125), (2, 146)] M (fun r1 M2 => (¬ r1 = 0 → zX G (y_Md_isOwnHere, h + 1, sl) u 299 [(0, (2, 125))] [(0, 1)] M2 Q) ∧ (¬ (¬ r1 = 0) → zCt G h sl 0 0 y_Md_isHere [(2, 125), (2, 147)] M2 (fun r4 M5 => (¬ r4 = 0 → zX G (y_Md_isOwnHere, h + 1, sl) u 299 [(0, (2, 125))] [(0, 1)] M5 Q) ∧ (¬ (¬ r4 = 0) → zCt G h sl 0 0 y_Md_isHere [(2, 125), (2, 148)] M5 (fun r7 M8 => (¬ r7 = 0 → zX G (y_Md_isOwnHere, h + 1, sl) u 299 [(0, (2, 125))] [(0, 1)] M8 Q) ∧ (¬ (¬ r7 = 0) → zCt G h sl 0 0 y_Md_isHere [(2, 125), (2, 149)] M8 (fun r10 M11 => (¬ r10 = 0 → zX G (y_Md_isOwnHere, h + 1, sl) u 299 [(0, (2, 125))] [(0, 1)] M11 Q) ∧ (¬ (¬ r10 = 0) → zCt G h sl 0 0 y_Md_isHere [(2, 125), (2, 150)] M11 (fun r13 M14 => (¬ r13 = 0 → zX G (y_Md_isOwnHere, h + 1, sl) u 299 [(0, (2, 125))] [(0, 1)] M14 Q) ∧ (¬ (¬ r13 = 0) → zCt G h sl 0 0 y_Md_isHere [(2, 125), (2, 151)] M14 (fun r16 M17 => (r16 = 0 → zX G (y_Md_isOwnHere, h + 1, sl) u 299 [(0, (2, 125))] [(0, 0)] M17 Q) ∧ (¬ r16 = 0 → zX G (y_Md_isOwnHere, h + 1, sl) u 299 [(0, (2, 125))] [(0, 1)] M17 Q)))))))))))))) : zX G (y_Md_isOwnHere, h + 1, sl) u 223 [(0, (2, 125))] [(0, s0)] M Q := by
  refine x_istore_n (zdm d_Md_isOwnHere_1 45 rfl) rfl (zlt rfl) rfl ?_
  refine x_iload_n (zdm d_Md_isOwnHere_1 46 rfl) rfl (n := 0) rfl ?_
  refine x_ifne (tgt := 294) (zdm d_Md_isOwnHere_1 47 rfl) (by decide) (fun c => ?_) (fun c => ?_)
  · have H := H.1 c
    refine x_iconst (zdm d_Md_isOwnHere_2 18 rfl) (zIl rfl) ?_
    refine x_goto (tgt := 299) (zdm d_Md_isOwnHere_2 19 rfl) (by decide) ?_
    exact zX.sub [1] rfl H
  · have H := H.2 c
    refine x_aload_n (zdm d_Md_isOwnHere_1 48 rfl) rfl (n := 1) rfl ?_
    refine x_aload_n (zdm d_Md_isOwnHere_1 49 rfl) rfl (n := 1) rfl ?_
    refine x_getG (zdm d_Md_isOwnHere_1 50 rfl) f_Md_75 rfl rfl (by decide) hsl rfl ?_
    refine x_callVi (n := 1) (ci := 11) (zdm d_Md_isOwnHere_1 51 rfl) k_Md_260 (As := [(2, 146)]) rfl rfl rfl ⟨_, _, rfl⟩ (Nat.le_of_ble_eq_true rfl) trivial H (fun r1 M2 hr H => ?_)
    have b3 : r1 = 0 ∨ r1 = 1 := hr
    refine x_ifne (tgt := 294) (zdm d_Md_isOwnHere_1 52 rfl) (by decide) (fun c => ?_) (fun c => ?_)
    · have H := H.1 c
      refine x_iconst (zdm d_Md_isOwnHere_2 18 rfl) (zIl rfl) ?_
      refine x_goto (tgt := 299) (zdm d_Md_isOwnHere_2 19 rfl) (by decide) ?_
      exact zX.sub [1] rfl H
    · have H := H.2 c
      refine x_aload_n (zdm d_Md_isOwnHere_1 53 rfl) rfl (n := 1) rfl ?_
      refine x_aload_n (zdm d_Md_isOwnHere_1 54 rfl) rfl (n := 1) rfl ?_
      refine x_getG (zdm d_Md_isOwnHere_1 55 rfl) f_Md_78 rfl rfl (by decide) hsl rfl ?_
      refine x_callVi (n := 1) (ci := 11) (zdm d_Md_isOwnHere_1 56 rfl) k_Md_260 (As := [(2, 147)]) rfl rfl rfl ⟨_, _, rfl⟩ (Nat.le_of_ble_eq_true rfl) trivial H (fun r4 M5 hr H => ?_)
      have b6 : r4 = 0 ∨ r4 = 1 := hr
      refine x_ifne (tgt := 294) (zdm d_Md_isOwnHere_1 57 rfl) (by decide) (fun c => ?_) (fun c => ?_)
      · have H := H.1 c
        refine x_iconst (zdm d_Md_isOwnHere_2 18 rfl) (zIl rfl) ?_
        refine x_goto (tgt := 299) (zdm d_Md_isOwnHere_2 19 rfl) (by decide) ?_
        exact zX.sub [1] rfl H
      · have H := H.2 c
        refine x_aload_n (zdm d_Md_isOwnHere_1 58 rfl) rfl (n := 1) rfl ?_
        refine x_aload_n (zdm d_Md_isOwnHere_1 59 rfl) rfl (n := 1) rfl ?_
        refine x_getG (zdm d_Md_isOwnHere_2 0 rfl) f_Md_81 rfl rfl (by decide) hsl rfl ?_
        refine x_callVi (n := 1) (ci := 11) (zdm d_Md_isOwnHere_2 1 rfl) k_Md_260 (As := [(2, 148)]) rfl rfl rfl ⟨_, _, rfl⟩ (Nat.le_of_ble_eq_true rfl) trivial H (fun r7 M8 hr H => ?_)
        have b9 : r7 = 0 ∨ r7 = 1 := hr
        refine x_ifne (tgt := 294) (zdm d_Md_isOwnHere_2 2 rfl) (by decide) (fun c => ?_) (fun c => ?_)
        · have H := H.1 c
          refine x_iconst (zdm d_Md_isOwnHere_2 18 rfl) (zIl rfl) ?_
          refine x_goto (tgt := 299) (zdm d_Md_isOwnHere_2 19 rfl) (by decide) ?_
          exact zX.sub [1] rfl H
        · have H := H.2 c
          refine x_aload_n (zdm d_Md_isOwnHere_2 3 rfl) rfl (n := 1) rfl ?_
          refine x_aload_n (zdm d_Md_isOwnHere_2 4 rfl) rfl (n := 1) rfl ?_
          refine x_getG (zdm d_Md_isOwnHere_2 5 rfl) f_Md_84 rfl rfl (by decide) hsl rfl ?_
          refine x_callVi (n := 1) (ci := 11) (zdm d_Md_isOwnHere_2 6 rfl) k_Md_260 (As := [(2, 149)]) rfl rfl rfl ⟨_, _, rfl⟩ (Nat.le_of_ble_eq_true rfl) trivial H (fun r10 M11 hr H => ?_)
          have b12 : r10 = 0 ∨ r10 = 1 := hr
          refine x_ifne (tgt := 294) (zdm d_Md_isOwnHere_2 7 rfl) (by decide) (fun c => ?_) (fun c => ?_)
          · have H := H.1 c
            refine x_iconst (zdm d_Md_isOwnHere_2 18 rfl) (zIl rfl) ?_
            refine x_goto (tgt := 299) (zdm d_Md_isOwnHere_2 19 rfl) (by decide) ?_
            exact zX.sub [1] rfl H
          · have H := H.2 c
            refine x_aload_n (zdm d_Md_isOwnHere_2 8 rfl) rfl (n := 1) rfl ?_
            refine x_aload_n (zdm d_Md_isOwnHere_2 9 rfl) rfl (n := 1) rfl ?_
            refine x_getG (zdm d_Md_isOwnHere_2 10 rfl) f_Md_87 rfl rfl (by decide) hsl rfl ?_
            refine x_callVi (n := 1) (ci := 11) (zdm d_Md_isOwnHere_2 11 rfl) k_Md_260 (As := [(2, 150)]) rfl rfl rfl ⟨_, _, rfl⟩ (Nat.le_of_ble_eq_true rfl) trivial H (fun r13 M14 hr H => ?_)
            have b15 : r13 = 0 ∨ r13 = 1 := hr
            refine x_ifne (tgt := 294) (zdm d_Md_isOwnHere_2 12 rfl) (by decide) (fun c => ?_) (fun c => ?_)
            · have H := H.1 c
              refine x_iconst (zdm d_Md_isOwnHere_2 18 rfl) (zIl rfl) ?_
              refine x_goto (tgt := 299) (zdm d_Md_isOwnHere_2 19 rfl) (by decide) ?_
              exact zX.sub [1] rfl H
            · have H := H.2 c
              refine x_aload_n (zdm d_Md_isOwnHere_2 13 rfl) rfl (n := 1) rfl ?_
              refine x_aload_n (zdm d_Md_isOwnHere_2 14 rfl) rfl (n := 1) rfl ?_
              refine x_getG (zdm d_Md_isOwnHere_2 15 rfl) f_Md_90 rfl rfl (by decide) hsl rfl ?_
              refine x_callVi (n := 1) (ci := 11) (zdm d_Md_isOwnHere_2 16 rfl) k_Md_260 (As := [(2, 151)]) rfl rfl rfl ⟨_, _, rfl⟩ (Nat.le_of_ble_eq_true rfl) trivial H (fun r16 M17 hr H => ?_)
              have b18 : r16 = 0 ∨ r16 = 1 := hr
              refine x_ifeq (tgt := 298) (zdm d_Md_isOwnHere_2 17 rfl) (by decide) (fun c => ?_) (fun c => ?_)
              · have H := H.1 c
                refine x_iconst (zdm d_Md_isOwnHere_2 20 rfl) (zIl rfl) ?_
                exact zX.sub [1] rfl H
              · have H := H.2 c
                refine x_iconst (zdm d_Md_isOwnHere_2 18 rfl) (zIl rfl) ?_
                refine x_goto (tgt := 299) (zdm d_Md_isOwnHere_2 19 rfl) (by decide) ?_
                exact zX.sub [1] rfl H
set_option maxRecDepth 20000 in
set_option maxHeartbeats 4000000 in
theorem B_Md_isOwnHere_147 {G : zG} {h sl : Nat} (hsl : 2 ≤ sl) {u : Nat × Nat × Nat × Nat} {s0 : Int} {M : zM} {Q : Int → zM → Prop} (H : (¬ s0 = 0 → zX G (y_Md_isOwnHere, h + 1, sl) u 223 [(0, (2, 125))] [(0, 1)] M Q) ∧ (¬ (¬ s0 = 0) → zCt G h sl 0 0 y_Md_isHere [(2, 125), (2, 140)] M (fun r1 M2 => (¬ r1 = 0 → zX G (y_Md_isOwnHere, h + 1, sl) u 223 [(0, (2, 125))] [(0, 1)] M2 Q) ∧ (¬ (¬ r1 = 0) → zCt G h sl 0 0 y_Md_isHere [(2, 125), (2, 141)] M2 (fun r4 M5 => (¬ r4 = 0 → zX G (y_Md_isOwnHere, h + 1, sl) u 223 [(0, (2, 125))] [(0, 1)] M5 Q) ∧ (¬ (¬ r4 = 0) → zCt G h sl 0 0 y_Md_isHere [(2, 125), (2, 142)] M5 (fun r7 M8 => (¬ r7 = 0 → zX G (y_Md_isOwnHere, h + 1, sl) u 223 [(0, (2, 125))] [(0, 1)] M8 Q) ∧ (¬ (¬ r7 = 0) → zCt G h sl 0 0 y_Md_isHere [(2, 125), (2, 143)] M8 (fun r10 M11 => (¬ r10 = 0 → zX G (y_Md_isOwnHere, h + 1, sl) u 223 [(0, (2, 125))] [(0, 1)] M11 Q) ∧ (¬ (¬ r10 = 0) → zCt G h sl 0 0 y_Md_isHere [(2, 125), (2, 144)] M11 (fun r13 M14 => (¬ r13 = 0 → zX G (y_Md_isOwnHere, h + 1, sl) u 223 [(0, (2, 125))] [(0, 1)] M14 Q) ∧ (¬ (¬ r13 = 0) → zCt G h sl 0 0 y_Md_isHere [(2, 125), (2, 145)] M14 (fun r16 M17 => (r16 = 0 → zX G (y_Md_isOwnHere, h + 1, sl) u 223 [(0, (2, 125))] [(0, 0)] M17 Q) ∧ (¬ r16 = 0 → zX G (y_Md_isOwnHere, h + 1, sl) u 223 [(0, (2, 125))] [(0, 1)] M17 Q)))))))))))))) : zX G (y_Md_isOwnHere, h + 1, sl) u 147 [(0, (2, 125))] [(0, s0)] M Q := by
  refine x_istore_n (zdm d_Md_isOwnHere_1 9 rfl) rfl (zlt rfl) rfl ?_
  refine x_iload_n (zdm d_Md_isOwnHere_1 10 rfl) rfl (n := 0) rfl ?_
  refine x_ifne (tgt := 218) (zdm d_Md_isOwnHere_1 11 rfl) (by decide) (fun c => ?_) (fun c => ?_)
  · have H := H.1 c
    refine x_iconst (zdm d_Md_isOwnHere_1 42 rfl) (zIl rfl) ?_
    refine x_goto (tgt := 223) (zdm d_Md_isOwnHere_1 43 rfl) (by decide) ?_
    exact zX.sub [1] rfl H
  · have H := H.2 c
    refine x_aload_n (zdm d_Md_isOwnHere_1 12 rfl) rfl (n := 1) rfl ?_
    refine x_aload_n (zdm d_Md_isOwnHere_1 13 rfl) rfl (n := 1) rfl ?_
    refine x_getG (zdm d_Md_isOwnHere_1 14 rfl) f_Md_57 rfl rfl (by decide) hsl rfl ?_
    refine x_callVi (n := 1) (ci := 11) (zdm d_Md_isOwnHere_1 15 rfl) k_Md_260 (As := [(2, 140)]) rfl rfl rfl ⟨_, _, rfl⟩ (Nat.le_of_ble_eq_true rfl) trivial H (fun r1 M2 hr H => ?_)
    have b3 : r1 = 0 ∨ r1 = 1 := hr
    refine x_ifne (tgt := 218) (zdm d_Md_isOwnHere_1 16 rfl) (by decide) (fun c => ?_) (fun c => ?_)
    · have H := H.1 c
      refine x_iconst (zdm d_Md_isOwnHere_1 42 rfl) (zIl rfl) ?_
      refine x_goto (tgt := 223) (zdm d_Md_isOwnHere_1 43 rfl) (by decide) ?_
      exact zX.sub [1] rfl H
    · have H := H.2 c
      refine x_aload_n (zdm d_Md_isOwnHere_1 17 rfl) rfl (n := 1) rfl ?_
      refine x_aload_n (zdm d_Md_isOwnHere_1 18 rfl) rfl (n := 1) rfl ?_
      refine x_getG (zdm d_Md_isOwnHere_1 19 rfl) f_Md_60 rfl rfl (by decide) hsl rfl ?_
      refine x_callVi (n := 1) (ci := 11) (zdm d_Md_isOwnHere_1 20 rfl) k_Md_260 (As := [(2, 141)]) rfl rfl rfl ⟨_, _, rfl⟩ (Nat.le_of_ble_eq_true rfl) trivial H (fun r4 M5 hr H => ?_)
      have b6 : r4 = 0 ∨ r4 = 1 := hr
      refine x_ifne (tgt := 218) (zdm d_Md_isOwnHere_1 21 rfl) (by decide) (fun c => ?_) (fun c => ?_)
      · have H := H.1 c
        refine x_iconst (zdm d_Md_isOwnHere_1 42 rfl) (zIl rfl) ?_
        refine x_goto (tgt := 223) (zdm d_Md_isOwnHere_1 43 rfl) (by decide) ?_
        exact zX.sub [1] rfl H
      · have H := H.2 c
        refine x_aload_n (zdm d_Md_isOwnHere_1 22 rfl) rfl (n := 1) rfl ?_
        refine x_aload_n (zdm d_Md_isOwnHere_1 23 rfl) rfl (n := 1) rfl ?_
        refine x_getG (zdm d_Md_isOwnHere_1 24 rfl) f_Md_63 rfl rfl (by decide) hsl rfl ?_
        refine x_callVi (n := 1) (ci := 11) (zdm d_Md_isOwnHere_1 25 rfl) k_Md_260 (As := [(2, 142)]) rfl rfl rfl ⟨_, _, rfl⟩ (Nat.le_of_ble_eq_true rfl) trivial H (fun r7 M8 hr H => ?_)
        have b9 : r7 = 0 ∨ r7 = 1 := hr
        refine x_ifne (tgt := 218) (zdm d_Md_isOwnHere_1 26 rfl) (by decide) (fun c => ?_) (fun c => ?_)
        · have H := H.1 c
          refine x_iconst (zdm d_Md_isOwnHere_1 42 rfl) (zIl rfl) ?_
          refine x_goto (tgt := 223) (zdm d_Md_isOwnHere_1 43 rfl) (by decide) ?_
          exact zX.sub [1] rfl H
        · have H := H.2 c
          refine x_aload_n (zdm d_Md_isOwnHere_1 27 rfl) rfl (n := 1) rfl ?_
          refine x_aload_n (zdm d_Md_isOwnHere_1 28 rfl) rfl (n := 1) rfl ?_
          refine x_getG (zdm d_Md_isOwnHere_1 29 rfl) f_Md_66 rfl rfl (by decide) hsl rfl ?_
          refine x_callVi (n := 1) (ci := 11) (zdm d_Md_isOwnHere_1 30 rfl) k_Md_260 (As := [(2, 143)]) rfl rfl rfl ⟨_, _, rfl⟩ (Nat.le_of_ble_eq_true rfl) trivial H (fun r10 M11 hr H => ?_)
          have b12 : r10 = 0 ∨ r10 = 1 := hr
          refine x_ifne (tgt := 218) (zdm d_Md_isOwnHere_1 31 rfl) (by decide) (fun c => ?_) (fun c => ?_)
          · have H := H.1 c
            refine x_iconst (zdm d_Md_isOwnHere_1 42 rfl) (zIl rfl) ?_
            refine x_goto (tgt := 223) (zdm d_Md_isOwnHere_1 43 rfl) (by decide) ?_
            exact zX.sub [1] rfl H
          · have H := H.2 c
            refine x_aload_n (zdm d_Md_isOwnHere_1 32 rfl) rfl (n := 1) rfl ?_
            refine x_aload_n (zdm d_Md_isOwnHere_1 33 rfl) rfl (n := 1) rfl ?_
            refine x_getG (zdm d_Md_isOwnHere_1 34 rfl) f_Md_69 rfl rfl (by decide) hsl rfl ?_
            refine x_callVi (n := 1) (ci := 11) (zdm d_Md_isOwnHere_1 35 rfl) k_Md_260 (As := [(2, 144)]) rfl rfl rfl ⟨_, _, rfl⟩ (Nat.le_of_ble_eq_true rfl) trivial H (fun r13 M14 hr H => ?_)
            have b15 : r13 = 0 ∨ r13 = 1 := hr
            refine x_ifne (tgt := 218) (zdm d_Md_isOwnHere_1 36 rfl) (by decide) (fun c => ?_) (fun c => ?_)
            · have H := H.1 c
              refine x_iconst (zdm d_Md_isOwnHere_1 42 rfl) (zIl rfl) ?_
              refine x_goto (tgt := 223) (zdm d_Md_isOwnHere_1 43 rfl) (by decide) ?_
              exact zX.sub [1] rfl H
            · have H := H.2 c
              refine x_aload_n (zdm d_Md_isOwnHere_1 37 rfl) rfl (n := 1) rfl ?_
              refine x_aload_n (zdm d_Md_isOwnHere_1 38 rfl) rfl (n := 1) rfl ?_
              refine x_getG (zdm d_Md_isOwnHere_1 39 rfl) f_Md_72 rfl rfl (by decide) hsl rfl ?_
              refine x_callVi (n := 1) (ci := 11) (zdm d_Md_isOwnHere_1 40 rfl) k_Md_260 (As := [(2, 145)]) rfl rfl rfl ⟨_, _, rfl⟩ (Nat.le_of_ble_eq_true rfl) trivial H (fun r16 M17 hr H => ?_)
              have b18 : r16 = 0 ∨ r16 = 1 := hr
              refine x_ifeq (tgt := 222) (zdm d_Md_isOwnHere_1 41 rfl) (by decide) (fun c => ?_) (fun c => ?_)
              · have H := H.1 c
                refine x_iconst (zdm d_Md_isOwnHere_1 44 rfl) (zIl rfl) ?_
                exact zX.sub [1] rfl H
              · have H := H.2 c
                refine x_iconst (zdm d_Md_isOwnHere_1 42 rfl) (zIl rfl) ?_
                refine x_goto (tgt := 223) (zdm d_Md_isOwnHere_1 43 rfl) (by decide) ?_
                exact zX.sub [1] rfl H
set_option maxRecDepth 20000 in
set_option maxHeartbeats 4000000 in
theorem B_Md_isOwnHere_71 {G : zG} {h sl : Nat} (hsl : 2 ≤ sl) {u : Nat × Nat × Nat × Nat} {s0 : Int} {M : zM} {Q : Int → zM → Prop} (H : (¬ s0 = 0 → zX G (y_Md_isOwnHere, h + 1, sl) u 147 [(0, (2, 125))] [(0, 1)] M Q) ∧ (¬ (¬ s0 = 0) → zCt G h sl 0 0 y_Md_isHere [(2, 125), (2, 134)] M (fun r1 M2 => (¬ r1 = 0 → zX G (y_Md_isOwnHere, h + 1, sl) u 147 [(0, (2, 125))] [(0, 1)] M2 Q) ∧ (¬ (¬ r1 = 0) → zCt G h sl 0 0 y_Md_isHere [(2, 125), (2, 135)] M2 (fun r4 M5 => (¬ r4 = 0 → zX G (y_Md_isOwnHere, h + 1, sl) u 147 [(0, (2, 125))] [(0, 1)] M5 Q) ∧ (¬ (¬ r4 = 0) → zCt G h sl 0 0 y_Md_isHere [(2, 125), (2, 136)] M5 (fun r7 M8 => (¬ r7 = 0 → zX G (y_Md_isOwnHere, h + 1, sl) u 147 [(0, (2, 125))] [(0, 1)] M8 Q) ∧ (¬ (¬ r7 = 0) → zCt G h sl 0 0 y_Md_isHere [(2, 125), (2, 137)] M8 (fun r10 M11 => (¬ r10 = 0 → zX G (y_Md_isOwnHere, h + 1, sl) u 147 [(0, (2, 125))] [(0, 1)] M11 Q) ∧ (¬ (¬ r10 = 0) → zCt G h sl 0 0 y_Md_isHere [(2, 125), (2, 138)] M11 (fun r13 M14 => (¬ r13 = 0 → zX G (y_Md_isOwnHere, h + 1, sl) u 147 [(0, (2, 125))] [(0, 1)] M14 Q) ∧ (¬ (¬ r13 = 0) → zCt G h sl 0 0 y_Md_isHere [(2, 125), (2, 139)] M14 (fun r16 M17 => (r16 = 0 → zX G (y_Md_isOwnHere, h + 1, sl) u 147 [(0, (2, 125))] [(0, 0)] M17 Q) ∧ (¬ r16 = 0 → zX G (y_Md_isOwnHere, h + 1, sl) u 147 [(0, (2, 125))] [(0, 1)] M17 Q)))))))))))))) : zX G (y_Md_isOwnHere, h + 1, sl) u 71 [(0, (2, 125))] [(0, s0)] M Q := by
  refine x_istore_n (zdm d_Md_isOwnHere_0 33 rfl) rfl (zlt rfl) rfl ?_
  refine x_iload_n (zdm d_Md_isOwnHere_0 34 rfl) rfl (n := 0) rfl ?_
  refine x_ifne (tgt := 142) (zdm d_Md_isOwnHere_0 35 rfl) (by decide) (fun c => ?_) (fun c => ?_)
  · have H := H.1 c
    refine x_iconst (zdm d_Md_isOwnHere_1 6 rfl) (zIl rfl) ?_
    refine x_goto (tgt := 147) (zdm d_Md_isOwnHere_1 7 rfl) (by decide) ?_
    exact zX.sub [1] rfl H
  · have H := H.2 c
    refine x_aload_n (zdm d_Md_isOwnHere_0 36 rfl) rfl (n := 1) rfl ?_
    refine x_aload_n (zdm d_Md_isOwnHere_0 37 rfl) rfl (n := 1) rfl ?_
    refine x_getG (zdm d_Md_isOwnHere_0 38 rfl) f_Md_39 rfl rfl (by decide) hsl rfl ?_
    refine x_callVi (n := 1) (ci := 11) (zdm d_Md_isOwnHere_0 39 rfl) k_Md_260 (As := [(2, 134)]) rfl rfl rfl ⟨_, _, rfl⟩ (Nat.le_of_ble_eq_true rfl) trivial H (fun r1 M2 hr H => ?_)
    have b3 : r1 = 0 ∨ r1 = 1 := hr
    refine x_ifne (tgt := 142) (zdm d_Md_isOwnHere_0 40 rfl) (by decide) (fun c => ?_) (fun c => ?_)
    · have H := H.1 c
      refine x_iconst (zdm d_Md_isOwnHere_1 6 rfl) (zIl rfl) ?_
      refine x_goto (tgt := 147) (zdm d_Md_isOwnHere_1 7 rfl) (by decide) ?_
      exact zX.sub [1] rfl H
    · have H := H.2 c
      refine x_aload_n (zdm d_Md_isOwnHere_0 41 rfl) rfl (n := 1) rfl ?_
      refine x_aload_n (zdm d_Md_isOwnHere_0 42 rfl) rfl (n := 1) rfl ?_
      refine x_getG (zdm d_Md_isOwnHere_0 43 rfl) f_Md_42 rfl rfl (by decide) hsl rfl ?_
      refine x_callVi (n := 1) (ci := 11) (zdm d_Md_isOwnHere_0 44 rfl) k_Md_260 (As := [(2, 135)]) rfl rfl rfl ⟨_, _, rfl⟩ (Nat.le_of_ble_eq_true rfl) trivial H (fun r4 M5 hr H => ?_)
      have b6 : r4 = 0 ∨ r4 = 1 := hr
      refine x_ifne (tgt := 142) (zdm d_Md_isOwnHere_0 45 rfl) (by decide) (fun c => ?_) (fun c => ?_)
      · have H := H.1 c
        refine x_iconst (zdm d_Md_isOwnHere_1 6 rfl) (zIl rfl) ?_
        refine x_goto (tgt := 147) (zdm d_Md_isOwnHere_1 7 rfl) (by decide) ?_
        exact zX.sub [1] rfl H
      · have H := H.2 c
        refine x_aload_n (zdm d_Md_isOwnHere_0 46 rfl) rfl (n := 1) rfl ?_
        refine x_aload_n (zdm d_Md_isOwnHere_0 47 rfl) rfl (n := 1) rfl ?_
        refine x_getG (zdm d_Md_isOwnHere_0 48 rfl) f_Md_45 rfl rfl (by decide) hsl rfl ?_
        refine x_callVi (n := 1) (ci := 11) (zdm d_Md_isOwnHere_0 49 rfl) k_Md_260 (As := [(2, 136)]) rfl rfl rfl ⟨_, _, rfl⟩ (Nat.le_of_ble_eq_true rfl) trivial H (fun r7 M8 hr H => ?_)
        have b9 : r7 = 0 ∨ r7 = 1 := hr
        refine x_ifne (tgt := 142) (zdm d_Md_isOwnHere_0 50 rfl) (by decide) (fun c => ?_) (fun c => ?_)
        · have H := H.1 c
          refine x_iconst (zdm d_Md_isOwnHere_1 6 rfl) (zIl rfl) ?_
          refine x_goto (tgt := 147) (zdm d_Md_isOwnHere_1 7 rfl) (by decide) ?_
          exact zX.sub [1] rfl H
        · have H := H.2 c
          refine x_aload_n (zdm d_Md_isOwnHere_0 51 rfl) rfl (n := 1) rfl ?_
          refine x_aload_n (zdm d_Md_isOwnHere_0 52 rfl) rfl (n := 1) rfl ?_
          refine x_getG (zdm d_Md_isOwnHere_0 53 rfl) f_Md_48 rfl rfl (by decide) hsl rfl ?_
          refine x_callVi (n := 1) (ci := 11) (zdm d_Md_isOwnHere_0 54 rfl) k_Md_260 (As := [(2, 137)]) rfl rfl rfl ⟨_, _, rfl⟩ (Nat.le_of_ble_eq_true rfl) trivial H (fun r10 M11 hr H => ?_)
          have b12 : r10 = 0 ∨ r10 = 1 := hr
          refine x_ifne (tgt := 142) (zdm d_Md_isOwnHere_0 55 rfl) (by decide) (fun c => ?_) (fun c => ?_)
          · have H := H.1 c
            refine x_iconst (zdm d_Md_isOwnHere_1 6 rfl) (zIl rfl) ?_
            refine x_goto (tgt := 147) (zdm d_Md_isOwnHere_1 7 rfl) (by decide) ?_
            exact zX.sub [1] rfl H
          · have H := H.2 c
            refine x_aload_n (zdm d_Md_isOwnHere_0 56 rfl) rfl (n := 1) rfl ?_
            refine x_aload_n (zdm d_Md_isOwnHere_0 57 rfl) rfl (n := 1) rfl ?_
            refine x_getG (zdm d_Md_isOwnHere_0 58 rfl) f_Md_51 rfl rfl (by decide) hsl rfl ?_
            refine x_callVi (n := 1) (ci := 11) (zdm d_Md_isOwnHere_0 59 rfl) k_Md_260 (As := [(2, 138)]) rfl rfl rfl ⟨_, _, rfl⟩ (Nat.le_of_ble_eq_true rfl) trivial H (fun r13 M14 hr H => ?_)
            have b15 : r13 = 0 ∨ r13 = 1 := hr
            refine x_ifne (tgt := 142) (zdm d_Md_isOwnHere_1 0 rfl) (by decide) (fun c => ?_) (fun c => ?_)
            · have H := H.1 c
              refine x_iconst (zdm d_Md_isOwnHere_1 6 rfl) (zIl rfl) ?_
              refine x_goto (tgt := 147) (zdm d_Md_isOwnHere_1 7 rfl) (by decide) ?_
              exact zX.sub [1] rfl H
            · have H := H.2 c
              refine x_aload_n (zdm d_Md_isOwnHere_1 1 rfl) rfl (n := 1) rfl ?_
              refine x_aload_n (zdm d_Md_isOwnHere_1 2 rfl) rfl (n := 1) rfl ?_
              refine x_getG (zdm d_Md_isOwnHere_1 3 rfl) f_Md_54 rfl rfl (by decide) hsl rfl ?_
              refine x_callVi (n := 1) (ci := 11) (zdm d_Md_isOwnHere_1 4 rfl) k_Md_260 (As := [(2, 139)]) rfl rfl rfl ⟨_, _, rfl⟩ (Nat.le_of_ble_eq_true rfl) trivial H (fun r16 M17 hr H => ?_)
              have b18 : r16 = 0 ∨ r16 = 1 := hr
              refine x_ifeq (tgt := 146) (zdm d_Md_isOwnHere_1 5 rfl) (by decide) (fun c => ?_) (fun c => ?_)
              · have H := H.1 c
                refine x_iconst (zdm d_Md_isOwnHere_1 8 rfl) (zIl rfl) ?_
                exact zX.sub [1] rfl H
              · have H := H.2 c
                refine x_iconst (zdm d_Md_isOwnHere_1 6 rfl) (zIl rfl) ?_
                refine x_goto (tgt := 147) (zdm d_Md_isOwnHere_1 7 rfl) (by decide) ?_
                exact zX.sub [1] rfl H
set_option maxRecDepth 20000 in
set_option maxHeartbeats 4000000 in
theorem E_Md_isOwnHere {G : zG} {h sl : Nat} (hsl : 2 ≤ sl) {M : zM} {Q : Int → zM → Prop} (H : zCt G h sl 0 0 y_Md_isHere [(2, 125), (2, 128)] M (fun r1 M2 => (¬ r1 = 0 → zX G (y_Md_isOwnHere, h + 1, sl) (0, 0, 0, 0) 71 [(0, (2, 125))] [(0, 1)] M2 Q) ∧ (¬ (¬ r1 = 0) → zCt G h sl 0 0 y_Md_isHere [(2, 125), (2, 129)] M2 (fun r4 M5 => (¬ r4 = 0 → zX G (y_Md_isOwnHere, h + 1, sl) (0, 0, 0, 0) 71 [(0, (2, 125))] [(0, 1)] M5 Q) ∧ (¬ (¬ r4 = 0) → zCt G h sl 0 0 y_Md_isHere [(2, 125), (2, 130)] M5 (fun r7 M8 => (¬ r7 = 0 → zX G (y_Md_isOwnHere, h + 1, sl) (0, 0, 0, 0) 71 [(0, (2, 125))] [(0, 1)] M8 Q) ∧ (¬ (¬ r7 = 0) → zCt G h sl 0 0 y_Md_isHere [(2, 125), (2, 131)] M8 (fun r10 M11 => (¬ r10 = 0 → zX G (y_Md_isOwnHere, h + 1, sl) (0, 0, 0, 0) 71 [(0, (2, 125))] [(0, 1)] M11 Q) ∧ (¬ (¬ r10 = 0) → zCt G h sl 0 0 y_Md_isHere [(2, 125), (2, 132)] M11 (fun r13 M14 => (¬ r13 = 0 → zX G (y_Md_isOwnHere, h + 1, sl) (0, 0, 0, 0) 71 [(0, (2, 125))] [(0, 1)] M14 Q) ∧ (¬ (¬ r13 = 0) → zCt G h sl 0 0 y_Md_isHere [(2, 125), (2, 133)] M14 (fun r16 M17 => (r16 = 0 → zX G (y_Md_isOwnHere, h + 1, sl) (0, 0, 0, 0) 71 [(0, (2, 125))] [(0, 0)] M17 Q) ∧ (¬ r16 = 0 → zX G (y_Md_isOwnHere, h + 1, sl) (0, 0, 0, 0) 71 [(0, (2, 125))] [(0, 1)] M17 Q))))))))))))) : zCt G (h + 1) sl 0 0 y_Md_isOwnHere [(2, 125)] M Q := by
  refine zCt.of (by decide +kernel) (Nat.le_of_ble_eq_true rfl) ?_
  refine x_aload_n (zdm d_Md_isOwnHere_0 0 rfl) rfl (n := 0) rfl ?_
  refine x_aload_n (zdm d_Md_isOwnHere_0 1 rfl) rfl (n := 0) rfl ?_
  refine x_getG (zdm d_Md_isOwnHere_0 2 rfl) f_Md_20 rfl rfl (by decide) hsl rfl ?_
  refine x_callVi (n := 1) (ci := 11) (zdm d_Md_isOwnHere_0 3 rfl) k_Md_260 (As := [(2, 128)]) rfl rfl rfl ⟨_, _, rfl⟩ (Nat.le_of_ble_eq_true rfl) trivial H (fun r1 M2 hr H => ?_)
  have b3 : r1 = 0 ∨ r1 = 1 := hr
  refine x_ifne (tgt := 66) (zdm d_Md_isOwnHere_0 4 rfl) (by decide) (fun c => ?_) (fun c => ?_)
  · have H := H.1 c
    refine x_iconst (zdm d_Md_isOwnHere_0 30 rfl) (zIl rfl) ?_
    refine x_goto (tgt := 71) (zdm d_Md_isOwnHere_0 31 rfl) (by decide) ?_
    exact H
  · have H := H.2 c
    refine x_aload_n (zdm d_Md_isOwnHere_0 5 rfl) rfl (n := 0) rfl ?_
    refine x_aload_n (zdm d_Md_isOwnHere_0 6 rfl) rfl (n := 0) rfl ?_
    refine x_getG (zdm d_Md_isOwnHere_0 7 rfl) f_Md_24 rfl rfl (by decide) hsl rfl ?_
    refine x_callVi (n := 1) (ci := 11) (zdm d_Md_isOwnHere_0 8 rfl) k_Md_260 (As := [(2, 129)]) rfl rfl rfl ⟨_, _, rfl⟩ (Nat.le_of_ble_eq_true rfl) trivial H (fun r4 M5 hr H => ?_)
    have b6 : r4 = 0 ∨ r4 = 1 := hr
    refine x_ifne (tgt := 66) (zdm d_Md_isOwnHere_0 9 rfl) (by decide) (fun c => ?_) (fun c => ?_)
    · have H := H.1 c
      refine x_iconst (zdm d_Md_isOwnHere_0 30 rfl) (zIl rfl) ?_
      refine x_goto (tgt := 71) (zdm d_Md_isOwnHere_0 31 rfl) (by decide) ?_
      exact H
    · have H := H.2 c
      refine x_aload_n (zdm d_Md_isOwnHere_0 10 rfl) rfl (n := 0) rfl ?_
      refine x_aload_n (zdm d_Md_isOwnHere_0 11 rfl) rfl (n := 0) rfl ?_
      refine x_getG (zdm d_Md_isOwnHere_0 12 rfl) f_Md_27 rfl rfl (by decide) hsl rfl ?_
      refine x_callVi (n := 1) (ci := 11) (zdm d_Md_isOwnHere_0 13 rfl) k_Md_260 (As := [(2, 130)]) rfl rfl rfl ⟨_, _, rfl⟩ (Nat.le_of_ble_eq_true rfl) trivial H (fun r7 M8 hr H => ?_)
      have b9 : r7 = 0 ∨ r7 = 1 := hr
      refine x_ifne (tgt := 66) (zdm d_Md_isOwnHere_0 14 rfl) (by decide) (fun c => ?_) (fun c => ?_)
      · have H := H.1 c
        refine x_iconst (zdm d_Md_isOwnHere_0 30 rfl) (zIl rfl) ?_
        refine x_goto (tgt := 71) (zdm d_Md_isOwnHere_0 31 rfl) (by decide) ?_
        exact H
      · have H := H.2 c
        refine x_aload_n (zdm d_Md_isOwnHere_0 15 rfl) rfl (n := 0) rfl ?_
        refine x_aload_n (zdm d_Md_isOwnHere_0 16 rfl) rfl (n := 0) rfl ?_
        refine x_getG (zdm d_Md_isOwnHere_0 17 rfl) f_Md_30 rfl rfl (by decide) hsl rfl ?_
        refine x_callVi (n := 1) (ci := 11) (zdm d_Md_isOwnHere_0 18 rfl) k_Md_260 (As := [(2, 131)]) rfl rfl rfl ⟨_, _, rfl⟩ (Nat.le_of_ble_eq_true rfl) trivial H (fun r10 M11 hr H => ?_)
        have b12 : r10 = 0 ∨ r10 = 1 := hr
        refine x_ifne (tgt := 66) (zdm d_Md_isOwnHere_0 19 rfl) (by decide) (fun c => ?_) (fun c => ?_)
        · have H := H.1 c
          refine x_iconst (zdm d_Md_isOwnHere_0 30 rfl) (zIl rfl) ?_
          refine x_goto (tgt := 71) (zdm d_Md_isOwnHere_0 31 rfl) (by decide) ?_
          exact H
        · have H := H.2 c
          refine x_aload_n (zdm d_Md_isOwnHere_0 20 rfl) rfl (n := 0) rfl ?_
          refine x_aload_n (zdm d_Md_isOwnHere_0 21 rfl) rfl (n := 0) rfl ?_
          refine x_getG (zdm d_Md_isOwnHere_0 22 rfl) f_Md_33 rfl rfl (by decide) hsl rfl ?_
          refine x_callVi (n := 1) (ci := 11) (zdm d_Md_isOwnHere_0 23 rfl) k_Md_260 (As := [(2, 132)]) rfl rfl rfl ⟨_, _, rfl⟩ (Nat.le_of_ble_eq_true rfl) trivial H (fun r13 M14 hr H => ?_)
          have b15 : r13 = 0 ∨ r13 = 1 := hr
          refine x_ifne (tgt := 66) (zdm d_Md_isOwnHere_0 24 rfl) (by decide) (fun c => ?_) (fun c => ?_)
          · have H := H.1 c
            refine x_iconst (zdm d_Md_isOwnHere_0 30 rfl) (zIl rfl) ?_
            refine x_goto (tgt := 71) (zdm d_Md_isOwnHere_0 31 rfl) (by decide) ?_
            exact H
          · have H := H.2 c
            refine x_aload_n (zdm d_Md_isOwnHere_0 25 rfl) rfl (n := 0) rfl ?_
            refine x_aload_n (zdm d_Md_isOwnHere_0 26 rfl) rfl (n := 0) rfl ?_
            refine x_getG (zdm d_Md_isOwnHere_0 27 rfl) f_Md_36 rfl rfl (by decide) hsl rfl ?_
            refine x_callVi (n := 1) (ci := 11) (zdm d_Md_isOwnHere_0 28 rfl) k_Md_260 (As := [(2, 133)]) rfl rfl rfl ⟨_, _, rfl⟩ (Nat.le_of_ble_eq_true rfl) trivial H (fun r16 M17 hr H => ?_)
            have b18 : r16 = 0 ∨ r16 = 1 := hr
            refine x_ifeq (tgt := 70) (zdm d_Md_isOwnHere_0 29 rfl) (by decide) (fun c => ?_) (fun c => ?_)
            · have H := H.1 c
              refine x_iconst (zdm d_Md_isOwnHere_0 32 rfl) (zIl rfl) ?_
              exact H
            · have H := H.2 c
              refine x_iconst (zdm d_Md_isOwnHere_0 30 rfl) (zIl rfl) ?_
              refine x_goto (tgt := 71) (zdm d_Md_isOwnHere_0 31 rfl) (by decide) ?_
              exact H
set_option maxRecDepth 20000 in
set_option maxHeartbeats 4000000 in
theorem B_Md_name_58 {G : zG} {h sl : Nat} (hsl : 2 ≤ sl) {u : Nat × Nat × Nat × Nat} {l1 : Int} {M : zM} {Q : Int → zM → Prop} (H : ((M 125 3) ≤ (M 125 2) → Q l1 (zwr M 125 4 (M 125 2))) ∧ (¬ (M 125 3) ≤ (M 125 2) → (0 ≤ (M 125 2) ∧ (M 125 2) < 1600) ∧ (zCt G h sl 0 0 y_Md_isLetter [(0, (M 126 (M 125 2)))] M (fun r2 M3 => (r2 = 0 → Q l1 (zwr M3 125 4 (M3 125 2))) ∧ (¬ r2 = 0 → (zI ((M3 125 2) - (M3 125 41))) ∧ ((¬ ((M3 125 2) - (M3 125 41)) = 6 → (zL (27 * l1)) ∧ ((0 ≤ (M3 125 2) ∧ (M3 125 2) < 1600) ∧ ((zL ((27 * l1) + (M3 126 (M3 125 2)))) ∧ ((zL (((27 * l1) + (M3 126 (M3 125 2))) - 97)) ∧ ((zL ((((27 * l1) + (M3 126 (M3 125 2))) - 97) + 1)) ∧ ((zI ((M3 125 2) + 1)) ∧ (zX G (y_Md_name, h + 1, sl) u 58 [(0, (2, 125)), (1, (1, ((((27 * l1) + (M3 126 (M3 125 2))) - 97) + 1)))] [] (zwr M3 125 2 ((M3 125 2) + 1)) Q))))))) ∧ (¬ (¬ ((M3 125 2) - (M3 125 41)) = 6) → zCt G h sl 0 0 y_Md_fail [(2, 125), (0, 1), (0, (M3 125 2))] M3 (fun r12 M13 => Q 0 M13)))))))) : zX G (y_Md_name, h + 1, sl) u 58 [(0, (2, 125)), (1, (1, l1))] [] M Q := by
  refine x_aload_n (zdm d_Md_name_0 30 rfl) rfl (n := 0) rfl ?_
  refine x_getf (zdm d_Md_name_0 31 rfl) f_Md_243 rfl rfl ?_
  refine x_aload_n (zdm d_Md_name_0 32 rfl) rfl (n := 0) rfl ?_
  refine x_getf (zdm d_Md_name_0 33 rfl) f_Md_246 rfl rfl ?_
  refine x_icmpge (tgt := 145) (zdm d_Md_name_0 34 rfl) (by decide) (fun c => ?_) (fun c => ?_)
  · have H := H.1 c
    refine x_aload_n (zdm d_Md_name_1 18 rfl) rfl (n := 0) rfl ?_
    refine x_aload_n (zdm d_Md_name_1 19 rfl) rfl (n := 0) rfl ?_
    refine x_getf (zdm d_Md_name_1 20 rfl) f_Md_243 rfl rfl ?_
    refine x_putf (zdm d_Md_name_1 21 rfl) f_Md_257 rfl ⟨rfl, trivial⟩ (Or.inl rfl) ?_
    refine x_lload_n (zdm d_Md_name_1 22 rfl) rfl (n := 1) rfl ?_
    exact x_lreturn (zdm d_Md_name_1 23 rfl) rfl H
  · have H := H.2 c
    refine x_aload_n (zdm d_Md_name_0 35 rfl) rfl (n := 0) rfl ?_
    refine x_getG (zdm d_Md_name_0 36 rfl) f_Md_7 rfl rfl (by decide) hsl rfl ?_
    refine x_aload_n (zdm d_Md_name_0 37 rfl) rfl (n := 0) rfl ?_
    refine x_getf (zdm d_Md_name_0 38 rfl) f_Md_243 rfl rfl ?_
    obtain ⟨g1, H⟩ := H
    refine x_iald (zdm d_Md_name_0 39 rfl) rfl g1 ?_
    refine x_callSi (n := 1) (zdm d_Md_name_0 40 rfl) k_Md_253 (As := [(0, (M 126 (M 125 2)))]) rfl rfl (Nat.le_of_ble_eq_true rfl) trivial H (fun r2 M3 hr H => ?_)
    have b4 : r2 = 0 ∨ r2 = 1 := hr
    refine x_ifeq (tgt := 145) (zdm d_Md_name_0 41 rfl) (by decide) (fun c => ?_) (fun c => ?_)
    · have H := H.1 c
      refine x_aload_n (zdm d_Md_name_1 18 rfl) rfl (n := 0) rfl ?_
      refine x_aload_n (zdm d_Md_name_1 19 rfl) rfl (n := 0) rfl ?_
      refine x_getf (zdm d_Md_name_1 20 rfl) f_Md_243 rfl rfl ?_
      refine x_putf (zdm d_Md_name_1 21 rfl) f_Md_257 rfl ⟨rfl, trivial⟩ (Or.inl rfl) ?_
      refine x_lload_n (zdm d_Md_name_1 22 rfl) rfl (n := 1) rfl ?_
      exact x_lreturn (zdm d_Md_name_1 23 rfl) rfl H
    · have H := H.2 c
      refine x_aload_n (zdm d_Md_name_0 42 rfl) rfl (n := 0) rfl ?_
      refine x_getf (zdm d_Md_name_0 43 rfl) f_Md_243 rfl rfl ?_
      refine x_aload_n (zdm d_Md_name_0 44 rfl) rfl (n := 0) rfl ?_
      refine x_getf (zdm d_Md_name_0 45 rfl) f_Md_288 rfl rfl ?_
      obtain ⟨g5, H⟩ := H
      refine x_isub (zdm d_Md_name_0 46 rfl) g5 ?_
      refine x_bipush (zdm d_Md_name_0 47 rfl) (by decide) ?_
      refine x_icmpne (tgt := 109) (zdm d_Md_name_0 48 rfl) (by decide) (fun c => ?_) (fun c => ?_)
      · have H := H.1 c
        refine x_ldc2 (zdm d_Md_name_0 56 rfl) (n := 27) (zLl rfl) w_Md_291 ?_
        refine x_lload_n (zdm d_Md_name_0 57 rfl) rfl (n := 1) rfl ?_
        obtain ⟨g6, H⟩ := H
        refine x_lmul (zdm d_Md_name_0 58 rfl) g6 ?_
        refine x_aload_n (zdm d_Md_name_0 59 rfl) rfl (n := 0) rfl ?_
        refine x_getG (zdm d_Md_name_1 0 rfl) f_Md_7 rfl rfl (by decide) hsl rfl ?_
        refine x_aload_n (zdm d_Md_name_1 1 rfl) rfl (n := 0) rfl ?_
        refine x_getf (zdm d_Md_name_1 2 rfl) f_Md_243 rfl rfl ?_
        obtain ⟨g7, H⟩ := H
        refine x_iald (zdm d_Md_name_1 3 rfl) rfl g7 ?_
        refine x_i2l (zdm d_Md_name_1 4 rfl) ?_
        obtain ⟨g8, H⟩ := H
        refine x_ladd (zdm d_Md_name_1 5 rfl) g8 ?_
        refine x_ldc2 (zdm d_Md_name_1 6 rfl) (n := 97) (zLl rfl) w_Md_293 ?_
        obtain ⟨g9, H⟩ := H
        refine x_lsub (zdm d_Md_name_1 7 rfl) g9 ?_
        refine x_lconst (zdm d_Md_name_1 8 rfl) (x := 1) rfl ?_
        obtain ⟨g10, H⟩ := H
        refine x_ladd (zdm d_Md_name_1 9 rfl) g10 ?_
        refine x_lstore_n (zdm d_Md_name_1 10 rfl) rfl (zlt rfl) rfl ?_
        refine x_aload_n (zdm d_Md_name_1 11 rfl) rfl (n := 1) rfl ?_
        refine x_dup (zdm d_Md_name_1 12 rfl) z2n1 ?_
        refine x_getf (zdm d_Md_name_1 13 rfl) f_Md_243 rfl rfl ?_
        refine x_iconst (zdm d_Md_name_1 14 rfl) (zIl rfl) ?_
        obtain ⟨g11, H⟩ := H
        refine x_iadd (zdm d_Md_name_1 15 rfl) g11 ?_
        refine x_putf (zdm d_Md_name_1 16 rfl) f_Md_243 rfl ⟨rfl, trivial⟩ (Or.inl rfl) ?_
        refine x_goto (tgt := 58) (zdm d_Md_name_1 17 rfl) (by decide) ?_
        exact zX.sub [1, 0] rfl H
      · have H := H.2 c
        refine x_aload_n (zdm d_Md_name_0 49 rfl) rfl (n := 0) rfl ?_
        refine x_iconst (zdm d_Md_name_0 50 rfl) (zIl rfl) ?_
        refine x_aload_n (zdm d_Md_name_0 51 rfl) rfl (n := 0) rfl ?_
        refine x_getf (zdm d_Md_name_0 52 rfl) f_Md_243 rfl rfl ?_
        refine x_callVv (n := 2) (ci := 11) (zdm d_Md_name_0 53 rfl) k_Md_267 (As := [(0, 1), (0, (M3 125 2))]) rfl rfl rfl ⟨_, _, rfl⟩ (Nat.le_of_ble_eq_true rfl) rfl H (fun r12 M13 hr H => ?_)
        refine x_lconst (zdm d_Md_name_0 54 rfl) (x := 0) rfl ?_
        exact x_lreturn (zdm d_Md_name_0 55 rfl) rfl H
set_option maxRecDepth 20000 in
set_option maxHeartbeats 4000000 in
theorem B_Md_name_37 {G : zG} {h sl : Nat} (hsl : 2 ≤ sl) {u : Nat × Nat × Nat × Nat} {M : zM} {Q : Int → zM → Prop} (H : zCt G h sl 0 0 y_Md_fail [(2, 125), (0, 1), (0, (M 125 2))] M (fun r1 M2 => Q 0 M2)) : zX G (y_Md_name, h + 1, sl) u 37 [(0, (2, 125))] [] M Q := by
  refine x_aload_n (zdm d_Md_name_0 17 rfl) rfl (n := 0) rfl ?_
  refine x_iconst (zdm d_Md_name_0 18 rfl) (zIl rfl) ?_
  refine x_aload_n (zdm d_Md_name_0 19 rfl) rfl (n := 0) rfl ?_
  refine x_getf (zdm d_Md_name_0 20 rfl) f_Md_243 rfl rfl ?_
  refine x_callVv (n := 2) (ci := 11) (zdm d_Md_name_0 21 rfl) k_Md_267 (As := [(0, 1), (0, (M 125 2))]) rfl rfl rfl ⟨_, _, rfl⟩ (Nat.le_of_ble_eq_true rfl) rfl H (fun r1 M2 hr H => ?_)
  refine x_lconst (zdm d_Md_name_0 22 rfl) (x := 0) rfl ?_
  exact x_lreturn (zdm d_Md_name_0 23 rfl) rfl H
set_option maxRecDepth 20000 in
set_option maxHeartbeats 4000000 in
theorem E_Md_name {G : zG} {h sl : Nat} (hsl : 2 ≤ sl) {M : zM} {Q : Int → zM → Prop} (H : ((M 125 5) = 0 → zCt G h sl 0 0 y_Md_look [(2, 125)] M (fun r1 M2 => zCt G h sl 0 0 y_Md_isLetter [(0, r1)] M2 (fun r3 M4 => (r3 = 0 → zX G (y_Md_name, h + 1, sl) (0, 0, 0, 0) 37 [(0, (2, 125))] [] M4 Q) ∧ (¬ r3 = 0 → ((M4 125 2) = (M4 125 4) → zX G (y_Md_name, h + 1, sl) (0, 0, 0, 0) 37 [(0, (2, 125))] [] M4 Q) ∧ (¬ (M4 125 2) = (M4 125 4) → zCt G h sl 0 0 y_Md_isOwnHere [(2, 125)] M4 (fun r6 M7 => (r6 = 0 → zX G (y_Md_name, h + 1, sl) (0, 0, 0, 0) 58 [(0, (2, 125)), (1, (1, 0))] [] (zwr M7 125 41 (M7 125 2)) Q) ∧ (¬ r6 = 0 → zX G (y_Md_name, h + 1, sl) (0, 0, 0, 0) 37 [(0, (2, 125))] [] M7 Q))))))) ∧ (¬ (M 125 5) = 0 → Q 0 M)) : zCt G (h + 1) sl 0 0 y_Md_name [(2, 125)] M Q := by
  refine zCt.of (by decide +kernel) (Nat.le_of_ble_eq_true rfl) ?_
  refine x_aload_n (zdm d_Md_name_0 0 rfl) rfl (n := 0) rfl ?_
  refine x_getf (zdm d_Md_name_0 1 rfl) f_Md_237 rfl rfl ?_
  refine x_ifeq (tgt := 9) (zdm d_Md_name_0 2 rfl) (by decide) (fun c => ?_) (fun c => ?_)
  · have H := H.1 c
    refine x_aload_n (zdm d_Md_name_0 5 rfl) rfl (n := 0) rfl ?_
    refine x_callVi (n := 0) (ci := 11) (zdm d_Md_name_0 6 rfl) k_Md_249 (As := []) rfl rfl rfl ⟨_, _, rfl⟩ (Nat.le_of_ble_eq_true rfl) trivial H (fun r1 M2 hr H => ?_)
    refine x_callSi (n := 1) (zdm d_Md_name_0 7 rfl) k_Md_253 (As := [(0, r1)]) rfl rfl (Nat.le_of_ble_eq_true rfl) trivial H (fun r3 M4 hr H => ?_)
    have b5 : r3 = 0 ∨ r3 = 1 := hr
    refine x_ifeq (tgt := 37) (zdm d_Md_name_0 8 rfl) (by decide) (fun c => ?_) (fun c => ?_)
    · have H := H.1 c
      exact H
    · have H := H.2 c
      refine x_aload_n (zdm d_Md_name_0 9 rfl) rfl (n := 0) rfl ?_
      refine x_getf (zdm d_Md_name_0 10 rfl) f_Md_243 rfl rfl ?_
      refine x_aload_n (zdm d_Md_name_0 11 rfl) rfl (n := 0) rfl ?_
      refine x_getf (zdm d_Md_name_0 12 rfl) f_Md_257 rfl rfl ?_
      refine x_icmpeq (tgt := 37) (zdm d_Md_name_0 13 rfl) (by decide) (fun c => ?_) (fun c => ?_)
      · have H := H.1 c
        exact H
      · have H := H.2 c
        refine x_aload_n (zdm d_Md_name_0 14 rfl) rfl (n := 0) rfl ?_
        refine x_callVi (n := 0) (ci := 11) (zdm d_Md_name_0 15 rfl) k_Md_284 (As := []) rfl rfl rfl ⟨_, _, rfl⟩ (Nat.le_of_ble_eq_true rfl) trivial H (fun r6 M7 hr H => ?_)
        have b8 : r6 = 0 ∨ r6 = 1 := hr
        refine x_ifeq (tgt := 48) (zdm d_Md_name_0 16 rfl) (by decide) (fun c => ?_) (fun c => ?_)
        · have H := H.1 c
          refine x_aload_n (zdm d_Md_name_0 24 rfl) rfl (n := 0) rfl ?_
          refine x_aload_n (zdm d_Md_name_0 25 rfl) rfl (n := 0) rfl ?_
          refine x_getf (zdm d_Md_name_0 26 rfl) f_Md_243 rfl rfl ?_
          refine x_putf (zdm d_Md_name_0 27 rfl) f_Md_288 rfl ⟨rfl, trivial⟩ (Or.inl rfl) ?_
          refine x_lconst (zdm d_Md_name_0 28 rfl) (x := 0) rfl ?_
          refine x_lstore_n (zdm d_Md_name_0 29 rfl) rfl (zlt rfl) rfl ?_
          exact zX.sub [1, 0] rfl H
        · have H := H.2 c
          exact H
  · have H := H.2 c
    refine x_lconst (zdm d_Md_name_0 3 rfl) (x := 0) rfl ?_
    exact x_lreturn (zdm d_Md_name_0 4 rfl) rfl H
set_option maxRecDepth 20000 in
set_option maxHeartbeats 4000000 in
theorem B_Md_columnHere_97 {G : zG} {h sl : Nat} (hsl : 2 ≤ sl) {u : Nat × Nat × Nat × Nat} {l1 l2 l4 : Int} {M : zM} {Q : Int → zM → Prop} (H : ((M 158 0) ≤ l4 → Q (-1) M) ∧ (¬ (M 158 0) ≤ l4 → (zI (l1 - (M 125 2))) ∧ ((7 ≤ (l1 - (M 125 2)) → Q (-1) M) ∧ (¬ 7 ≤ (l1 - (M 125 2)) → (0 ≤ l4 ∧ l4 < 16) ∧ (((M 159 l4) = l2 → Q l4 (zwr (zwr M 125 2 l1) 125 4 l1)) ∧ (¬ (M 159 l4) = l2 → (zI (l4 + 1)) ∧ (zX G (y_Md_columnHere, h + 1, sl) u 97 [(0, (2, 125)), (1, (0, l1)), (2, (1, l2)), (4, (0, (l4 + 1)))] [] M Q))))))) : zX G (y_Md_columnHere, h + 1, sl) u 97 [(0, (2, 125)), (1, (0, l1)), (2, (1, l2)), (4, (0, l4))] [] M Q := by
  refine x_iload (zdm d_Md_columnHere_0 53 rfl) (n := 3) rfl ?_
  refine x_aload_n (zdm d_Md_columnHere_0 54 rfl) rfl (n := 0) rfl ?_
  refine x_getG (zdm d_Md_columnHere_0 55 rfl) f_Md_111 rfl rfl (by decide) hsl rfl ?_
  refine x_iconst (zdm d_Md_columnHere_0 56 rfl) (zIl rfl) ?_
  refine x_iald (zdm d_Md_columnHere_0 57 rfl) rfl ⟨by decide, by decide⟩ ?_
  refine x_icmpge (tgt := 153) (zdm d_Md_columnHere_0 58 rfl) (by decide) (fun c => ?_) (fun c => ?_)
  · have H := H.1 c
    refine x_iconst (zdm d_Md_columnHere_1 23 rfl) (zIl rfl) ?_
    exact x_iret (zdm d_Md_columnHere_1 24 rfl) rfl H
  · have H := H.2 c
    refine x_iload_n (zdm d_Md_columnHere_0 59 rfl) rfl (n := 1) rfl ?_
    refine x_aload_n (zdm d_Md_columnHere_1 0 rfl) rfl (n := 0) rfl ?_
    refine x_getf (zdm d_Md_columnHere_1 1 rfl) f_Md_243 rfl rfl ?_
    obtain ⟨g1, H⟩ := H
    refine x_isub (zdm d_Md_columnHere_1 2 rfl) g1 ?_
    refine x_bipush (zdm d_Md_columnHere_1 3 rfl) (by decide) ?_
    refine x_icmpge (tgt := 153) (zdm d_Md_columnHere_1 4 rfl) (by decide) (fun c => ?_) (fun c => ?_)
    · have H := H.1 c
      refine x_iconst (zdm d_Md_columnHere_1 23 rfl) (zIl rfl) ?_
      exact x_iret (zdm d_Md_columnHere_1 24 rfl) rfl H
    · have H := H.2 c
      refine x_aload_n (zdm d_Md_columnHere_1 5 rfl) rfl (n := 0) rfl ?_
      refine x_getG (zdm d_Md_columnHere_1 6 rfl) f_Md_114 rfl rfl (by decide) hsl rfl ?_
      refine x_iload (zdm d_Md_columnHere_1 7 rfl) (n := 3) rfl ?_
      obtain ⟨g2, H⟩ := H
      refine x_lald (zdm d_Md_columnHere_1 8 rfl) rfl g2 ?_
      refine x_lload_n (zdm d_Md_columnHere_1 9 rfl) rfl (n := 2) rfl ?_
      refine x_lcmp_eq (tgt := 134) (zdm d_Md_columnHere_1 10 rfl) (zdm d_Md_columnHere_1 11 rfl) (by decide) (fun c => ?_) (fun c => ?_)
      · have H := H.1 c
        refine x_aload_n (zdm d_Md_columnHere_1 13 rfl) rfl (n := 0) rfl ?_
        refine x_iload_n (zdm d_Md_columnHere_1 14 rfl) rfl (n := 1) rfl ?_
        refine x_putf (zdm d_Md_columnHere_1 15 rfl) f_Md_243 rfl ⟨rfl, trivial⟩ (Or.inl rfl) ?_
        refine x_aload_n (zdm d_Md_columnHere_1 16 rfl) rfl (n := 0) rfl ?_
        refine x_iload_n (zdm d_Md_columnHere_1 17 rfl) rfl (n := 1) rfl ?_
        refine x_putf (zdm d_Md_columnHere_1 18 rfl) f_Md_257 rfl ⟨rfl, trivial⟩ (Or.inl rfl) ?_
        refine x_iload (zdm d_Md_columnHere_1 19 rfl) (n := 3) rfl ?_
        exact x_iret (zdm d_Md_columnHere_1 20 rfl) rfl H
      · have H := H.2 c
        refine x_goto (tgt := 147) (zdm d_Md_columnHere_1 12 rfl) (by decide) ?_
        obtain ⟨g3, H⟩ := H
        refine x_iinc (zdm d_Md_columnHere_1 21 rfl) (n := 3) rfl g3 (zlt rfl) rfl ?_
        refine x_goto (tgt := 97) (zdm d_Md_columnHere_1 22 rfl) (by decide) ?_
        exact zX.sub [1, 2, 3, 0] rfl H
set_option maxRecDepth 20000 in
set_option maxHeartbeats 4000000 in
theorem B_Md_columnHere_37 {G : zG} {h sl : Nat} (hsl : 2 ≤ sl) {u : Nat × Nat × Nat × Nat} {l1 l2 : Int} {M : zM} {Q : Int → zM → Prop} (H : ((M 125 3) ≤ l1 → zX G (y_Md_columnHere, h + 1, sl) u 97 [(0, (2, 125)), (1, (0, l1)), (2, (1, l2)), (4, (0, 0))] [] M Q) ∧ (¬ (M 125 3) ≤ l1 → (0 ≤ l1 ∧ l1 < 1600) ∧ (zCt G h sl 0 0 y_Md_isLetter [(0, (M 126 l1))] M (fun r2 M3 => (r2 = 0 → zX G (y_Md_columnHere, h + 1, sl) u 97 [(0, (2, 125)), (1, (0, l1)), (2, (1, l2)), (4, (0, 0))] [] M3 Q) ∧ (¬ r2 = 0 → (zI (l1 - (M3 125 2))) ∧ ((7 ≤ (l1 - (M3 125 2)) → zX G (y_Md_columnHere, h + 1, sl) u 97 [(0, (2, 125)), (1, (0, l1)), (2, (1, l2)), (4, (0, 0))] [] M3 Q) ∧ (¬ 7 ≤ (l1 - (M3 125 2)) → (zL (27 * l2)) ∧ ((zL ((27 * l2) + (M3 126 l1))) ∧ ((zL (((27 * l2) + (M3 126 l1)) - 97)) ∧ ((zL ((((27 * l2) + (M3 126 l1)) - 97) + 1)) ∧ ((zI (l1 + 1)) ∧ (zX G (y_Md_columnHere, h + 1, sl) u 37 [(0, (2, 125)), (1, (0, (l1 + 1))), (2, (1, ((((27 * l2) + (M3 126 l1)) - 97) + 1)))] [] M3 Q)))))))))))) : zX G (y_Md_columnHere, h + 1, sl) u 37 [(0, (2, 125)), (1, (0, l1)), (2, (1, l2))] [] M Q := by
  refine x_iload_n (zdm d_Md_columnHere_0 19 rfl) rfl (n := 1) rfl ?_
  refine x_aload_n (zdm d_Md_columnHere_0 20 rfl) rfl (n := 0) rfl ?_
  refine x_getf (zdm d_Md_columnHere_0 21 rfl) f_Md_246 rfl rfl ?_
  refine x_icmpge (tgt := 94) (zdm d_Md_columnHere_0 22 rfl) (by decide) (fun c => ?_) (fun c => ?_)
  · have H := H.1 c
    refine x_iconst (zdm d_Md_columnHere_0 51 rfl) (zIl rfl) ?_
    refine x_istore (zdm d_Md_columnHere_0 52 rfl) (zlt rfl) rfl ?_
    exact zX.sub [1, 2, 3, 0] rfl H
  · have H := H.2 c
    refine x_aload_n (zdm d_Md_columnHere_0 23 rfl) rfl (n := 0) rfl ?_
    refine x_getG (zdm d_Md_columnHere_0 24 rfl) f_Md_7 rfl rfl (by decide) hsl rfl ?_
    refine x_iload_n (zdm d_Md_columnHere_0 25 rfl) rfl (n := 1) rfl ?_
    obtain ⟨g1, H⟩ := H
    refine x_iald (zdm d_Md_columnHere_0 26 rfl) rfl g1 ?_
    refine x_callSi (n := 1) (zdm d_Md_columnHere_0 27 rfl) k_Md_253 (As := [(0, (M 126 l1))]) rfl rfl (Nat.le_of_ble_eq_true rfl) trivial H (fun r2 M3 hr H => ?_)
    have b4 : r2 = 0 ∨ r2 = 1 := hr
    refine x_ifeq (tgt := 94) (zdm d_Md_columnHere_0 28 rfl) (by decide) (fun c => ?_) (fun c => ?_)
    · have H := H.1 c
      refine x_iconst (zdm d_Md_columnHere_0 51 rfl) (zIl rfl) ?_
      refine x_istore (zdm d_Md_columnHere_0 52 rfl) (zlt rfl) rfl ?_
      exact zX.sub [1, 2, 3, 0] rfl H
    · have H := H.2 c
      refine x_iload_n (zdm d_Md_columnHere_0 29 rfl) rfl (n := 1) rfl ?_
      refine x_aload_n (zdm d_Md_columnHere_0 30 rfl) rfl (n := 0) rfl ?_
      refine x_getf (zdm d_Md_columnHere_0 31 rfl) f_Md_243 rfl rfl ?_
      obtain ⟨g5, H⟩ := H
      refine x_isub (zdm d_Md_columnHere_0 32 rfl) g5 ?_
      refine x_bipush (zdm d_Md_columnHere_0 33 rfl) (by decide) ?_
      refine x_icmpge (tgt := 94) (zdm d_Md_columnHere_0 34 rfl) (by decide) (fun c => ?_) (fun c => ?_)
      · have H := H.1 c
        refine x_iconst (zdm d_Md_columnHere_0 51 rfl) (zIl rfl) ?_
        refine x_istore (zdm d_Md_columnHere_0 52 rfl) (zlt rfl) rfl ?_
        exact zX.sub [1, 2, 3, 0] rfl H
      · have H := H.2 c
        refine x_ldc2 (zdm d_Md_columnHere_0 35 rfl) (n := 27) (zLl rfl) w_Md_291 ?_
        refine x_lload_n (zdm d_Md_columnHere_0 36 rfl) rfl (n := 2) rfl ?_
        obtain ⟨g6, H⟩ := H
        refine x_lmul (zdm d_Md_columnHere_0 37 rfl) g6 ?_
        refine x_aload_n (zdm d_Md_columnHere_0 38 rfl) rfl (n := 0) rfl ?_
        refine x_getG (zdm d_Md_columnHere_0 39 rfl) f_Md_7 rfl rfl (by decide) hsl rfl ?_
        refine x_iload_n (zdm d_Md_columnHere_0 40 rfl) rfl (n := 1) rfl ?_
        refine x_iald (zdm d_Md_columnHere_0 41 rfl) rfl g1 ?_
        refine x_i2l (zdm d_Md_columnHere_0 42 rfl) ?_
        obtain ⟨g7, H⟩ := H
        refine x_ladd (zdm d_Md_columnHere_0 43 rfl) g7 ?_
        refine x_ldc2 (zdm d_Md_columnHere_0 44 rfl) (n := 97) (zLl rfl) w_Md_293 ?_
        obtain ⟨g8, H⟩ := H
        refine x_lsub (zdm d_Md_columnHere_0 45 rfl) g8 ?_
        refine x_lconst (zdm d_Md_columnHere_0 46 rfl) (x := 1) rfl ?_
        obtain ⟨g9, H⟩ := H
        refine x_ladd (zdm d_Md_columnHere_0 47 rfl) g9 ?_
        refine x_lstore_n (zdm d_Md_columnHere_0 48 rfl) rfl (zlt rfl) rfl ?_
        obtain ⟨g10, H⟩ := H
        refine x_iinc (zdm d_Md_columnHere_0 49 rfl) (n := 2) rfl g10 (zlt rfl) rfl ?_
        refine x_goto (tgt := 37) (zdm d_Md_columnHere_0 50 rfl) (by decide) ?_
        exact zX.sub [2, 0, 1] rfl H
set_option maxRecDepth 20000 in
set_option maxHeartbeats 4000000 in
theorem E_Md_columnHere {G : zG} {h sl : Nat} (hsl : 2 ≤ sl) {M : zM} {Q : Int → zM → Prop} (H : (¬ (M 125 5) = 0 → Q (-1) M) ∧ (¬ (¬ (M 125 5) = 0) → zCt G h sl 0 0 y_Md_look [(2, 125)] M (fun r1 M2 => zCt G h sl 0 0 y_Md_isLetter [(0, r1)] M2 (fun r3 M4 => (r3 = 0 → Q (-1) M4) ∧ (¬ r3 = 0 → (¬ (M4 125 2) = (M4 125 4) → zX G (y_Md_columnHere, h + 1, sl) (0, 0, 0, 0) 37 [(0, (2, 125)), (1, (0, (M4 125 2))), (2, (1, 0))] [] M4 Q) ∧ (¬ (¬ (M4 125 2) = (M4 125 4)) → Q (-1) M4)))))) : zCt G (h + 1) sl 0 0 y_Md_columnHere [(2, 125)] M Q := by
  refine zCt.of (by decide +kernel) (Nat.le_of_ble_eq_true rfl) ?_
  refine x_aload_n (zdm d_Md_columnHere_0 0 rfl) rfl (n := 0) rfl ?_
  refine x_getf (zdm d_Md_columnHere_0 1 rfl) f_Md_237 rfl rfl ?_
  refine x_ifne (tgt := 28) (zdm d_Md_columnHere_0 2 rfl) (by decide) (fun c => ?_) (fun c => ?_)
  · have H := H.1 c
    refine x_iconst (zdm d_Md_columnHere_0 12 rfl) (zIl rfl) ?_
    exact x_iret (zdm d_Md_columnHere_0 13 rfl) rfl H
  · have H := H.2 c
    refine x_aload_n (zdm d_Md_columnHere_0 3 rfl) rfl (n := 0) rfl ?_
    refine x_callVi (n := 0) (ci := 11) (zdm d_Md_columnHere_0 4 rfl) k_Md_249 (As := []) rfl rfl rfl ⟨_, _, rfl⟩ (Nat.le_of_ble_eq_true rfl) trivial H (fun r1 M2 hr H => ?_)
    refine x_callSi (n := 1) (zdm d_Md_columnHere_0 5 rfl) k_Md_253 (As := [(0, r1)]) rfl rfl (Nat.le_of_ble_eq_true rfl) trivial H (fun r3 M4 hr H => ?_)
    have b5 : r3 = 0 ∨ r3 = 1 := hr
    refine x_ifeq (tgt := 28) (zdm d_Md_columnHere_0 6 rfl) (by decide) (fun c => ?_) (fun c => ?_)
    · have H := H.1 c
      refine x_iconst (zdm d_Md_columnHere_0 12 rfl) (zIl rfl) ?_
      exact x_iret (zdm d_Md_columnHere_0 13 rfl) rfl H
    · have H := H.2 c
      refine x_aload_n (zdm d_Md_columnHere_0 7 rfl) rfl (n := 0) rfl ?_
      refine x_getf (zdm d_Md_columnHere_0 8 rfl) f_Md_243 rfl rfl ?_
      refine x_aload_n (zdm d_Md_columnHere_0 9 rfl) rfl (n := 0) rfl ?_
      refine x_getf (zdm d_Md_columnHere_0 10 rfl) f_Md_257 rfl rfl ?_
      refine x_icmpne (tgt := 30) (zdm d_Md_columnHere_0 11 rfl) (by decide) (fun c => ?_) (fun c => ?_)
      · have H := H.1 c
        refine x_aload_n (zdm d_Md_columnHere_0 14 rfl) rfl (n := 0) rfl ?_
        refine x_getf (zdm d_Md_columnHere_0 15 rfl) f_Md_243 rfl rfl ?_
        refine x_istore_n (zdm d_Md_columnHere_0 16 rfl) rfl (zlt rfl) rfl ?_
        refine x_lconst (zdm d_Md_columnHere_0 17 rfl) (x := 0) rfl ?_
        refine x_lstore_n (zdm d_Md_columnHere_0 18 rfl) rfl (zlt rfl) rfl ?_
        exact zX.sub [2, 1, 0] rfl H
      · have H := H.2 c
        refine x_iconst (zdm d_Md_columnHere_0 12 rfl) (zIl rfl) ?_
        exact x_iret (zdm d_Md_columnHere_0 13 rfl) rfl H
set_option maxRecDepth 20000 in
set_option maxHeartbeats 4000000 in
theorem E_Md_isAllowed {G : zG} {h sl : Nat} (hsl : 2 ≤ sl) {l1 : Int} {M : zM} {Q : Int → zM → Prop} (H : (¬ (M 125 50) = 0 → (¬ (M 125 50) = 1 → (l1 = 1 → Q 0 M) ∧ (¬ l1 = 1 → Q 1 M)) ∧ (¬ (¬ (M 125 50) = 1) → (¬ l1 = 0 → Q 0 M) ∧ (¬ (¬ l1 = 0) → Q 1 M))) ∧ (¬ (¬ (M 125 50) = 0) → (2 ≤ l1 → Q 0 M) ∧ (¬ 2 ≤ l1 → Q 1 M))) : zCt G h sl 0 0 y_Md_isAllowed [(2, 125), (0, l1)] M Q := by
  refine zCt.of (by decide +kernel) (Nat.le_of_ble_eq_true rfl) ?_
  refine x_aload_n (zdm d_Md_isAllowed_0 0 rfl) rfl (n := 0) rfl ?_
  refine x_getf (zdm d_Md_isAllowed_0 1 rfl) f_Md_295 rfl rfl ?_
  refine x_ifne (tgt := 20) (zdm d_Md_isAllowed_0 2 rfl) (by decide) (fun c => ?_) (fun c => ?_)
  · have H := H.1 c
    refine x_aload_n (zdm d_Md_isAllowed_0 10 rfl) rfl (n := 0) rfl ?_
    refine x_getf (zdm d_Md_isAllowed_0 11 rfl) f_Md_295 rfl rfl ?_
    refine x_iconst (zdm d_Md_isAllowed_0 12 rfl) (zIl rfl) ?_
    refine x_icmpne (tgt := 40) (zdm d_Md_isAllowed_0 13 rfl) (by decide) (fun c => ?_) (fun c => ?_)
    · have H := H.1 c
      refine x_iload_n (zdm d_Md_isAllowed_0 20 rfl) rfl (n := 1) rfl ?_
      refine x_iconst (zdm d_Md_isAllowed_0 21 rfl) (zIl rfl) ?_
      refine x_icmpeq (tgt := 49) (zdm d_Md_isAllowed_0 22 rfl) (by decide) (fun c => ?_) (fun c => ?_)
      · have H := H.1 c
        refine x_iconst (zdm d_Md_isAllowed_0 25 rfl) (zIl rfl) ?_
        exact x_ireturn (zdm d_Md_isAllowed_0 26 rfl) (ty := .boolean) rfl (by decide) (Or.inl rfl) H
      · have H := H.2 c
        refine x_iconst (zdm d_Md_isAllowed_0 23 rfl) (zIl rfl) ?_
        refine x_goto (tgt := 50) (zdm d_Md_isAllowed_0 24 rfl) (by decide) ?_
        exact x_ireturn (zdm d_Md_isAllowed_0 26 rfl) (ty := .boolean) rfl (by decide) (Or.inr rfl) H
    · have H := H.2 c
      refine x_iload_n (zdm d_Md_isAllowed_0 14 rfl) rfl (n := 1) rfl ?_
      refine x_ifne (tgt := 36) (zdm d_Md_isAllowed_0 15 rfl) (by decide) (fun c => ?_) (fun c => ?_)
      · have H := H.1 c
        refine x_iconst (zdm d_Md_isAllowed_0 18 rfl) (zIl rfl) ?_
        refine x_goto (tgt := 50) (zdm d_Md_isAllowed_0 19 rfl) (by decide) ?_
        exact x_ireturn (zdm d_Md_isAllowed_0 26 rfl) (ty := .boolean) rfl (by decide) (Or.inl rfl) H
      · have H := H.2 c
        refine x_iconst (zdm d_Md_isAllowed_0 16 rfl) (zIl rfl) ?_
        refine x_goto (tgt := 50) (zdm d_Md_isAllowed_0 17 rfl) (by decide) ?_
        exact x_ireturn (zdm d_Md_isAllowed_0 26 rfl) (ty := .boolean) rfl (by decide) (Or.inr rfl) H
  · have H := H.2 c
    refine x_iload_n (zdm d_Md_isAllowed_0 3 rfl) rfl (n := 1) rfl ?_
    refine x_iconst (zdm d_Md_isAllowed_0 4 rfl) (zIl rfl) ?_
    refine x_icmpge (tgt := 16) (zdm d_Md_isAllowed_0 5 rfl) (by decide) (fun c => ?_) (fun c => ?_)
    · have H := H.1 c
      refine x_iconst (zdm d_Md_isAllowed_0 8 rfl) (zIl rfl) ?_
      refine x_goto (tgt := 50) (zdm d_Md_isAllowed_0 9 rfl) (by decide) ?_
      exact x_ireturn (zdm d_Md_isAllowed_0 26 rfl) (ty := .boolean) rfl (by decide) (Or.inl rfl) H
    · have H := H.2 c
      refine x_iconst (zdm d_Md_isAllowed_0 6 rfl) (zIl rfl) ?_
      refine x_goto (tgt := 50) (zdm d_Md_isAllowed_0 7 rfl) (by decide) ?_
      exact x_ireturn (zdm d_Md_isAllowed_0 26 rfl) (ty := .boolean) rfl (by decide) (Or.inr rfl) H
set_option maxRecDepth 20000 in
set_option maxHeartbeats 4000000 in
theorem B_Md_newName_7 {G : zG} {h sl : Nat} (hsl : 2 ≤ sl) {u : Nat × Nat × Nat × Nat} {l1 l3 : Int} {M : zM} {Q : Int → zM → Prop} (H : ((M 158 0) ≤ l3 → Q l1 M) ∧ (¬ (M 158 0) ≤ l3 → (¬ (M 125 5) = 0 → (zI (l3 + 1)) ∧ (zX G (y_Md_newName, h + 1, sl) u 7 [(0, (2, 125)), (1, (1, l1)), (3, (0, (l3 + 1)))] [] M Q)) ∧ (¬ (¬ (M 125 5) = 0) → (0 ≤ l3 ∧ l3 < 16) ∧ ((¬ (M 159 l3) = l1 → (zI (l3 + 1)) ∧ (zX G (y_Md_newName, h + 1, sl) u 7 [(0, (2, 125)), (1, (1, l1)), (3, (0, (l3 + 1)))] [] M Q)) ∧ (¬ (¬ (M 159 l3) = l1) → zCt G h sl 0 0 y_Md_fail [(2, 125), (0, 3), (0, (M 125 41))] M (fun r4 M5 => (zI (l3 + 1)) ∧ (zX G (y_Md_newName, h + 1, sl) u 7 [(0, (2, 125)), (1, (1, l1)), (3, (0, (l3 + 1)))] [] M5 Q))))))) : zX G (y_Md_newName, h + 1, sl) u 7 [(0, (2, 125)), (1, (1, l1)), (3, (0, l3))] [] M Q := by
  refine x_iload_n (zdm d_Md_newName_0 5 rfl) rfl (n := 2) rfl ?_
  refine x_aload_n (zdm d_Md_newName_0 6 rfl) rfl (n := 0) rfl ?_
  refine x_getG (zdm d_Md_newName_0 7 rfl) f_Md_111 rfl rfl (by decide) hsl rfl ?_
  refine x_iconst (zdm d_Md_newName_0 8 rfl) (zIl rfl) ?_
  refine x_iald (zdm d_Md_newName_0 9 rfl) rfl ⟨by decide, by decide⟩ ?_
  refine x_icmpge (tgt := 50) (zdm d_Md_newName_0 10 rfl) (by decide) (fun c => ?_) (fun c => ?_)
  · have H := H.1 c
    refine x_lload_n (zdm d_Md_newName_0 28 rfl) rfl (n := 1) rfl ?_
    exact x_lreturn (zdm d_Md_newName_0 29 rfl) rfl H
  · have H := H.2 c
    refine x_aload_n (zdm d_Md_newName_0 11 rfl) rfl (n := 0) rfl ?_
    refine x_getf (zdm d_Md_newName_0 12 rfl) f_Md_237 rfl rfl ?_
    refine x_ifne (tgt := 44) (zdm d_Md_newName_0 13 rfl) (by decide) (fun c => ?_) (fun c => ?_)
    · have H := H.1 c
      obtain ⟨g1, H⟩ := H
      refine x_iinc (zdm d_Md_newName_0 26 rfl) (n := 2) rfl g1 (zlt rfl) rfl ?_
      refine x_goto (tgt := 7) (zdm d_Md_newName_0 27 rfl) (by decide) ?_
      exact zX.sub [1, 2, 0] rfl H
    · have H := H.2 c
      refine x_aload_n (zdm d_Md_newName_0 14 rfl) rfl (n := 0) rfl ?_
      refine x_getG (zdm d_Md_newName_0 15 rfl) f_Md_114 rfl rfl (by decide) hsl rfl ?_
      refine x_iload_n (zdm d_Md_newName_0 16 rfl) rfl (n := 2) rfl ?_
      obtain ⟨g2, H⟩ := H
      refine x_lald (zdm d_Md_newName_0 17 rfl) rfl g2 ?_
      refine x_lload_n (zdm d_Md_newName_0 18 rfl) rfl (n := 1) rfl ?_
      refine x_lcmp_ne (tgt := 44) (zdm d_Md_newName_0 19 rfl) (zdm d_Md_newName_0 20 rfl) (by decide) (fun c => ?_) (fun c => ?_)
      · have H := H.1 c
        obtain ⟨g3, H⟩ := H
        refine x_iinc (zdm d_Md_newName_0 26 rfl) (n := 2) rfl g3 (zlt rfl) rfl ?_
        refine x_goto (tgt := 7) (zdm d_Md_newName_0 27 rfl) (by decide) ?_
        exact zX.sub [1, 2, 0] rfl H
      · have H := H.2 c
        refine x_aload_n (zdm d_Md_newName_0 21 rfl) rfl (n := 0) rfl ?_
        refine x_iconst (zdm d_Md_newName_0 22 rfl) (zIl rfl) ?_
        refine x_aload_n (zdm d_Md_newName_0 23 rfl) rfl (n := 0) rfl ?_
        refine x_getf (zdm d_Md_newName_0 24 rfl) f_Md_288 rfl rfl ?_
        refine x_callVv (n := 2) (ci := 11) (zdm d_Md_newName_0 25 rfl) k_Md_267 (As := [(0, 3), (0, (M 125 41))]) rfl rfl rfl ⟨_, _, rfl⟩ (Nat.le_of_ble_eq_true rfl) rfl H (fun r4 M5 hr H => ?_)
        obtain ⟨g6, H⟩ := H
        refine x_iinc (zdm d_Md_newName_0 26 rfl) (n := 2) rfl g6 (zlt rfl) rfl ?_
        refine x_goto (tgt := 7) (zdm d_Md_newName_0 27 rfl) (by decide) ?_
        exact zX.sub [1, 2, 0] rfl H
set_option maxRecDepth 20000 in
set_option maxHeartbeats 4000000 in
theorem E_Md_newName {G : zG} {h sl : Nat} (hsl : 2 ≤ sl) {M : zM} {Q : Int → zM → Prop} (H : zCt G h sl 0 0 y_Md_name [(2, 125)] M (fun r1 M2 => zX G (y_Md_newName, h + 1, sl) (0, 0, 0, 0) 7 [(0, (2, 125)), (1, (1, r1)), (3, (0, 0))] [] M2 Q)) : zCt G (h + 1) sl 0 0 y_Md_newName [(2, 125)] M Q := by
  refine zCt.of (by decide +kernel) (Nat.le_of_ble_eq_true rfl) ?_
  refine x_aload_n (zdm d_Md_newName_0 0 rfl) rfl (n := 0) rfl ?_
  refine x_callVl (n := 0) (ci := 11) (zdm d_Md_newName_0 1 rfl) k_Md_298 (As := []) rfl rfl rfl ⟨_, _, rfl⟩ (Nat.le_of_ble_eq_true rfl) rfl H (fun r1 M2 hr H => ?_)
  refine x_lstore_n (zdm d_Md_newName_0 2 rfl) rfl (zlt rfl) rfl ?_
  refine x_iconst (zdm d_Md_newName_0 3 rfl) (zIl rfl) ?_
  refine x_istore_n (zdm d_Md_newName_0 4 rfl) rfl (zlt rfl) rfl ?_
  exact zX.sub [2, 1, 0] rfl H
set_option maxRecDepth 20000 in
set_option maxHeartbeats 4000000 in
theorem E_Md_told {G : zG} {h sl : Nat} (hsl : 2 ≤ sl) {l1 l2 l3 : Int} {M : zM} {Q : Int → zM → Prop} (H : zCt G h sl 0 0 y_Md_asks [(2, 125), (2, l1)] M (fun r1 M2 => zCt G h sl 0 0 y_Md_number [(2, 125), (0, l2), (0, l3)] M2 (fun r3 M4 => Q r3 M4))) : zCt G (h + 1) sl 0 0 y_Md_told [(2, 125), (2, l1), (0, l2), (0, l3)] M Q := by
  refine zCt.of (by decide +kernel) (Nat.le_of_ble_eq_true rfl) ?_
  refine x_aload_n (zdm d_Md_told_0 0 rfl) rfl (n := 0) rfl ?_
  refine x_aload_n (zdm d_Md_told_0 1 rfl) rfl (n := 1) rfl ?_
  refine x_callVv (n := 1) (ci := 11) (zdm d_Md_told_0 2 rfl) k_Md_302 (As := [(2, l1)]) rfl rfl rfl ⟨_, _, rfl⟩ (Nat.le_of_ble_eq_true rfl) rfl H (fun r1 M2 hr H => ?_)
  refine x_aload_n (zdm d_Md_told_0 3 rfl) rfl (n := 0) rfl ?_
  refine x_iload_n (zdm d_Md_told_0 4 rfl) rfl (n := 2) rfl ?_
  refine x_iload_n (zdm d_Md_told_0 5 rfl) rfl (n := 3) rfl ?_
  refine x_callVi (n := 2) (ci := 11) (zdm d_Md_told_0 6 rfl) k_Md_306 (As := [(0, l2), (0, l3)]) rfl rfl rfl ⟨_, _, rfl⟩ (Nat.le_of_ble_eq_true rfl) trivial H (fun r3 M4 hr H => ?_)
  exact x_iret (zdm d_Md_told_0 7 rfl) rfl H
set_option maxRecDepth 20000 in
set_option maxHeartbeats 4000000 in
theorem E_Md_laid {G : zG} {h sl : Nat} (hsl : 2 ≤ sl) {l1 l2 : Int} {M : zM} {Q : Int → zM → Prop} (H : (zI (7 * (M 158 0))) ∧ ((zI ((7 * (M 158 0)) + l1)) ∧ ((0 ≤ ((7 * (M 158 0)) + l1) ∧ ((7 * (M 158 0)) + l1) < 112) ∧ (Q 0 (zwr M 160 ((7 * (M 158 0)) + l1) l2))))) : zCt G h sl 0 0 y_Md_laid [(2, 125), (0, l1), (0, l2)] M Q := by
  refine zCt.of (by decide +kernel) (Nat.le_of_ble_eq_true rfl) ?_
  refine x_aload_n (zdm d_Md_laid_0 0 rfl) rfl (n := 0) rfl ?_
  refine x_getG (zdm d_Md_laid_0 1 rfl) f_Md_118 rfl rfl (by decide) hsl rfl ?_
  refine x_bipush (zdm d_Md_laid_0 2 rfl) (by decide) ?_
  refine x_aload_n (zdm d_Md_laid_0 3 rfl) rfl (n := 0) rfl ?_
  refine x_getG (zdm d_Md_laid_0 4 rfl) f_Md_111 rfl rfl (by decide) hsl rfl ?_
  refine x_iconst (zdm d_Md_laid_0 5 rfl) (zIl rfl) ?_
  refine x_iald (zdm d_Md_laid_0 6 rfl) rfl ⟨by decide, by decide⟩ ?_
  obtain ⟨g1, H⟩ := H
  refine x_imul (zdm d_Md_laid_0 7 rfl) g1 ?_
  refine x_iload_n (zdm d_Md_laid_0 8 rfl) rfl (n := 1) rfl ?_
  obtain ⟨g2, H⟩ := H
  refine x_iadd (zdm d_Md_laid_0 9 rfl) g2 ?_
  refine x_iload_n (zdm d_Md_laid_0 10 rfl) rfl (n := 2) rfl ?_
  obtain ⟨g3, H⟩ := H
  refine x_iast (zdm d_Md_laid_0 11 rfl) rfl g3 ?_
  exact x_return (zdm d_Md_laid_0 12 rfl) rfl H
