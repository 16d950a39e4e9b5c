set_option maxRecDepth 20000 in
set_option maxHeartbeats 4000000 in
theorem E_Zt_feed {G : zG} {h sl : Nat} (hsl : 1 ≤ sl) {l1 l2 l3 l4 l5 : Int} {M : zM} {Q : Int → zM → Prop} (H : (zI ((M 2 1) + 20)) ∧ ((((M 2 1) + 20) ≤ 1600 → zCt G h sl 0 0 y_Tape_add [(2, 2), (0, l1)] M (fun r2 M3 => zCt G h sl 0 0 y_Tape_add [(2, 2), (0, l2)] M3 (fun r4 M5 => zCt G h sl 0 0 y_Tape_add [(2, 2), (0, l3)] M5 (fun r6 M7 => zCt G h sl 0 0 y_Tape_add [(2, 2), (0, l4)] M7 (fun r8 M9 => zCt G h sl 0 0 y_Tape_add [(2, 2), (0, l5)] M9 (fun r10 M11 => Q (M11 2 1) M11)))))) ∧ (¬ ((M 2 1) + 20) ≤ 1600 → zCt G h sl 0 0 y_Zt_none [(2, 1), (0, 0)] M (fun r12 M13 => Q r12 M13)))) : zCt G (h + 1) sl 0 0 y_Zt_feed [(2, 1), (0, l1), (0, l2), (0, l3), (0, l4), (0, l5)] M Q := by
  refine zCt.of (by decide +kernel) (Nat.le_of_ble_eq_true rfl) ?_
  refine x_aload_n (zdm d_Zt_feed_0 0 rfl) rfl (n := 0) rfl ?_
  refine x_getG (zdm d_Zt_feed_0 1 rfl) f_Zt_10 rfl rfl (by decide) hsl rfl ?_
  refine x_getf (zdm d_Zt_feed_0 2 rfl) f_Zt_100 rfl rfl ?_
  refine x_bipush (zdm d_Zt_feed_0 3 rfl) (by decide) ?_
  obtain ⟨g1, H⟩ := H
  refine x_iadd (zdm d_Zt_feed_0 4 rfl) g1 ?_
  refine x_sipush (zdm d_Zt_feed_0 5 rfl) (by decide) ?_
  refine x_icmple (tgt := 22) (zdm d_Zt_feed_0 6 rfl) (by decide) (fun c => ?_) (fun c => ?_)
  · have H := H.1 c
    refine x_aload_n (zdm d_Zt_feed_0 11 rfl) rfl (n := 0) rfl ?_
    refine x_getG (zdm d_Zt_feed_0 12 rfl) f_Zt_10 rfl rfl (by decide) hsl rfl ?_
    refine x_iload_n (zdm d_Zt_feed_0 13 rfl) rfl (n := 1) rfl ?_
    refine x_callVv (n := 1) (ci := 9) (zdm d_Zt_feed_0 14 rfl) k_Zt_107 (As := [(0, l1)]) rfl rfl rfl ⟨_, _, rfl⟩ (Nat.le_of_ble_eq_true rfl) rfl H (fun r2 M3 hr H => ?_)
    refine x_aload_n (zdm d_Zt_feed_0 15 rfl) rfl (n := 0) rfl ?_
    refine x_getG (zdm d_Zt_feed_0 16 rfl) f_Zt_10 rfl rfl (by decide) hsl rfl ?_
    refine x_iload_n (zdm d_Zt_feed_0 17 rfl) rfl (n := 2) rfl ?_
    refine x_callVv (n := 1) (ci := 9) (zdm d_Zt_feed_0 18 rfl) k_Zt_107 (As := [(0, l2)]) rfl rfl rfl ⟨_, _, rfl⟩ (Nat.le_of_ble_eq_true rfl) rfl H (fun r4 M5 hr H => ?_)
    refine x_aload_n (zdm d_Zt_feed_0 19 rfl) rfl (n := 0) rfl ?_
    refine x_getG (zdm d_Zt_feed_0 20 rfl) f_Zt_10 rfl rfl (by decide) hsl rfl ?_
    refine x_iload_n (zdm d_Zt_feed_0 21 rfl) rfl (n := 3) rfl ?_
    refine x_callVv (n := 1) (ci := 9) (zdm d_Zt_feed_0 22 rfl) k_Zt_107 (As := [(0, l3)]) rfl rfl rfl ⟨_, _, rfl⟩ (Nat.le_of_ble_eq_true rfl) rfl H (fun r6 M7 hr H => ?_)
    refine x_aload_n (zdm d_Zt_feed_0 23 rfl) rfl (n := 0) rfl ?_
    refine x_getG (zdm d_Zt_feed_0 24 rfl) f_Zt_10 rfl rfl (by decide) hsl rfl ?_
    refine x_iload (zdm d_Zt_feed_0 25 rfl) (n := 4) rfl ?_
    refine x_callVv (n := 1) (ci := 9) (zdm d_Zt_feed_0 26 rfl) k_Zt_107 (As := [(0, l4)]) rfl rfl rfl ⟨_, _, rfl⟩ (Nat.le_of_ble_eq_true rfl) rfl H (fun r8 M9 hr H => ?_)
    refine x_aload_n (zdm d_Zt_feed_0 27 rfl) rfl (n := 0) rfl ?_
    refine x_getG (zdm d_Zt_feed_0 28 rfl) f_Zt_10 rfl rfl (by decide) hsl rfl ?_
    refine x_iload (zdm d_Zt_feed_0 29 rfl) (n := 5) rfl ?_
    refine x_callVv (n := 1) (ci := 9) (zdm d_Zt_feed_0 30 rfl) k_Zt_107 (As := [(0, l5)]) rfl rfl rfl ⟨_, _, rfl⟩ (Nat.le_of_ble_eq_true rfl) rfl H (fun r10 M11 hr H => ?_)
    refine x_aload_n (zdm d_Zt_feed_0 31 rfl) rfl (n := 0) rfl ?_
    refine x_getG (zdm d_Zt_feed_0 32 rfl) f_Zt_10 rfl rfl (by decide) hsl rfl ?_
    refine x_getf (zdm d_Zt_feed_0 33 rfl) f_Zt_100 rfl rfl ?_
    exact x_iret (zdm d_Zt_feed_0 34 rfl) rfl H
  · have H := H.2 c
    refine x_aload_n (zdm d_Zt_feed_0 7 rfl) rfl (n := 0) rfl ?_
    refine x_iconst (zdm d_Zt_feed_0 8 rfl) (zIl rfl) ?_
    refine x_callVi (n := 1) (ci := 10) (zdm d_Zt_feed_0 9 rfl) k_Zt_103 (As := [(0, 0)]) rfl rfl rfl ⟨_, _, rfl⟩ (Nat.le_of_ble_eq_true rfl) trivial H (fun r12 M13 hr H => ?_)
    exact x_iret (zdm d_Zt_feed_0 10 rfl) rfl H
set_option maxRecDepth 20000 in
set_option maxHeartbeats 4000000 in
theorem B_Zt_end_15 {G : zG} {h sl : Nat} (hsl : 1 ≤ sl) {u : Nat × Nat × Nat × Nat} {M : zM} {Q : Int → zM → Prop} (H : zCt G h sl 0 0 y_Zt_refused [(2, 1), (0, 0)] M (fun r1 M2 => Q r1 M2)) : zX G (y_Zt_end, h + 1, sl) u 15 [(0, (2, 1))] [] M Q := by
  refine x_aload_n (zdm d_Zt_end_0 7 rfl) rfl (n := 0) rfl ?_
  refine x_iconst (zdm d_Zt_end_0 8 rfl) (zIl rfl) ?_
  refine x_callVi (n := 1) (ci := 10) (zdm d_Zt_end_0 9 rfl) k_Zt_110 (As := [(0, 0)]) rfl rfl rfl ⟨_, _, rfl⟩ (Nat.le_of_ble_eq_true rfl) trivial H (fun r1 M2 hr H => ?_)
  have b3 : r1 = 0 ∨ r1 = 1 := hr
  exact x_ireturn (zdm d_Zt_end_0 10 rfl) (ty := .boolean) rfl (by decide) b3 H
set_option maxRecDepth 20000 in
set_option maxHeartbeats 4000000 in
theorem E_Zt_end {G : zG} {h sl : Nat} (hsl : 1 ≤ sl) {l1 : Int} {M : zM} {Q : Int → zM → Prop} (H : (l1 < 0 → zX G (y_Zt_end, h + 1, sl) (0, 0, 0, 0) 15 [(0, (2, 1))] [] M Q) ∧ (¬ l1 < 0 → (l1 ≤ (M 2 1) → Q 1 (zwr M 2 1 l1)) ∧ (¬ l1 ≤ (M 2 1) → zX G (y_Zt_end, h + 1, sl) (0, 0, 0, 0) 15 [(0, (2, 1))] [] M Q))) : zCt G (h + 1) sl 0 0 y_Zt_end [(2, 1), (0, l1)] M Q := by
  refine zCt.of (by decide +kernel) (Nat.le_of_ble_eq_true rfl) ?_
  refine x_iload_n (zdm d_Zt_end_0 0 rfl) rfl (n := 1) rfl ?_
  refine x_iflt (tgt := 15) (zdm d_Zt_end_0 1 rfl) (by decide) (fun c => ?_) (fun c => ?_)
  · have H := H.1 c
    exact zX.sub [0] rfl H
  · have H := H.2 c
    refine x_iload_n (zdm d_Zt_end_0 2 rfl) rfl (n := 1) rfl ?_
    refine x_aload_n (zdm d_Zt_end_0 3 rfl) rfl (n := 0) rfl ?_
    refine x_getG (zdm d_Zt_end_0 4 rfl) f_Zt_10 rfl rfl (by decide) hsl rfl ?_
    refine x_getf (zdm d_Zt_end_0 5 rfl) f_Zt_100 rfl rfl ?_
    refine x_icmple (tgt := 21) (zdm d_Zt_end_0 6 rfl) (by decide) (fun c => ?_) (fun c => ?_)
    · have H := H.1 c
      refine x_aload_n (zdm d_Zt_end_0 11 rfl) rfl (n := 0) rfl ?_
      refine x_getG (zdm d_Zt_end_0 12 rfl) f_Zt_10 rfl rfl (by decide) hsl rfl ?_
      refine x_iload_n (zdm d_Zt_end_0 13 rfl) rfl (n := 1) rfl ?_
      refine x_putf (zdm d_Zt_end_0 14 rfl) f_Zt_100 rfl ⟨rfl, trivial⟩ (Or.inl rfl) ?_
      refine x_iconst (zdm d_Zt_end_0 15 rfl) (zIl rfl) ?_
      exact x_ireturn (zdm d_Zt_end_0 16 rfl) (ty := .boolean) rfl (by decide) (Or.inr rfl) H
    · have H := H.2 c
      exact zX.sub [0] rfl H
set_option maxRecDepth 20000 in
set_option maxHeartbeats 4000000 in
theorem E_Zt_tablet {G : zG} {h sl : Nat} (hsl : 1 ≤ sl) {M : zM} {Q : Int → zM → Prop} (H : zCt G h sl 0 0 y_Reader_readTablet [(2, 72), (2, (M 1 12))] M (fun r1 M2 => zCt G h sl 0 0 y_Zt_noteFault [(2, 1)] M2 (fun r4 M5 => (¬ r1 = 0 → zCt G h sl 0 0 y_Zt_startAgain [(2, 1)] (zwr (zwr M5 1 11 (M5 1 12)) 1 12 (M5 1 11)) (fun r6 M7 => (zK (M7 1 11) = (8, 0)) ∧ (Q (M7 (M7 1 11) 3) M7))) ∧ (¬ (¬ r1 = 0) → zCt G h sl 0 0 y_Zt_none [(2, 1), (0, 1)] M5 (fun r9 M10 => Q r9 M10))))) : zCt G (h + 1) sl 0 0 y_Zt_tablet [(2, 1)] M Q := by
  refine zCt.of (by decide +kernel) (Nat.le_of_ble_eq_true rfl) ?_
  refine x_aload_n (zdm d_Zt_tablet_0 0 rfl) rfl (n := 0) rfl ?_
  refine x_getG (zdm d_Zt_tablet_0 1 rfl) f_Zt_59 rfl rfl (by decide) hsl rfl ?_
  refine x_aload_n (zdm d_Zt_tablet_0 2 rfl) rfl (n := 0) rfl ?_
  refine x_getf (zdm d_Zt_tablet_0 3 rfl) f_Zt_86 rfl rfl ?_
  refine x_callVi (n := 1) (ci := 7) (zdm d_Zt_tablet_0 4 rfl) k_Zt_114 (As := [(2, (M 1 12))]) rfl rfl rfl ⟨_, _, rfl⟩ (Nat.le_of_ble_eq_true rfl) trivial H (fun r1 M2 hr H => ?_)
  have b3 : r1 = 0 ∨ r1 = 1 := hr
  refine x_istore_n (zdm d_Zt_tablet_0 5 rfl) rfl (zlt rfl) rfl ?_
  refine x_aload_n (zdm d_Zt_tablet_0 6 rfl) rfl (n := 1) rfl ?_
  refine x_callVv (n := 0) (ci := 10) (zdm d_Zt_tablet_0 7 rfl) k_Zt_118 (As := []) rfl rfl rfl ⟨_, _, rfl⟩ (Nat.le_of_ble_eq_true rfl) rfl H (fun r4 M5 hr H => ?_)
  refine x_iload_n (zdm d_Zt_tablet_0 8 rfl) rfl (n := 0) rfl ?_
  refine x_ifne (tgt := 26) (zdm d_Zt_tablet_0 9 rfl) (by decide) (fun c => ?_) (fun c => ?_)
  · have H := H.1 c
    refine x_aload_n (zdm d_Zt_tablet_0 14 rfl) rfl (n := 1) rfl ?_
    refine x_getf (zdm d_Zt_tablet_0 15 rfl) f_Zt_82 rfl rfl ?_
    refine x_astore_n (zdm d_Zt_tablet_0 16 rfl) rfl (zlt rfl) rfl ?_
    refine x_aload_n (zdm d_Zt_tablet_0 17 rfl) rfl (n := 2) rfl ?_
    refine x_aload_n (zdm d_Zt_tablet_0 18 rfl) rfl (n := 2) rfl ?_
    refine x_getf (zdm d_Zt_tablet_0 19 rfl) f_Zt_86 rfl rfl ?_
    refine x_putf (zdm d_Zt_tablet_0 20 rfl) f_Zt_82 rfl ⟨rfl, trivial⟩ (Or.inl rfl) ?_
    refine x_aload_n (zdm d_Zt_tablet_0 21 rfl) rfl (n := 2) rfl ?_
    refine x_aload_n (zdm d_Zt_tablet_0 22 rfl) rfl (n := 0) rfl ?_
    refine x_putf (zdm d_Zt_tablet_0 23 rfl) f_Zt_86 rfl ⟨rfl, trivial⟩ (Or.inl rfl) ?_
    refine x_aload_n (zdm d_Zt_tablet_0 24 rfl) rfl (n := 2) rfl ?_
    refine x_callVv (n := 0) (ci := 10) (zdm d_Zt_tablet_0 25 rfl) k_Zt_97 (As := []) rfl rfl rfl ⟨_, _, rfl⟩ (Nat.le_of_ble_eq_true rfl) rfl H (fun r6 M7 hr H => ?_)
    refine x_aload_n (zdm d_Zt_tablet_0 26 rfl) rfl (n := 2) rfl ?_
    refine x_getf (zdm d_Zt_tablet_0 27 rfl) f_Zt_82 rfl rfl ?_
    obtain ⟨g8, H⟩ := H
    refine x_getf (zdm d_Zt_tablet_0 28 rfl) f_Zt_121 g8 rfl ?_
    exact x_iret (zdm d_Zt_tablet_0 29 rfl) rfl H
  · have H := H.2 c
    refine x_aload_n (zdm d_Zt_tablet_0 10 rfl) rfl (n := 1) rfl ?_
    refine x_iconst (zdm d_Zt_tablet_0 11 rfl) (zIl rfl) ?_
    refine x_callVi (n := 1) (ci := 10) (zdm d_Zt_tablet_0 12 rfl) k_Zt_103 (As := [(0, 1)]) rfl rfl rfl ⟨_, _, rfl⟩ (Nat.le_of_ble_eq_true rfl) trivial H (fun r9 M10 hr H => ?_)
    exact x_iret (zdm d_Zt_tablet_0 13 rfl) rfl H
set_option maxRecDepth 20000 in
set_option maxHeartbeats 4000000 in
theorem E_Zt_fault {G : zG} {h sl : Nat} (hsl : 1 ≤ sl) {l1 : Int} {M : zM} {Q : Int → zM → Prop} (H : (¬ l1 = 0 → (¬ l1 = 1 → Q (-1) M) ∧ (¬ (¬ l1 = 1) → Q (M 1 15) M)) ∧ (¬ (¬ l1 = 0) → Q (M 1 14) M)) : zCt G h sl 0 0 y_Zt_fault [(2, 1), (0, l1)] M Q := by
  refine zCt.of (by decide +kernel) (Nat.le_of_ble_eq_true rfl) ?_
  refine x_iload_n (zdm d_Zt_fault_0 0 rfl) rfl (n := 1) rfl ?_
  refine x_ifne (tgt := 9) (zdm d_Zt_fault_0 1 rfl) (by decide) (fun c => ?_) (fun c => ?_)
  · have H := H.1 c
    refine x_iload_n (zdm d_Zt_fault_0 5 rfl) rfl (n := 1) rfl ?_
    refine x_iconst (zdm d_Zt_fault_0 6 rfl) (zIl rfl) ?_
    refine x_icmpne (tgt := 21) (zdm d_Zt_fault_0 7 rfl) (by decide) (fun c => ?_) (fun c => ?_)
    · have H := H.1 c
      refine x_iconst (zdm d_Zt_fault_0 11 rfl) (zIl rfl) ?_
      exact x_iret (zdm d_Zt_fault_0 12 rfl) rfl H
    · have H := H.2 c
      refine x_aload_n (zdm d_Zt_fault_0 8 rfl) rfl (n := 0) rfl ?_
      refine x_getf (zdm d_Zt_fault_0 9 rfl) f_Zt_89 rfl rfl ?_
      refine x_goto (tgt := 22) (zdm d_Zt_fault_0 10 rfl) (by decide) ?_
      exact x_iret (zdm d_Zt_fault_0 12 rfl) rfl H
  · have H := H.2 c
    refine x_aload_n (zdm d_Zt_fault_0 2 rfl) rfl (n := 0) rfl ?_
    refine x_getf (zdm d_Zt_fault_0 3 rfl) f_Zt_124 rfl rfl ?_
    exact x_iret (zdm d_Zt_fault_0 4 rfl) rfl H
set_option maxRecDepth 20000 in
set_option maxHeartbeats 4000000 in
theorem E_Zt_has {G : zG} {h sl : Nat} (hsl : 1 ≤ sl) {l1 : Int} {M : zM} {Q : Int → zM → Prop} (H : (l1 = 0 → (zK (M 1 11) = (8, 0)) ∧ (Q (M (M 1 11) 2) M)) ∧ (l1 = 1 → Q (M 4 1) M) ∧ (l1 = 2 → (zK (M 1 11) = (8, 0)) ∧ (zCt G h sl 0 0 y_Tablet_isMarked [(2, (M 1 11)), (2, 4)] M (fun r2 M3 => (r2 = 0 → Q 0 M3) ∧ (¬ r2 = 0 → Q 1 M3)))) ∧ (l1 = 3 → zCt G h sl 0 0 y_Zt_untrueColumns [(2, 1)] M (fun r6 M7 => Q r6 M7)) ∧ (l1 = 4 → zCt G h sl 0 0 y_History_keptTold [(2, 18)] M (fun r8 M9 => Q r8 M9)) ∧ (l1 = 5 → Q (M 63 8) M) ∧ (l1 = 6 → Q (M 18 6) M) ∧ ((l1 < 0 ∨ 6 < l1) → Q (-1) M)) : zCt G (h + 1) sl 0 0 y_Zt_has [(2, 1), (0, l1)] M Q := by
  refine zCt.of (by decide +kernel) (Nat.le_of_ble_eq_true rfl) ?_
  refine x_iload_n (zdm d_Zt_has_0 0 rfl) rfl (n := 1) rfl ?_
  by_cases c0 : l1 = 0
  · refine x_tsw (tgt := 44) (zdm d_Zt_has_0 1 rfl) c0 (by decide) rfl (by decide) ?_
    have H := H.1 c0
    refine x_aload_n (zdm d_Zt_has_0 2 rfl) rfl (n := 0) rfl ?_
    refine x_getf (zdm d_Zt_has_0 3 rfl) f_Zt_82 rfl rfl ?_
    obtain ⟨g1, H⟩ := H
    refine x_getf (zdm d_Zt_has_0 4 rfl) f_Zt_127 g1 rfl ?_
    exact x_iret (zdm d_Zt_has_0 5 rfl) rfl H
  · skip
    by_cases c1 : l1 = 1
    · refine x_tsw (tgt := 52) (zdm d_Zt_has_0 1 rfl) c1 (by decide) rfl (by decide) ?_
      have H := H.2.1 c1
      refine x_aload_n (zdm d_Zt_has_0 6 rfl) rfl (n := 0) rfl ?_
      refine x_getG (zdm d_Zt_has_0 7 rfl) f_Zt_19 rfl rfl (by decide) hsl rfl ?_
      refine x_getf (zdm d_Zt_has_0 8 rfl) f_Zt_130 rfl rfl ?_
      exact x_iret (zdm d_Zt_has_0 9 rfl) rfl H
    · skip
      by_cases c2 : l1 = 2
      · refine x_tsw (tgt := 60) (zdm d_Zt_has_0 1 rfl) c2 (by decide) rfl (by decide) ?_
        have H := H.2.2.1 c2
        refine x_aload_n (zdm d_Zt_has_0 10 rfl) rfl (n := 0) rfl ?_
        refine x_getf (zdm d_Zt_has_0 11 rfl) f_Zt_82 rfl rfl ?_
        refine x_aload_n (zdm d_Zt_has_0 12 rfl) rfl (n := 0) rfl ?_
        refine x_getG (zdm d_Zt_has_0 13 rfl) f_Zt_19 rfl rfl (by decide) hsl rfl ?_
        obtain ⟨g4, H⟩ := H
        refine x_callVi (n := 1) (ci := 8) (zdm d_Zt_has_0 14 rfl) k_Zt_133 (As := [(2, 4)]) rfl rfl g4 ⟨_, _, rfl⟩ (Nat.le_of_ble_eq_true rfl) trivial H (fun r2 M3 hr H => ?_)
        have b5 : r2 = 0 ∨ r2 = 1 := hr
        refine x_ifeq (tgt := 78) (zdm d_Zt_has_0 15 rfl) (by decide) (fun c => ?_) (fun c => ?_)
        · have H := H.1 c
          refine x_iconst (zdm d_Zt_has_0 18 rfl) (zIl rfl) ?_
          exact x_iret (zdm d_Zt_has_0 19 rfl) rfl H
        · have H := H.2 c
          refine x_iconst (zdm d_Zt_has_0 16 rfl) (zIl rfl) ?_
          refine x_goto (tgt := 79) (zdm d_Zt_has_0 17 rfl) (by decide) ?_
          exact x_iret (zdm d_Zt_has_0 19 rfl) rfl H
      · skip
        by_cases c3 : l1 = 3
        · refine x_tsw (tgt := 80) (zdm d_Zt_has_0 1 rfl) c3 (by decide) rfl (by decide) ?_
          have H := H.2.2.2.1 c3
          refine x_aload_n (zdm d_Zt_has_0 20 rfl) rfl (n := 0) rfl ?_
          refine x_callVi (n := 0) (ci := 10) (zdm d_Zt_has_0 21 rfl) k_Zt_137 (As := []) rfl rfl rfl ⟨_, _, rfl⟩ (Nat.le_of_ble_eq_true rfl) trivial H (fun r6 M7 hr H => ?_)
          exact x_iret (zdm d_Zt_has_0 22 rfl) rfl H
        · skip
          by_cases c4 : l1 = 4
          · refine x_tsw (tgt := 85) (zdm d_Zt_has_0 1 rfl) c4 (by decide) rfl (by decide) ?_
            have H := H.2.2.2.2.1 c4
            refine x_aload_n (zdm d_Zt_has_0 23 rfl) rfl (n := 0) rfl ?_
            refine x_getG (zdm d_Zt_has_0 24 rfl) f_Zt_41 rfl rfl (by decide) hsl rfl ?_
            refine x_callVi (n := 0) (ci := 3) (zdm d_Zt_has_0 25 rfl) k_Zt_141 (As := []) rfl rfl rfl ⟨_, _, rfl⟩ (Nat.le_of_ble_eq_true rfl) trivial H (fun r8 M9 hr H => ?_)
            exact x_iret (zdm d_Zt_has_0 26 rfl) rfl H
          · skip
            by_cases c5 : l1 = 5
            · refine x_tsw (tgt := 93) (zdm d_Zt_has_0 1 rfl) c5 (by decide) rfl (by decide) ?_
              have H := H.2.2.2.2.2.1 c5
              refine x_aload_n (zdm d_Zt_has_0 27 rfl) rfl (n := 0) rfl ?_
              refine x_getG (zdm d_Zt_has_0 28 rfl) f_Zt_50 rfl rfl (by decide) hsl rfl ?_
              refine x_getf (zdm d_Zt_has_0 29 rfl) f_Zt_144 rfl rfl ?_
              exact x_iret (zdm d_Zt_has_0 30 rfl) rfl H
            · skip
              by_cases c6 : l1 = 6
              · refine x_tsw (tgt := 101) (zdm d_Zt_has_0 1 rfl) c6 (by decide) rfl (by decide) ?_
                have H := H.2.2.2.2.2.2.1 c6
                refine x_aload_n (zdm d_Zt_has_0 31 rfl) rfl (n := 0) rfl ?_
                refine x_getG (zdm d_Zt_has_0 32 rfl) f_Zt_41 rfl rfl (by decide) hsl rfl ?_
                refine x_getf (zdm d_Zt_has_0 33 rfl) f_Zt_147 rfl rfl ?_
                exact x_iret (zdm d_Zt_has_0 34 rfl) rfl H
              · skip
                have cd : (l1 < 0 ∨ 6 < l1) := by omega
                refine x_tswd (tgt := 109) (zdm d_Zt_has_0 1 rfl) cd (by decide) ?_
                have H := H.2.2.2.2.2.2.2 cd
                refine x_iconst (zdm d_Zt_has_0 35 rfl) (zIl rfl) ?_
                exact x_iret (zdm d_Zt_has_0 36 rfl) rfl H
set_option maxRecDepth 20000 in
set_option maxHeartbeats 4000000 in
theorem E_Zt_letter {G : zG} {h sl : Nat} (hsl : 1 ≤ sl) {l1 l2 : Int} {M : zM} {Q : Int → zM → Prop} (H : zCt G h sl 0 0 y_Zt_isColumn [(2, 1), (0, l1)] M (fun r1 M2 => (r1 = 0 → Q (-1) M2) ∧ (¬ r1 = 0 → (l2 < 0 → Q (-1) M2) ∧ (¬ l2 < 0 → (l2 < 6 → (zK (M2 1 11) = (8, 0)) ∧ ((0 ≤ l1 ∧ l1 < 8) ∧ ((0 ≤ l2 ∧ l2 < 6) ∧ (Q (M2 (((M2 1 11) + 7 + 2 * l1) + 1) l2) M2)))) ∧ (¬ l2 < 6 → Q (-1) M2))))) : zCt G (h + 1) sl 0 0 y_Zt_letter [(2, 1), (0, l1), (0, l2)] M Q := by
  refine zCt.of (by decide +kernel) (Nat.le_of_ble_eq_true rfl) ?_
  refine x_aload_n (zdm d_Zt_letter_0 0 rfl) rfl (n := 0) rfl ?_
  refine x_iload_n (zdm d_Zt_letter_0 1 rfl) rfl (n := 1) rfl ?_
  refine x_callVi (n := 1) (ci := 10) (zdm d_Zt_letter_0 2 rfl) k_Zt_150 (As := [(0, l1)]) rfl rfl rfl ⟨_, _, rfl⟩ (Nat.le_of_ble_eq_true rfl) trivial H (fun r1 M2 hr H => ?_)
  have b3 : r1 = 0 ∨ r1 = 1 := hr
  refine x_ifeq (tgt := 18) (zdm d_Zt_letter_0 3 rfl) (by decide) (fun c => ?_) (fun c => ?_)
  · have H := H.1 c
    refine x_iconst (zdm d_Zt_letter_0 9 rfl) (zIl rfl) ?_
    exact x_iret (zdm d_Zt_letter_0 10 rfl) rfl H
  · have H := H.2 c
    refine x_iload_n (zdm d_Zt_letter_0 4 rfl) rfl (n := 2) rfl ?_
    refine x_iflt (tgt := 18) (zdm d_Zt_letter_0 5 rfl) (by decide) (fun c => ?_) (fun c => ?_)
    · have H := H.1 c
      refine x_iconst (zdm d_Zt_letter_0 9 rfl) (zIl rfl) ?_
      exact x_iret (zdm d_Zt_letter_0 10 rfl) rfl H
    · have H := H.2 c
      refine x_iload_n (zdm d_Zt_letter_0 6 rfl) rfl (n := 2) rfl ?_
      refine x_bipush (zdm d_Zt_letter_0 7 rfl) (by decide) ?_
      refine x_icmplt (tgt := 20) (zdm d_Zt_letter_0 8 rfl) (by decide) (fun c => ?_) (fun c => ?_)
      · have H := H.1 c
        refine x_aload_n (zdm d_Zt_letter_0 11 rfl) rfl (n := 0) rfl ?_
        refine x_getf (zdm d_Zt_letter_0 12 rfl) f_Zt_82 rfl rfl ?_
        obtain ⟨g4, H⟩ := H
        refine x_getG (zdm d_Zt_letter_0 13 rfl) f_Zt_153 g4 rfl (by decide) hsl (zs_8 g4).1.1 ?_
        refine x_iload_n (zdm d_Zt_letter_0 14 rfl) rfl (n := 1) rfl ?_
        obtain ⟨g5, H⟩ := H
        refine x_aald5G (zdm d_Zt_letter_0 15 rfl) (zs_8 g4).1.2 g5 hsl (zs_cols g4 g5.1 g5.2).1 ?_
        refine x_getG (zdm d_Zt_letter_0 16 rfl) f_Zt_157 (zs_cols g4 g5.1 g5.2).2 rfl (by decide) hsl (zs_1 (zs_cols g4 g5.1 g5.2).2).1 ?_
        refine x_iload_n (zdm d_Zt_letter_0 17 rfl) rfl (n := 2) rfl ?_
        obtain ⟨g6, H⟩ := H
        refine x_iald (zdm d_Zt_letter_0 18 rfl) (zs_1 (zs_cols g4 g5.1 g5.2).2).2 g6 ?_
        exact x_iret (zdm d_Zt_letter_0 19 rfl) rfl H
      · have H := H.2 c
        refine x_iconst (zdm d_Zt_letter_0 9 rfl) (zIl rfl) ?_
        exact x_iret (zdm d_Zt_letter_0 10 rfl) rfl H
set_option maxRecDepth 20000 in
set_option maxHeartbeats 4000000 in
theorem E_Zt_column {G : zG} {h sl : Nat} (hsl : 1 ≤ sl) {l1 l2 : Int} {M : zM} {Q : Int → zM → Prop} (H : zCt G h sl 0 0 y_Zt_isColumn [(2, 1), (0, l1)] M (fun r1 M2 => (¬ r1 = 0 → (zK (M2 1 11) = (8, 0)) ∧ ((0 ≤ l1 ∧ l1 < 8) ∧ ((l2 = 0 → Q (M2 ((M2 1 11) + 7 + 2 * l1) 1) M2) ∧ (l2 = 1 → zCt G h sl 0 0 y_Line_goesUp [(2, 4), (0, l1)] M2 (fun r6 M7 => (r6 = 0 → Q 0 M7) ∧ (¬ r6 = 0 → Q 1 M7))) ∧ (l2 = 2 → Q (M2 ((M2 1 11) + 7 + 2 * l1) 2) M2) ∧ (l2 = 3 → Q (M2 ((M2 1 11) + 7 + 2 * l1) 3) M2) ∧ ((l2 < 0 ∨ 3 < l2) → Q (-1) M2)))) ∧ (¬ (¬ r1 = 0) → Q (-1) M2))) : zCt G (h + 1) sl 0 0 y_Zt_column [(2, 1), (0, l1), (0, l2)] M Q := by
  refine zCt.of (by decide +kernel) (Nat.le_of_ble_eq_true rfl) ?_
  refine x_aload_n (zdm d_Zt_column_0 0 rfl) rfl (n := 0) rfl ?_
  refine x_iload_n (zdm d_Zt_column_0 1 rfl) rfl (n := 1) rfl ?_
  refine x_callVi (n := 1) (ci := 10) (zdm d_Zt_column_0 2 rfl) k_Zt_150 (As := [(0, l1)]) rfl rfl rfl ⟨_, _, rfl⟩ (Nat.le_of_ble_eq_true rfl) trivial H (fun r1 M2 hr H => ?_)
  have b3 : r1 = 0 ∨ r1 = 1 := hr
  refine x_ifne (tgt := 10) (zdm d_Zt_column_0 3 rfl) (by decide) (fun c => ?_) (fun c => ?_)
  · have H := H.1 c
    refine x_aload_n (zdm d_Zt_column_0 6 rfl) rfl (n := 0) rfl ?_
    refine x_getf (zdm d_Zt_column_0 7 rfl) f_Zt_82 rfl rfl ?_
    obtain ⟨g4, H⟩ := H
    refine x_getG (zdm d_Zt_column_0 8 rfl) f_Zt_153 g4 rfl (by decide) hsl (zs_8 g4).1.1 ?_
    refine x_iload_n (zdm d_Zt_column_0 9 rfl) rfl (n := 1) rfl ?_
    obtain ⟨g5, H⟩ := H
    refine x_aald5G (zdm d_Zt_column_0 10 rfl) (zs_8 g4).1.2 g5 hsl (zs_cols g4 g5.1 g5.2).1 ?_
    refine x_astore_n (zdm d_Zt_column_0 11 rfl) rfl (zlt rfl) rfl ?_
    refine x_iload_n (zdm d_Zt_column_0 12 rfl) rfl (n := 3) rfl ?_
    by_cases c0 : l2 = 0
    · refine x_tsw (tgt := 52) (zdm d_Zt_column_0 13 rfl) c0 (by decide) rfl (by decide) ?_
      have H := H.1 c0
      refine x_aload_n (zdm d_Zt_column_0 14 rfl) rfl (n := 0) rfl ?_
      refine x_getf (zdm d_Zt_column_0 15 rfl) f_Zt_162 (zs_cols g4 g5.1 g5.2).2 rfl ?_
      exact x_iret (zdm d_Zt_column_0 16 rfl) rfl H
    · skip
      by_cases c1 : l2 = 1
      · refine x_tsw (tgt := 57) (zdm d_Zt_column_0 13 rfl) c1 (by decide) rfl (by decide) ?_
        have H := H.2.1 c1
        refine x_aload_n (zdm d_Zt_column_0 17 rfl) rfl (n := 1) rfl ?_
        refine x_getG (zdm d_Zt_column_0 18 rfl) f_Zt_19 rfl rfl (by decide) hsl rfl ?_
        refine x_iload_n (zdm d_Zt_column_0 19 rfl) rfl (n := 2) rfl ?_
        refine x_callVi (n := 1) (ci := 4) (zdm d_Zt_column_0 20 rfl) k_Zt_165 (As := [(0, l1)]) rfl rfl rfl ⟨_, _, rfl⟩ (Nat.le_of_ble_eq_true rfl) trivial H (fun r6 M7 hr H => ?_)
        have b8 : r6 = 0 ∨ r6 = 1 := hr
        refine x_ifeq (tgt := 72) (zdm d_Zt_column_0 21 rfl) (by decide) (fun c => ?_) (fun c => ?_)
        · have H := H.1 c
          refine x_iconst (zdm d_Zt_column_0 24 rfl) (zIl rfl) ?_
          exact x_iret (zdm d_Zt_column_0 25 rfl) rfl H
        · have H := H.2 c
          refine x_iconst (zdm d_Zt_column_0 22 rfl) (zIl rfl) ?_
          refine x_goto (tgt := 73) (zdm d_Zt_column_0 23 rfl) (by decide) ?_
          exact x_iret (zdm d_Zt_column_0 25 rfl) rfl H
      · skip
        by_cases c2 : l2 = 2
        · refine x_tsw (tgt := 74) (zdm d_Zt_column_0 13 rfl) c2 (by decide) rfl (by decide) ?_
          have H := H.2.2.1 c2
          refine x_aload_n (zdm d_Zt_column_0 26 rfl) rfl (n := 0) rfl ?_
          refine x_getf (zdm d_Zt_column_0 27 rfl) f_Zt_168 (zs_cols g4 g5.1 g5.2).2 rfl ?_
          exact x_iret (zdm d_Zt_column_0 28 rfl) rfl H
        · skip
          by_cases c3 : l2 = 3
          · refine x_tsw (tgt := 79) (zdm d_Zt_column_0 13 rfl) c3 (by decide) rfl (by decide) ?_
            have H := H.2.2.2.1 c3
            refine x_aload_n (zdm d_Zt_column_0 29 rfl) rfl (n := 0) rfl ?_
            refine x_getf (zdm d_Zt_column_0 30 rfl) f_Zt_171 (zs_cols g4 g5.1 g5.2).2 rfl ?_
            exact x_iret (zdm d_Zt_column_0 31 rfl) rfl H
          · skip
            have cd : (l2 < 0 ∨ 3 < l2) := by omega
            refine x_tswd (tgt := 84) (zdm d_Zt_column_0 13 rfl) cd (by decide) ?_
            have H := H.2.2.2.2 cd
            refine x_iconst (zdm d_Zt_column_0 32 rfl) (zIl rfl) ?_
            exact x_iret (zdm d_Zt_column_0 33 rfl) rfl H
  · have H := H.2 c
    refine x_iconst (zdm d_Zt_column_0 4 rfl) (zIl rfl) ?_
    exact x_iret (zdm d_Zt_column_0 5 rfl) rfl H
set_option maxRecDepth 20000 in
set_option maxHeartbeats 4000000 in
theorem E_Zt_value {G : zG} {h sl : Nat} (hsl : 1 ≤ sl) {l1 l2 : Int} {M : zM} {Q : Int → zM → Prop} (H : zCt G h sl 0 0 y_Zt_isColumn [(2, 1), (0, l1)] M (fun r1 M2 => (r1 = 0 → Q (-1000000000000000) M2) ∧ (¬ r1 = 0 → (l2 < 0 → Q (-1000000000000000) M2) ∧ (¬ l2 < 0 → (l2 ≤ 1 → (¬ l2 = 0 → zCt G h sl 0 0 y_Course_told [(2, 8), (0, (M2 4 1)), (0, l1)] M2 (fun r4 M5 => Q r4 M5)) ∧ (¬ (¬ l2 = 0) → (0 ≤ l1 ∧ l1 < 8) ∧ (Q (M2 5 l1) M2))) ∧ (¬ l2 ≤ 1 → Q (-1000000000000000) M2))))) : zCt G (h + 1) sl 0 0 y_Zt_value [(2, 1), (0, l1), (0, l2)] M Q := by
  refine zCt.of (by decide +kernel) (Nat.le_of_ble_eq_true rfl) ?_
  refine x_aload_n (zdm d_Zt_value_0 0 rfl) rfl (n := 0) rfl ?_
  refine x_iload_n (zdm d_Zt_value_0 1 rfl) rfl (n := 1) rfl ?_
  refine x_callVi (n := 1) (ci := 10) (zdm d_Zt_value_0 2 rfl) k_Zt_150 (As := [(0, l1)]) rfl rfl rfl ⟨_, _, rfl⟩ (Nat.le_of_ble_eq_true rfl) trivial H (fun r1 M2 hr H => ?_)
  have b3 : r1 = 0 ∨ r1 = 1 := hr
  refine x_ifeq (tgt := 17) (zdm d_Zt_value_0 3 rfl) (by decide) (fun c => ?_) (fun c => ?_)
  · have H := H.1 c
    refine x_ldc2 (zdm d_Zt_value_0 9 rfl) (n := (-1000000000000000)) (zLl rfl) w_Zt_174 ?_
    exact x_lreturn (zdm d_Zt_value_0 10 rfl) rfl H
  · have H := H.2 c
    refine x_iload_n (zdm d_Zt_value_0 4 rfl) rfl (n := 2) rfl ?_
    refine x_iflt (tgt := 17) (zdm d_Zt_value_0 5 rfl) (by decide) (fun c => ?_) (fun c => ?_)
    · have H := H.1 c
      refine x_ldc2 (zdm d_Zt_value_0 9 rfl) (n := (-1000000000000000)) (zLl rfl) w_Zt_174 ?_
      exact x_lreturn (zdm d_Zt_value_0 10 rfl) rfl H
    · have H := H.2 c
      refine x_iload_n (zdm d_Zt_value_0 6 rfl) rfl (n := 2) rfl ?_
      refine x_iconst (zdm d_Zt_value_0 7 rfl) (zIl rfl) ?_
      refine x_icmple (tgt := 21) (zdm d_Zt_value_0 8 rfl) (by decide) (fun c => ?_) (fun c => ?_)
      · have H := H.1 c
        refine x_iload_n (zdm d_Zt_value_0 11 rfl) rfl (n := 2) rfl ?_
        refine x_ifne (tgt := 38) (zdm d_Zt_value_0 12 rfl) (by decide) (fun c => ?_) (fun c => ?_)
        · have H := H.1 c
          refine x_aload_n (zdm d_Zt_value_0 20 rfl) rfl (n := 0) rfl ?_
          refine x_getG (zdm d_Zt_value_0 21 rfl) f_Zt_31 rfl rfl (by decide) hsl rfl ?_
          refine x_aload_n (zdm d_Zt_value_0 22 rfl) rfl (n := 0) rfl ?_
          refine x_getG (zdm d_Zt_value_0 23 rfl) f_Zt_19 rfl rfl (by decide) hsl rfl ?_
          refine x_getf (zdm d_Zt_value_0 24 rfl) f_Zt_130 rfl rfl ?_
          refine x_iload_n (zdm d_Zt_value_0 25 rfl) rfl (n := 1) rfl ?_
          refine x_callVi (n := 2) (ci := 2) (zdm d_Zt_value_0 26 rfl) k_Zt_179 (As := [(0, (M2 4 1)), (0, l1)]) rfl rfl rfl ⟨_, _, rfl⟩ (Nat.le_of_ble_eq_true rfl) trivial H (fun r4 M5 hr H => ?_)
          refine x_i2l (zdm d_Zt_value_0 27 rfl) ?_
          exact x_lreturn (zdm d_Zt_value_0 28 rfl) rfl H
        · have H := H.2 c
          refine x_aload_n (zdm d_Zt_value_0 13 rfl) rfl (n := 0) rfl ?_
          refine x_getG (zdm d_Zt_value_0 14 rfl) f_Zt_19 rfl rfl (by decide) hsl rfl ?_
          refine x_getG (zdm d_Zt_value_0 15 rfl) f_Zt_176 rfl rfl (by decide) hsl rfl ?_
          refine x_iload_n (zdm d_Zt_value_0 16 rfl) rfl (n := 1) rfl ?_
          obtain ⟨g6, H⟩ := H
          refine x_iald (zdm d_Zt_value_0 17 rfl) rfl g6 ?_
          refine x_i2l (zdm d_Zt_value_0 18 rfl) ?_
          refine x_goto (tgt := 54) (zdm d_Zt_value_0 19 rfl) (by decide) ?_
          exact x_lreturn (zdm d_Zt_value_0 28 rfl) rfl H
      · have H := H.2 c
        refine x_ldc2 (zdm d_Zt_value_0 9 rfl) (n := (-1000000000000000)) (zLl rfl) w_Zt_174 ?_
        exact x_lreturn (zdm d_Zt_value_0 10 rfl) rfl H
set_option maxRecDepth 20000 in
set_option maxHeartbeats 4000000 in
theorem E_Zt_kept {G : zG} {h sl : Nat} (hsl : 1 ≤ sl) {l1 l2 : Int} {M : zM} {Q : Int → zM → Prop} (H : (l1 < 0 → Q (-1) M) ∧ (¬ l1 < 0 → zCt G h sl 0 0 y_History_keptTold [(2, 18)] M (fun r1 M2 => (l1 < r1 → (¬ l2 = 0 → (¬ l2 = 1 → Q (-1) M2) ∧ (¬ (¬ l2 = 1) → zCt G h sl 0 0 y_History_keptUntrue [(2, 18), (0, l1)] M2 (fun r3 M4 => Q r3 M4))) ∧ (¬ (¬ l2 = 0) → zCt G h sl 0 0 y_History_keptLine [(2, 18), (0, l1)] M2 (fun r5 M6 => Q r5 M6))) ∧ (¬ l1 < r1 → Q (-1) M2)))) : zCt G (h + 1) sl 0 0 y_Zt_kept [(2, 1), (0, l1), (0, l2)] M Q := by
  refine zCt.of (by decide +kernel) (Nat.le_of_ble_eq_true rfl) ?_
  refine x_iload_n (zdm d_Zt_kept_0 0 rfl) rfl (n := 1) rfl ?_
  refine x_iflt (tgt := 15) (zdm d_Zt_kept_0 1 rfl) (by decide) (fun c => ?_) (fun c => ?_)
  · have H := H.1 c
    refine x_iconst (zdm d_Zt_kept_0 7 rfl) (zIl rfl) ?_
    exact x_iret (zdm d_Zt_kept_0 8 rfl) rfl H
  · have H := H.2 c
    refine x_iload_n (zdm d_Zt_kept_0 2 rfl) rfl (n := 1) rfl ?_
    refine x_aload_n (zdm d_Zt_kept_0 3 rfl) rfl (n := 0) rfl ?_
    refine x_getG (zdm d_Zt_kept_0 4 rfl) f_Zt_41 rfl rfl (by decide) hsl rfl ?_
    refine x_callVi (n := 0) (ci := 3) (zdm d_Zt_kept_0 5 rfl) k_Zt_141 (As := []) rfl rfl rfl ⟨_, _, rfl⟩ (Nat.le_of_ble_eq_true rfl) trivial H (fun r1 M2 hr H => ?_)
    refine x_icmplt (tgt := 17) (zdm d_Zt_kept_0 6 rfl) (by decide) (fun c => ?_) (fun c => ?_)
    · have H := H.1 c
      refine x_iload_n (zdm d_Zt_kept_0 9 rfl) rfl (n := 2) rfl ?_
      refine x_ifne (tgt := 30) (zdm d_Zt_kept_0 10 rfl) (by decide) (fun c => ?_) (fun c => ?_)
      · have H := H.1 c
        refine x_iload_n (zdm d_Zt_kept_0 16 rfl) rfl (n := 2) rfl ?_
        refine x_iconst (zdm d_Zt_kept_0 17 rfl) (zIl rfl) ?_
        refine x_icmpne (tgt := 46) (zdm d_Zt_kept_0 18 rfl) (by decide) (fun c => ?_) (fun c => ?_)
        · have H := H.1 c
          refine x_iconst (zdm d_Zt_kept_0 24 rfl) (zIl rfl) ?_
          exact x_iret (zdm d_Zt_kept_0 25 rfl) rfl H
        · have H := H.2 c
          refine x_aload_n (zdm d_Zt_kept_0 19 rfl) rfl (n := 0) rfl ?_
          refine x_getG (zdm d_Zt_kept_0 20 rfl) f_Zt_41 rfl rfl (by decide) hsl rfl ?_
          refine x_iload_n (zdm d_Zt_kept_0 21 rfl) rfl (n := 1) rfl ?_
          refine x_callVi (n := 1) (ci := 3) (zdm d_Zt_kept_0 22 rfl) k_Zt_186 (As := [(0, l1)]) rfl rfl rfl ⟨_, _, rfl⟩ (Nat.le_of_ble_eq_true rfl) trivial H (fun r3 M4 hr H => ?_)
          refine x_goto (tgt := 47) (zdm d_Zt_kept_0 23 rfl) (by decide) ?_
          exact x_iret (zdm d_Zt_kept_0 25 rfl) rfl H
      · have H := H.2 c
        refine x_aload_n (zdm d_Zt_kept_0 11 rfl) rfl (n := 0) rfl ?_
        refine x_getG (zdm d_Zt_kept_0 12 rfl) f_Zt_41 rfl rfl (by decide) hsl rfl ?_
        refine x_iload_n (zdm d_Zt_kept_0 13 rfl) rfl (n := 1) rfl ?_
        refine x_callVi (n := 1) (ci := 3) (zdm d_Zt_kept_0 14 rfl) k_Zt_183 (As := [(0, l1)]) rfl rfl rfl ⟨_, _, rfl⟩ (Nat.le_of_ble_eq_true rfl) trivial H (fun r5 M6 hr H => ?_)
        exact x_iret (zdm d_Zt_kept_0 15 rfl) rfl H
    · have H := H.2 c
      refine x_iconst (zdm d_Zt_kept_0 7 rfl) (zIl rfl) ?_
      exact x_iret (zdm d_Zt_kept_0 8 rfl) rfl H
set_option maxRecDepth 20000 in
set_option maxHeartbeats 4000000 in
theorem E_Zt_later {G : zG} {h sl : Nat} (hsl : 1 ≤ sl) {l1 l2 : Int} {M : zM} {Q : Int → zM → Prop} (H : zCt G h sl 0 0 y_Zt_isColumn [(2, 1), (0, l1)] M (fun r1 M2 => (r1 = 0 → Q (-1000000000000000) M2) ∧ (¬ r1 = 0 → zCt G h sl 0 0 y_Zt_isAhead [(2, 1), (0, l2), (0, 0), (0, 200)] M2 (fun r4 M5 => (¬ r4 = 0 → zCt G h sl 0 0 y_Course_reach [(2, 13), (0, l2)] M5 (fun r7 M8 => zCt G h sl 0 0 y_Course_told [(2, 13), (0, l2), (0, l1)] M8 (fun r9 M10 => Q r9 M10))) ∧ (¬ (¬ r4 = 0) → Q (-1000000000000000) M5))))) : zCt G (h + 1) sl 0 0 y_Zt_later [(2, 1), (0, l1), (0, l2)] M Q := by
  refine zCt.of (by decide +kernel) (Nat.le_of_ble_eq_true rfl) ?_
  refine x_aload_n (zdm d_Zt_later_0 0 rfl) rfl (n := 0) rfl ?_
  refine x_iload_n (zdm d_Zt_later_0 1 rfl) rfl (n := 1) rfl ?_
  refine x_callVi (n := 1) (ci := 10) (zdm d_Zt_later_0 2 rfl) k_Zt_150 (As := [(0, l1)]) rfl rfl rfl ⟨_, _, rfl⟩ (Nat.le_of_ble_eq_true rfl) trivial H (fun r1 M2 hr H => ?_)
  have b3 : r1 = 0 ∨ r1 = 1 := hr
  refine x_ifeq (tgt := 20) (zdm d_Zt_later_0 3 rfl) (by decide) (fun c => ?_) (fun c => ?_)
  · have H := H.1 c
    refine x_ldc2 (zdm d_Zt_later_0 10 rfl) (n := (-1000000000000000)) (zLl rfl) w_Zt_174 ?_
    exact x_lreturn (zdm d_Zt_later_0 11 rfl) rfl H
  · have H := H.2 c
    refine x_aload_n (zdm d_Zt_later_0 4 rfl) rfl (n := 0) rfl ?_
    refine x_iload_n (zdm d_Zt_later_0 5 rfl) rfl (n := 2) rfl ?_
    refine x_iconst (zdm d_Zt_later_0 6 rfl) (zIl rfl) ?_
    refine x_sipush (zdm d_Zt_later_0 7 rfl) (by decide) ?_
    refine x_callVi (n := 3) (ci := 10) (zdm d_Zt_later_0 8 rfl) k_Zt_189 (As := [(0, l2), (0, 0), (0, 200)]) rfl rfl rfl ⟨_, _, rfl⟩ (Nat.le_of_ble_eq_true rfl) trivial H (fun r4 M5 hr H => ?_)
    have b6 : r4 = 0 ∨ r4 = 1 := hr
    refine x_ifne (tgt := 24) (zdm d_Zt_later_0 9 rfl) (by decide) (fun c => ?_) (fun c => ?_)
    · have H := H.1 c
      refine x_aload_n (zdm d_Zt_later_0 12 rfl) rfl (n := 0) rfl ?_
      refine x_getG (zdm d_Zt_later_0 13 rfl) f_Zt_35 rfl rfl (by decide) hsl rfl ?_
      refine x_iload_n (zdm d_Zt_later_0 14 rfl) rfl (n := 2) rfl ?_
      refine x_callVv (n := 1) (ci := 2) (zdm d_Zt_later_0 15 rfl) k_Zt_193 (As := [(0, l2)]) rfl rfl rfl ⟨_, _, rfl⟩ (Nat.le_of_ble_eq_true rfl) rfl H (fun r7 M8 hr H => ?_)
      refine x_aload_n (zdm d_Zt_later_0 16 rfl) rfl (n := 0) rfl ?_
      refine x_getG (zdm d_Zt_later_0 17 rfl) f_Zt_35 rfl rfl (by decide) hsl rfl ?_
      refine x_iload_n (zdm d_Zt_later_0 18 rfl) rfl (n := 2) rfl ?_
      refine x_iload_n (zdm d_Zt_later_0 19 rfl) rfl (n := 1) rfl ?_
      refine x_callVi (n := 2) (ci := 2) (zdm d_Zt_later_0 20 rfl) k_Zt_179 (As := [(0, l2), (0, l1)]) rfl rfl rfl ⟨_, _, rfl⟩ (Nat.le_of_ble_eq_true rfl) trivial H (fun r9 M10 hr H => ?_)
      refine x_i2l (zdm d_Zt_later_0 21 rfl) ?_
      exact x_lreturn (zdm d_Zt_later_0 22 rfl) rfl H
    · have H := H.2 c
      refine x_ldc2 (zdm d_Zt_later_0 10 rfl) (n := (-1000000000000000)) (zLl rfl) w_Zt_174 ?_
      exact x_lreturn (zdm d_Zt_later_0 11 rfl) rfl H
set_option maxRecDepth 20000 in
set_option maxHeartbeats 4000000 in
theorem B_Zt_bounds_59 {G : zG} {h sl : Nat} (hsl : 1 ≤ sl) {u : Nat × Nat × Nat × Nat} {l1 l2 l3 l4 l5 l6 : Int} {M : zM} {Q : Int → zM → Prop} (H : (l2 < l6 → (¬ (Int.tmod l3 2) = 0 → Q l5 M) ∧ (¬ (¬ (Int.tmod l3 2) = 0) → zCt G h sl 0 0 y_Course_told [(2, 13), (0, l5), (0, l1)] M (fun r1 M2 => Q r1 M2))) ∧ (¬ l2 < l6 → zCt G h sl 0 0 y_Course_told [(2, 13), (0, l6), (0, l1)] M (fun r3 M4 => zCt G h sl 0 0 y_Course_told [(2, 13), (0, l5), (0, l1)] M4 (fun r5 M6 => (zI (r3 - r5)) ∧ ((l4 = 0 → (0 ≤ (r3 - r5) → (zI (l6 + 1)) ∧ (zX G (y_Zt_bounds, h + 1, sl) u 59 [(0, (2, 1)), (1, (0, l1)), (2, (0, l2)), (3, (0, l3)), (4, (0, l4)), (5, (0, l5)), (6, (0, (l6 + 1)))] [] M6 Q)) ∧ (¬ 0 ≤ (r3 - r5) → (zI (l6 + 1)) ∧ (zX G (y_Zt_bounds, h + 1, sl) u 59 [(0, (2, 1)), (1, (0, l1)), (2, (0, l2)), (3, (0, l3)), (4, (0, l4)), (5, (0, l6)), (6, (0, (l6 + 1)))] [] M6 Q))) ∧ (¬ l4 = 0 → ((r3 - r5) ≤ 0 → (zI (l6 + 1)) ∧ (zX G (y_Zt_bounds, h + 1, sl) u 59 [(0, (2, 1)), (1, (0, l1)), (2, (0, l2)), (3, (0, l3)), (4, (0, l4)), (5, (0, l5)), (6, (0, (l6 + 1)))] [] M6 Q)) ∧ (¬ (r3 - r5) ≤ 0 → (zI (l6 + 1)) ∧ (zX G (y_Zt_bounds, h + 1, sl) u 59 [(0, (2, 1)), (1, (0, l1)), (2, (0, l2)), (3, (0, l3)), (4, (0, l4)), (5, (0, l6)), (6, (0, (l6 + 1)))] [] M6 Q)))))))) : zX G (y_Zt_bounds, h + 1, sl) u 59 [(0, (2, 1)), (1, (0, l1)), (2, (0, l2)), (3, (0, l3)), (4, (0, l4)), (5, (0, l5)), (6, (0, l6))] [] M Q := by
  refine x_iload (zdm d_Zt_bounds_0 32 rfl) (n := 6) rfl ?_
  refine x_iload_n (zdm d_Zt_bounds_0 33 rfl) rfl (n := 2) rfl ?_
  refine x_icmpgt (tgt := 116) (zdm d_Zt_bounds_0 34 rfl) (by decide) (fun c => ?_) (fun c => ?_)
  · have H := H.1 c
    refine x_iload_n (zdm d_Zt_bounds_0 58 rfl) rfl (n := 3) rfl ?_
    refine x_iconst (zdm d_Zt_bounds_0 59 rfl) (zIl rfl) ?_
    refine x_irem (zdm d_Zt_bounds_1 0 rfl) (by decide) ?_
    refine x_ifne (tgt := 136) (zdm d_Zt_bounds_1 1 rfl) (by decide) (fun c => ?_) (fun c => ?_)
    · have H := H.1 c
      refine x_iload (zdm d_Zt_bounds_1 9 rfl) (n := 5) rfl ?_
      refine x_i2l (zdm d_Zt_bounds_1 10 rfl) ?_
      exact x_lreturn (zdm d_Zt_bounds_1 11 rfl) rfl H
    · have H := H.2 c
      refine x_aload_n (zdm d_Zt_bounds_1 2 rfl) rfl (n := 0) rfl ?_
      refine x_getG (zdm d_Zt_bounds_1 3 rfl) f_Zt_35 rfl rfl (by decide) hsl rfl ?_
      refine x_iload (zdm d_Zt_bounds_1 4 rfl) (n := 5) rfl ?_
      refine x_iload_n (zdm d_Zt_bounds_1 5 rfl) rfl (n := 1) rfl ?_
      refine x_callVi (n := 2) (ci := 2) (zdm d_Zt_bounds_1 6 rfl) k_Zt_179 (As := [(0, l5), (0, l1)]) rfl rfl rfl ⟨_, _, rfl⟩ (Nat.le_of_ble_eq_true rfl) trivial H (fun r1 M2 hr H => ?_)
      refine x_i2l (zdm d_Zt_bounds_1 7 rfl) ?_
      refine x_goto (tgt := 139) (zdm d_Zt_bounds_1 8 rfl) (by decide) ?_
      exact x_lreturn (zdm d_Zt_bounds_1 11 rfl) rfl H
  · have H := H.2 c
    refine x_aload_n (zdm d_Zt_bounds_0 35 rfl) rfl (n := 0) rfl ?_
    refine x_getG (zdm d_Zt_bounds_0 36 rfl) f_Zt_35 rfl rfl (by decide) hsl rfl ?_
    refine x_iload (zdm d_Zt_bounds_0 37 rfl) (n := 6) rfl ?_
    refine x_iload_n (zdm d_Zt_bounds_0 38 rfl) rfl (n := 1) rfl ?_
    refine x_callVi (n := 2) (ci := 2) (zdm d_Zt_bounds_0 39 rfl) k_Zt_179 (As := [(0, l6), (0, l1)]) rfl rfl rfl ⟨_, _, rfl⟩ (Nat.le_of_ble_eq_true rfl) trivial H (fun r3 M4 hr H => ?_)
    refine x_aload_n (zdm d_Zt_bounds_0 40 rfl) rfl (n := 0) rfl ?_
    refine x_getG (zdm d_Zt_bounds_0 41 rfl) f_Zt_35 rfl rfl (by decide) hsl rfl ?_
    refine x_iload (zdm d_Zt_bounds_0 42 rfl) (n := 5) rfl ?_
    refine x_iload_n (zdm d_Zt_bounds_0 43 rfl) rfl (n := 1) rfl ?_
    refine x_callVi (n := 2) (ci := 2) (zdm d_Zt_bounds_0 44 rfl) k_Zt_179 (As := [(0, l5), (0, l1)]) rfl rfl rfl ⟨_, _, rfl⟩ (Nat.le_of_ble_eq_true rfl) trivial H (fun r5 M6 hr H => ?_)
    obtain ⟨g7, H⟩ := H
    refine x_isub (zdm d_Zt_bounds_0 45 rfl) g7 ?_
    refine x_istore (zdm d_Zt_bounds_0 46 rfl) (zlt rfl) rfl ?_
    refine x_iload (zdm d_Zt_bounds_0 47 rfl) (n := 5) rfl ?_
    refine x_ifeq (tgt := 101) (zdm d_Zt_bounds_0 48 rfl) (by decide) (fun c => ?_) (fun c => ?_)
    · have H := H.1 c
      refine x_iload (zdm d_Zt_bounds_0 52 rfl) (n := 0) rfl ?_
      refine x_ifge (tgt := 110) (zdm d_Zt_bounds_0 53 rfl) (by decide) (fun c => ?_) (fun c => ?_)
      · have H := H.1 c
        obtain ⟨g8, H⟩ := H
        refine x_iinc (zdm d_Zt_bounds_0 56 rfl) (n := 7) rfl g8 (zlt rfl) rfl ?_
        refine x_goto (tgt := 59) (zdm d_Zt_bounds_0 57 rfl) (by decide) ?_
        exact zX.sub [2, 3, 4, 5, 6, 7, 0] rfl H
      · have H := H.2 c
        refine x_iload (zdm d_Zt_bounds_0 54 rfl) (n := 7) rfl ?_
        refine x_istore (zdm d_Zt_bounds_0 55 rfl) (zlt rfl) rfl ?_
        obtain ⟨g9, H⟩ := H
        refine x_iinc (zdm d_Zt_bounds_0 56 rfl) (n := 7) rfl g9 (zlt rfl) rfl ?_
        refine x_goto (tgt := 59) (zdm d_Zt_bounds_0 57 rfl) (by decide) ?_
        exact zX.sub [3, 4, 5, 6, 7, 1, 0] rfl H
    · have H := H.2 c
      refine x_iload (zdm d_Zt_bounds_0 49 rfl) (n := 0) rfl ?_
      refine x_ifle (tgt := 110) (zdm d_Zt_bounds_0 50 rfl) (by decide) (fun c => ?_) (fun c => ?_)
      · have H := H.1 c
        obtain ⟨g10, H⟩ := H
        refine x_iinc (zdm d_Zt_bounds_0 56 rfl) (n := 7) rfl g10 (zlt rfl) rfl ?_
        refine x_goto (tgt := 59) (zdm d_Zt_bounds_0 57 rfl) (by decide) ?_
        exact zX.sub [2, 3, 4, 5, 6, 7, 0] rfl H
      · have H := H.2 c
        refine x_goto (tgt := 106) (zdm d_Zt_bounds_0 51 rfl) (by decide) ?_
        refine x_iload (zdm d_Zt_bounds_0 54 rfl) (n := 7) rfl ?_
        refine x_istore (zdm d_Zt_bounds_0 55 rfl) (zlt rfl) rfl ?_
        obtain ⟨g11, H⟩ := H
        refine x_iinc (zdm d_Zt_bounds_0 56 rfl) (n := 7) rfl g11 (zlt rfl) rfl ?_
        refine x_goto (tgt := 59) (zdm d_Zt_bounds_0 57 rfl) (by decide) ?_
        exact zX.sub [3, 4, 5, 6, 7, 1, 0] rfl H
set_option maxRecDepth 20000 in
set_option maxHeartbeats 4000000 in
theorem E_Zt_bounds {G : zG} {h sl : Nat} (hsl : 1 ≤ sl) {l1 l2 l3 : Int} {M : zM} {Q : Int → zM → Prop} (H : zCt G h sl 0 0 y_Zt_isColumn [(2, 1), (0, l1)] M (fun r1 M2 => (r1 = 0 → Q (-1000000000000000) M2) ∧ (¬ r1 = 0 → zCt G h sl 0 0 y_Zt_isAhead [(2, 1), (0, l2), (0, 0), (0, 200)] M2 (fun r4 M5 => (r4 = 0 → Q (-1000000000000000) M5) ∧ (¬ r4 = 0 → (l3 < 0 → Q (-1000000000000000) M5) ∧ (¬ l3 < 0 → (l3 ≤ 3 → zCt G h sl 0 0 y_Course_reach [(2, 13), (0, l2)] M5 (fun r7 M8 => (2 ≤ l3 → zX G (y_Zt_bounds, h + 1, sl) (0, 0, 0, 0) 59 [(0, (2, 1)), (1, (0, l1)), (2, (0, l2)), (3, (0, l3)), (4, (0, 0)), (5, (0, 0)), (6, (0, 1))] [] M8 Q) ∧ (¬ 2 ≤ l3 → zX G (y_Zt_bounds, h + 1, sl) (0, 0, 0, 0) 59 [(0, (2, 1)), (1, (0, l1)), (2, (0, l2)), (3, (0, l3)), (4, (0, 1)), (5, (0, 0)), (6, (0, 1))] [] M8 Q))) ∧ (¬ l3 ≤ 3 → Q (-1000000000000000) M5))))))) : zCt G (h + 1) sl 0 0 y_Zt_bounds [(2, 1), (0, l1), (0, l2), (0, l3)] M Q := by
  refine zCt.of (by decide +kernel) (Nat.le_of_ble_eq_true rfl) ?_
  refine x_aload_n (zdm d_Zt_bounds_0 0 rfl) rfl (n := 0) rfl ?_
  refine x_iload_n (zdm d_Zt_bounds_0 1 rfl) rfl (n := 1) rfl ?_
  refine x_callVi (n := 1) (ci := 10) (zdm d_Zt_bounds_0 2 rfl) k_Zt_150 (As := [(0, l1)]) rfl rfl rfl ⟨_, _, rfl⟩ (Nat.le_of_ble_eq_true rfl) trivial H (fun r1 M2 hr H => ?_)
  have b3 : r1 = 0 ∨ r1 = 1 := hr
  refine x_ifeq (tgt := 29) (zdm d_Zt_bounds_0 3 rfl) (by decide) (fun c => ?_) (fun c => ?_)
  · have H := H.1 c
    refine x_ldc2 (zdm d_Zt_bounds_0 15 rfl) (n := (-1000000000000000)) (zLl rfl) w_Zt_174 ?_
    exact x_lreturn (zdm d_Zt_bounds_0 16 rfl) rfl H
  · have H := H.2 c
    refine x_aload_n (zdm d_Zt_bounds_0 4 rfl) rfl (n := 0) rfl ?_
    refine x_iload_n (zdm d_Zt_bounds_0 5 rfl) rfl (n := 2) rfl ?_
    refine x_iconst (zdm d_Zt_bounds_0 6 rfl) (zIl rfl) ?_
    refine x_sipush (zdm d_Zt_bounds_0 7 rfl) (by decide) ?_
    refine x_callVi (n := 3) (ci := 10) (zdm d_Zt_bounds_0 8 rfl) k_Zt_189 (As := [(0, l2), (0, 0), (0, 200)]) rfl rfl rfl ⟨_, _, rfl⟩ (Nat.le_of_ble_eq_true rfl) trivial H (fun r4 M5 hr H => ?_)
    have b6 : r4 = 0 ∨ r4 = 1 := hr
    refine x_ifeq (tgt := 29) (zdm d_Zt_bounds_0 9 rfl) (by decide) (fun c => ?_) (fun c => ?_)
    · have H := H.1 c
      refine x_ldc2 (zdm d_Zt_bounds_0 15 rfl) (n := (-1000000000000000)) (zLl rfl) w_Zt_174 ?_
      exact x_lreturn (zdm d_Zt_bounds_0 16 rfl) rfl H
    · have H := H.2 c
      refine x_iload_n (zdm d_Zt_bounds_0 10 rfl) rfl (n := 3) rfl ?_
      refine x_iflt (tgt := 29) (zdm d_Zt_bounds_0 11 rfl) (by decide) (fun c => ?_) (fun c => ?_)
      · have H := H.1 c
        refine x_ldc2 (zdm d_Zt_bounds_0 15 rfl) (n := (-1000000000000000)) (zLl rfl) w_Zt_174 ?_
        exact x_lreturn (zdm d_Zt_bounds_0 16 rfl) rfl H
      · have H := H.2 c
        refine x_iload_n (zdm d_Zt_bounds_0 12 rfl) rfl (n := 3) rfl ?_
        refine x_iconst (zdm d_Zt_bounds_0 13 rfl) (zIl rfl) ?_
        refine x_icmple (tgt := 33) (zdm d_Zt_bounds_0 14 rfl) (by decide) (fun c => ?_) (fun c => ?_)
        · have H := H.1 c
          refine x_aload_n (zdm d_Zt_bounds_0 17 rfl) rfl (n := 0) rfl ?_
          refine x_getG (zdm d_Zt_bounds_0 18 rfl) f_Zt_35 rfl rfl (by decide) hsl rfl ?_
          refine x_iload_n (zdm d_Zt_bounds_0 19 rfl) rfl (n := 2) rfl ?_
          refine x_callVv (n := 1) (ci := 2) (zdm d_Zt_bounds_0 20 rfl) k_Zt_193 (As := [(0, l2)]) rfl rfl rfl ⟨_, _, rfl⟩ (Nat.le_of_ble_eq_true rfl) rfl H (fun r7 M8 hr H => ?_)
          refine x_iload_n (zdm d_Zt_bounds_0 21 rfl) rfl (n := 3) rfl ?_
          refine x_iconst (zdm d_Zt_bounds_0 22 rfl) (zIl rfl) ?_
          refine x_icmpge (tgt := 50) (zdm d_Zt_bounds_0 23 rfl) (by decide) (fun c => ?_) (fun c => ?_)
          · have H := H.1 c
            refine x_iconst (zdm d_Zt_bounds_0 26 rfl) (zIl rfl) ?_
            refine x_istore (zdm d_Zt_bounds_0 27 rfl) (zlt rfl) rfl ?_
            refine x_iconst (zdm d_Zt_bounds_0 28 rfl) (zIl rfl) ?_
            refine x_istore (zdm d_Zt_bounds_0 29 rfl) (zlt rfl) rfl ?_
            refine x_iconst (zdm d_Zt_bounds_0 30 rfl) (zIl rfl) ?_
            refine x_istore (zdm d_Zt_bounds_0 31 rfl) (zlt rfl) rfl ?_
            exact zX.sub [3, 4, 5, 6, 2, 1, 0] rfl H
          · have H := H.2 c
            refine x_iconst (zdm d_Zt_bounds_0 24 rfl) (zIl rfl) ?_
            refine x_goto (tgt := 51) (zdm d_Zt_bounds_0 25 rfl) (by decide) ?_
            refine x_istore (zdm d_Zt_bounds_0 27 rfl) (zlt rfl) rfl ?_
            refine x_iconst (zdm d_Zt_bounds_0 28 rfl) (zIl rfl) ?_
            refine x_istore (zdm d_Zt_bounds_0 29 rfl) (zlt rfl) rfl ?_
            refine x_iconst (zdm d_Zt_bounds_0 30 rfl) (zIl rfl) ?_
            refine x_istore (zdm d_Zt_bounds_0 31 rfl) (zlt rfl) rfl ?_
            exact zX.sub [3, 4, 5, 6, 2, 1, 0] rfl H
        · have H := H.2 c
          refine x_ldc2 (zdm d_Zt_bounds_0 15 rfl) (n := (-1000000000000000)) (zLl rfl) w_Zt_174 ?_
          exact x_lreturn (zdm d_Zt_bounds_0 16 rfl) rfl H
set_option maxRecDepth 20000 in
set_option maxHeartbeats 4000000 in
theorem B_Zt_period_39 {G : zG} {h sl : Nat} (hsl : 1 ≤ sl) {u : Nat × Nat × Nat × Nat} {l1 l2 : Int} {M : zM} {Q : Int → zM → Prop} (H : (999 < l2 → Q (-1) M) ∧ (¬ 999 < l2 → (zK (M 1 11) = (8, 0)) ∧ ((0 ≤ l1 ∧ l1 < 8) ∧ (zCt G h sl 0 0 y_Tablet_move [(2, (M 1 11)), (2, 6), (0, l1), (0, (M ((M 1 11) + 7 + 2 * l1) 6))] M (fun r3 M4 => (¬ (M4 7 l1) = (M4 5 l1) → (zI (l2 + 1)) ∧ (zX G (y_Zt_period, h + 1, sl) u 39 [(0, (2, 1)), (1, (0, l1)), (2, (0, (l2 + 1)))] [] M4 Q)) ∧ (¬ (¬ (M4 7 l1) = (M4 5 l1)) → zCt G h sl 0 0 y_Line_goesUp [(2, 6), (0, l1)] M4 (fun r6 M7 => zCt G h sl 0 0 y_Line_goesUp [(2, 4), (0, l1)] M7 (fun r9 M10 => (¬ r6 = r9 → (zI (l2 + 1)) ∧ (zX G (y_Zt_period, h + 1, sl) u 39 [(0, (2, 1)), (1, (0, l1)), (2, (0, (l2 + 1)))] [] M10 Q)) ∧ (¬ (¬ r6 = r9) → Q l2 M10))))))))) : zX G (y_Zt_period, h + 1, sl) u 39 [(0, (2, 1)), (1, (0, l1)), (2, (0, l2))] [] M Q := by
  refine x_iload_n (zdm d_Zt_period_0 21 rfl) rfl (n := 2) rfl ?_
  refine x_sipush (zdm d_Zt_period_0 22 rfl) (by decide) ?_
  refine x_icmpgt (tgt := 118) (zdm d_Zt_period_0 23 rfl) (by decide) (fun c => ?_) (fun c => ?_)
  · have H := H.1 c
    refine x_iconst (zdm d_Zt_period_1 0 rfl) (zIl rfl) ?_
    exact x_iret (zdm d_Zt_period_1 1 rfl) rfl H
  · have H := H.2 c
    refine x_aload_n (zdm d_Zt_period_0 24 rfl) rfl (n := 0) rfl ?_
    refine x_getf (zdm d_Zt_period_0 25 rfl) f_Zt_82 rfl rfl ?_
    refine x_aload_n (zdm d_Zt_period_0 26 rfl) rfl (n := 0) rfl ?_
    refine x_getG (zdm d_Zt_period_0 27 rfl) f_Zt_23 rfl rfl (by decide) hsl rfl ?_
    refine x_iload_n (zdm d_Zt_period_0 28 rfl) rfl (n := 1) rfl ?_
    refine x_aload_n (zdm d_Zt_period_0 29 rfl) rfl (n := 0) rfl ?_
    refine x_getf (zdm d_Zt_period_0 30 rfl) f_Zt_82 rfl rfl ?_
    obtain ⟨g1, H⟩ := H
    refine x_getG (zdm d_Zt_period_0 31 rfl) f_Zt_153 g1 rfl (by decide) hsl (zs_8 g1).1.1 ?_
    refine x_iload_n (zdm d_Zt_period_0 32 rfl) rfl (n := 1) rfl ?_
    obtain ⟨g2, H⟩ := H
    refine x_aald5G (zdm d_Zt_period_0 33 rfl) (zs_8 g1).1.2 g2 hsl (zs_cols g1 g2.1 g2.2).1 ?_
    refine x_getf (zdm d_Zt_period_0 34 rfl) f_Zt_200 (zs_cols g1 g2.1 g2.2).2 rfl ?_
    refine x_callVv (n := 3) (ci := 8) (zdm d_Zt_period_0 35 rfl) k_Zt_203 (As := [(2, 6), (0, l1), (0, (M ((M 1 11) + 7 + 2 * l1) 6))]) rfl rfl g1 ⟨_, _, rfl⟩ (Nat.le_of_ble_eq_true rfl) rfl H (fun r3 M4 hr H => ?_)
    refine x_aload_n (zdm d_Zt_period_0 36 rfl) rfl (n := 0) rfl ?_
    refine x_getG (zdm d_Zt_period_0 37 rfl) f_Zt_23 rfl rfl (by decide) hsl rfl ?_
    refine x_getG (zdm d_Zt_period_0 38 rfl) f_Zt_176 rfl rfl (by decide) hsl rfl ?_
    refine x_iload_n (zdm d_Zt_period_0 39 rfl) rfl (n := 1) rfl ?_
    refine x_iald (zdm d_Zt_period_0 40 rfl) rfl g2 ?_
    refine x_aload_n (zdm d_Zt_period_0 41 rfl) rfl (n := 0) rfl ?_
    refine x_getG (zdm d_Zt_period_0 42 rfl) f_Zt_19 rfl rfl (by decide) hsl rfl ?_
    refine x_getG (zdm d_Zt_period_0 43 rfl) f_Zt_176 rfl rfl (by decide) hsl rfl ?_
    refine x_iload_n (zdm d_Zt_period_0 44 rfl) rfl (n := 1) rfl ?_
    refine x_iald (zdm d_Zt_period_0 45 rfl) rfl g2 ?_
    refine x_icmpne (tgt := 112) (zdm d_Zt_period_0 46 rfl) (by decide) (fun c => ?_) (fun c => ?_)
    · have H := H.1 c
      obtain ⟨g5, H⟩ := H
      refine x_iinc (zdm d_Zt_period_0 58 rfl) (n := 2) rfl g5 (zlt rfl) rfl ?_
      refine x_goto (tgt := 39) (zdm d_Zt_period_0 59 rfl) (by decide) ?_
      exact zX.sub [1, 2, 0] rfl H
    · have H := H.2 c
      refine x_aload_n (zdm d_Zt_period_0 47 rfl) rfl (n := 0) rfl ?_
      refine x_getG (zdm d_Zt_period_0 48 rfl) f_Zt_23 rfl rfl (by decide) hsl rfl ?_
      refine x_iload_n (zdm d_Zt_period_0 49 rfl) rfl (n := 1) rfl ?_
      refine x_callVi (n := 1) (ci := 4) (zdm d_Zt_period_0 50 rfl) k_Zt_165 (As := [(0, l1)]) rfl rfl rfl ⟨_, _, rfl⟩ (Nat.le_of_ble_eq_true rfl) trivial H (fun r6 M7 hr H => ?_)
      have b8 : r6 = 0 ∨ r6 = 1 := hr
      refine x_aload_n (zdm d_Zt_period_0 51 rfl) rfl (n := 0) rfl ?_
      refine x_getG (zdm d_Zt_period_0 52 rfl) f_Zt_19 rfl rfl (by decide) hsl rfl ?_
      refine x_iload_n (zdm d_Zt_period_0 53 rfl) rfl (n := 1) rfl ?_
      refine x_callVi (n := 1) (ci := 4) (zdm d_Zt_period_0 54 rfl) k_Zt_165 (As := [(0, l1)]) rfl rfl rfl ⟨_, _, rfl⟩ (Nat.le_of_ble_eq_true rfl) trivial H (fun r9 M10 hr H => ?_)
      have b11 : r9 = 0 ∨ r9 = 1 := hr
      refine x_icmpne (tgt := 112) (zdm d_Zt_period_0 55 rfl) (by decide) (fun c => ?_) (fun c => ?_)
      · have H := H.1 c
        obtain ⟨g12, H⟩ := H
        refine x_iinc (zdm d_Zt_period_0 58 rfl) (n := 2) rfl g12 (zlt rfl) rfl ?_
        refine x_goto (tgt := 39) (zdm d_Zt_period_0 59 rfl) (by decide) ?_
        exact zX.sub [1, 2, 0] rfl H
      · have H := H.2 c
        refine x_iload_n (zdm d_Zt_period_0 56 rfl) rfl (n := 2) rfl ?_
        exact x_iret (zdm d_Zt_period_0 57 rfl) rfl H
set_option maxRecDepth 20000 in
set_option maxHeartbeats 4000000 in
theorem E_Zt_period {G : zG} {h sl : Nat} (hsl : 1 ≤ sl) {l1 : Int} {M : zM} {Q : Int → zM → Prop} (H : zCt G h sl 0 0 y_Zt_isColumn [(2, 1), (0, l1)] M (fun r1 M2 => (r1 = 0 → Q (-1) M2) ∧ (¬ r1 = 0 → (zK (M2 1 11) = (8, 0)) ∧ ((0 ≤ l1 ∧ l1 < 8) ∧ (((M2 ((M2 1 11) + 7 + 2 * l1) 1) ≤ 1 → zCt G h sl 0 0 y_Line_copy [(2, 6), (2, 4)] M2 (fun r6 M7 => zX G (y_Zt_period, h + 1, sl) (0, 0, 0, 0) 39 [(0, (2, 1)), (1, (0, l1)), (2, (0, 1))] [] M7 Q)) ∧ (¬ (M2 ((M2 1 11) + 7 + 2 * l1) 1) ≤ 1 → Q (-1) M2)))))) : zCt G (h + 1) sl 0 0 y_Zt_period [(2, 1), (0, l1)] M Q := by
  refine zCt.of (by decide +kernel) (Nat.le_of_ble_eq_true rfl) ?_
  refine x_aload_n (zdm d_Zt_period_0 0 rfl) rfl (n := 0) rfl ?_
  refine x_iload_n (zdm d_Zt_period_0 1 rfl) rfl (n := 1) rfl ?_
  refine x_callVi (n := 1) (ci := 10) (zdm d_Zt_period_0 2 rfl) k_Zt_150 (As := [(0, l1)]) rfl rfl rfl ⟨_, _, rfl⟩ (Nat.le_of_ble_eq_true rfl) trivial H (fun r1 M2 hr H => ?_)
  have b3 : r1 = 0 ∨ r1 = 1 := hr
  refine x_ifeq (tgt := 24) (zdm d_Zt_period_0 3 rfl) (by decide) (fun c => ?_) (fun c => ?_)
  · have H := H.1 c
    refine x_iconst (zdm d_Zt_period_0 12 rfl) (zIl rfl) ?_
    exact x_iret (zdm d_Zt_period_0 13 rfl) rfl H
  · have H := H.2 c
    refine x_aload_n (zdm d_Zt_period_0 4 rfl) rfl (n := 0) rfl ?_
    refine x_getf (zdm d_Zt_period_0 5 rfl) f_Zt_82 rfl rfl ?_
    obtain ⟨g4, H⟩ := H
    refine x_getG (zdm d_Zt_period_0 6 rfl) f_Zt_153 g4 rfl (by decide) hsl (zs_8 g4).1.1 ?_
    refine x_iload_n (zdm d_Zt_period_0 7 rfl) rfl (n := 1) rfl ?_
    obtain ⟨g5, H⟩ := H
    refine x_aald5G (zdm d_Zt_period_0 8 rfl) (zs_8 g4).1.2 g5 hsl (zs_cols g4 g5.1 g5.2).1 ?_
    refine x_getf (zdm d_Zt_period_0 9 rfl) f_Zt_162 (zs_cols g4 g5.1 g5.2).2 rfl ?_
    refine x_iconst (zdm d_Zt_period_0 10 rfl) (zIl rfl) ?_
    refine x_icmple (tgt := 26) (zdm d_Zt_period_0 11 rfl) (by decide) (fun c => ?_) (fun c => ?_)
    · have H := H.1 c
      refine x_aload_n (zdm d_Zt_period_0 14 rfl) rfl (n := 0) rfl ?_
      refine x_getG (zdm d_Zt_period_0 15 rfl) f_Zt_23 rfl rfl (by decide) hsl rfl ?_
      refine x_aload_n (zdm d_Zt_period_0 16 rfl) rfl (n := 0) rfl ?_
      refine x_getG (zdm d_Zt_period_0 17 rfl) f_Zt_19 rfl rfl (by decide) hsl rfl ?_
      refine x_callVv (n := 1) (ci := 4) (zdm d_Zt_period_0 18 rfl) k_Zt_196 (As := [(2, 4)]) rfl rfl rfl ⟨_, _, rfl⟩ (Nat.le_of_ble_eq_true rfl) rfl H (fun r6 M7 hr H => ?_)
      refine x_iconst (zdm d_Zt_period_0 19 rfl) (zIl rfl) ?_
      refine x_istore_n (zdm d_Zt_period_0 20 rfl) rfl (zlt rfl) rfl ?_
      exact zX.sub [1, 2, 0] rfl H
    · have H := H.2 c
      refine x_iconst (zdm d_Zt_period_0 12 rfl) (zIl rfl) ?_
      exact x_iret (zdm d_Zt_period_0 13 rfl) rfl H
set_option maxRecDepth 20000 in
set_option maxHeartbeats 4000000 in
theorem B_Zt_when_26 {G : zG} {h sl : Nat} (hsl : 1 ≤ sl) {u : Nat × Nat × Nat × Nat} {l1 l2 l3 l4 : Int} {M : zM} {Q : Int → zM → Prop} (H : (l3 < l4 → Q (-1) M) ∧ (¬ l3 < l4 → zCt G h sl 0 0 y_Course_told [(2, 13), (0, l4), (0, l1)] M (fun r1 M2 => (¬ r1 = l2 → (zI (l4 + 1)) ∧ (zX G (y_Zt_when, h + 1, sl) u 26 [(0, (2, 1)), (1, (0, l1)), (2, (0, l2)), (3, (0, l3)), (4, (0, (l4 + 1)))] [] M2 Q)) ∧ (¬ (¬ r1 = l2) → Q l4 M2)))) : zX G (y_Zt_when, h + 1, sl) u 26 [(0, (2, 1)), (1, (0, l1)), (2, (0, l2)), (3, (0, l3)), (4, (0, l4))] [] M Q := by
  refine x_iload (zdm d_Zt_when_0 15 rfl) (n := 4) rfl ?_
  refine x_iload_n (zdm d_Zt_when_0 16 rfl) rfl (n := 3) rfl ?_
  refine x_icmpgt (tgt := 55) (zdm d_Zt_when_0 17 rfl) (by decide) (fun c => ?_) (fun c => ?_)
  · have H := H.1 c
    refine x_iconst (zdm d_Zt_when_0 29 rfl) (zIl rfl) ?_
    exact x_iret (zdm d_Zt_when_0 30 rfl) rfl H
  · have H := H.2 c
    refine x_aload_n (zdm d_Zt_when_0 18 rfl) rfl (n := 0) rfl ?_
    refine x_getG (zdm d_Zt_when_0 19 rfl) f_Zt_35 rfl rfl (by decide) hsl rfl ?_
    refine x_iload (zdm d_Zt_when_0 20 rfl) (n := 4) rfl ?_
    refine x_iload_n (zdm d_Zt_when_0 21 rfl) rfl (n := 1) rfl ?_
    refine x_callVi (n := 2) (ci := 2) (zdm d_Zt_when_0 22 rfl) k_Zt_179 (As := [(0, l4), (0, l1)]) rfl rfl rfl ⟨_, _, rfl⟩ (Nat.le_of_ble_eq_true rfl) trivial H (fun r1 M2 hr H => ?_)
    refine x_iload_n (zdm d_Zt_when_0 23 rfl) rfl (n := 2) rfl ?_
    refine x_icmpne (tgt := 49) (zdm d_Zt_when_0 24 rfl) (by decide) (fun c => ?_) (fun c => ?_)
    · have H := H.1 c
      obtain ⟨g3, H⟩ := H
      refine x_iinc (zdm d_Zt_when_0 27 rfl) (n := 4) rfl g3 (zlt rfl) rfl ?_
      refine x_goto (tgt := 26) (zdm d_Zt_when_0 28 rfl) (by decide) ?_
      exact zX.sub [1, 2, 3, 4, 0] rfl H
    · have H := H.2 c
      refine x_iload (zdm d_Zt_when_0 25 rfl) (n := 4) rfl ?_
      exact x_iret (zdm d_Zt_when_0 26 rfl) rfl H
set_option maxRecDepth 20000 in
set_option maxHeartbeats 4000000 in
theorem E_Zt_when {G : zG} {h sl : Nat} (hsl : 1 ≤ sl) {l1 l2 : Int} {M : zM} {Q : Int → zM → Prop} (H : zCt G h sl 0 0 y_Zt_isColumn [(2, 1), (0, l1)] M (fun r1 M2 => (¬ r1 = 0 → zCt G h sl 0 0 y_Zt_mostAhead [(2, 1)] M2 (fun r4 M5 => zCt G h sl 0 0 y_Course_reach [(2, 13), (0, r4)] M5 (fun r6 M7 => zX G (y_Zt_when, h + 1, sl) (0, 0, 0, 0) 26 [(0, (2, 1)), (1, (0, l1)), (2, (0, l2)), (3, (0, r4)), (4, (0, 0))] [] M7 Q))) ∧ (¬ (¬ r1 = 0) → Q (-1) M2))) : zCt G (h + 1) sl 0 0 y_Zt_when [(2, 1), (0, l1), (0, l2)] M Q := by
  refine zCt.of (by decide +kernel) (Nat.le_of_ble_eq_true rfl) ?_
  refine x_aload_n (zdm d_Zt_when_0 0 rfl) rfl (n := 0) rfl ?_
  refine x_iload_n (zdm d_Zt_when_0 1 rfl) rfl (n := 1) rfl ?_
  refine x_callVi (n := 1) (ci := 10) (zdm d_Zt_when_0 2 rfl) k_Zt_150 (As := [(0, l1)]) rfl rfl rfl ⟨_, _, rfl⟩ (Nat.le_of_ble_eq_true rfl) trivial H (fun r1 M2 hr H => ?_)
  have b3 : r1 = 0 ∨ r1 = 1 := hr
  refine x_ifne (tgt := 10) (zdm d_Zt_when_0 3 rfl) (by decide) (fun c => ?_) (fun c => ?_)
  · have H := H.1 c
    refine x_aload_n (zdm d_Zt_when_0 6 rfl) rfl (n := 0) rfl ?_
    refine x_callVi (n := 0) (ci := 10) (zdm d_Zt_when_0 7 rfl) k_Zt_207 (As := []) rfl rfl rfl ⟨_, _, rfl⟩ (Nat.le_of_ble_eq_true rfl) trivial H (fun r4 M5 hr H => ?_)
    refine x_istore_n (zdm d_Zt_when_0 8 rfl) rfl (zlt rfl) rfl ?_
    refine x_aload_n (zdm d_Zt_when_0 9 rfl) rfl (n := 1) rfl ?_
    refine x_getG (zdm d_Zt_when_0 10 rfl) f_Zt_35 rfl rfl (by decide) hsl rfl ?_
    refine x_iload_n (zdm d_Zt_when_0 11 rfl) rfl (n := 0) rfl ?_
    refine x_callVv (n := 1) (ci := 2) (zdm d_Zt_when_0 12 rfl) k_Zt_193 (As := [(0, r4)]) rfl rfl rfl ⟨_, _, rfl⟩ (Nat.le_of_ble_eq_true rfl) rfl H (fun r6 M7 hr H => ?_)
    refine x_iconst (zdm d_Zt_when_0 13 rfl) (zIl rfl) ?_
    refine x_istore (zdm d_Zt_when_0 14 rfl) (zlt rfl) rfl ?_
    exact zX.sub [2, 3, 4, 1, 0] rfl H
  · have H := H.2 c
    refine x_iconst (zdm d_Zt_when_0 4 rfl) (zIl rfl) ?_
    exact x_iret (zdm d_Zt_when_0 5 rfl) rfl H
set_option maxRecDepth 20000 in
set_option maxHeartbeats 4000000 in
theorem B_Zt_meet_39 {G : zG} {h sl : Nat} (hsl : 1 ≤ sl) {u : Nat × Nat × Nat × Nat} {l1 l2 l3 l4 : Int} {M : zM} {Q : Int → zM → Prop} (H : (l3 < l4 → Q (-1) M) ∧ (¬ l3 < l4 → zCt G h sl 0 0 y_Course_told [(2, 13), (0, l4), (0, l1)] M (fun r1 M2 => zCt G h sl 0 0 y_Course_told [(2, 13), (0, l4), (0, l2)] M2 (fun r3 M4 => (¬ r1 = r3 → (zI (l4 + 1)) ∧ (zX G (y_Zt_meet, h + 1, sl) u 39 [(0, (2, 1)), (1, (0, l1)), (2, (0, l2)), (3, (0, l3)), (4, (0, (l4 + 1)))] [] M4 Q)) ∧ (¬ (¬ r1 = r3) → Q l4 M4))))) : zX G (y_Zt_meet, h + 1, sl) u 39 [(0, (2, 1)), (1, (0, l1)), (2, (0, l2)), (3, (0, l3)), (4, (0, l4))] [] M Q := by
  refine x_iload (zdm d_Zt_meet_0 22 rfl) (n := 4) rfl ?_
  refine x_iload_n (zdm d_Zt_meet_0 23 rfl) rfl (n := 3) rfl ?_
  refine x_icmpgt (tgt := 77) (zdm d_Zt_meet_0 24 rfl) (by decide) (fun c => ?_) (fun c => ?_)
  · have H := H.1 c
    refine x_iconst (zdm d_Zt_meet_0 40 rfl) (zIl rfl) ?_
    exact x_iret (zdm d_Zt_meet_0 41 rfl) rfl H
  · have H := H.2 c
    refine x_aload_n (zdm d_Zt_meet_0 25 rfl) rfl (n := 0) rfl ?_
    refine x_getG (zdm d_Zt_meet_0 26 rfl) f_Zt_35 rfl rfl (by decide) hsl rfl ?_
    refine x_iload (zdm d_Zt_meet_0 27 rfl) (n := 4) rfl ?_
    refine x_iload_n (zdm d_Zt_meet_0 28 rfl) rfl (n := 1) rfl ?_
    refine x_callVi (n := 2) (ci := 2) (zdm d_Zt_meet_0 29 rfl) k_Zt_179 (As := [(0, l4), (0, l1)]) rfl rfl rfl ⟨_, _, rfl⟩ (Nat.le_of_ble_eq_true rfl) trivial H (fun r1 M2 hr H => ?_)
    refine x_aload_n (zdm d_Zt_meet_0 30 rfl) rfl (n := 0) rfl ?_
    refine x_getG (zdm d_Zt_meet_0 31 rfl) f_Zt_35 rfl rfl (by decide) hsl rfl ?_
    refine x_iload (zdm d_Zt_meet_0 32 rfl) (n := 4) rfl ?_
    refine x_iload_n (zdm d_Zt_meet_0 33 rfl) rfl (n := 2) rfl ?_
    refine x_callVi (n := 2) (ci := 2) (zdm d_Zt_meet_0 34 rfl) k_Zt_179 (As := [(0, l4), (0, l2)]) rfl rfl rfl ⟨_, _, rfl⟩ (Nat.le_of_ble_eq_true rfl) trivial H (fun r3 M4 hr H => ?_)
    refine x_icmpne (tgt := 71) (zdm d_Zt_meet_0 35 rfl) (by decide) (fun c => ?_) (fun c => ?_)
    · have H := H.1 c
      obtain ⟨g5, H⟩ := H
      refine x_iinc (zdm d_Zt_meet_0 38 rfl) (n := 4) rfl g5 (zlt rfl) rfl ?_
      refine x_goto (tgt := 39) (zdm d_Zt_meet_0 39 rfl) (by decide) ?_
      exact zX.sub [1, 2, 3, 4, 0] rfl H
    · have H := H.2 c
      refine x_iload (zdm d_Zt_meet_0 36 rfl) (n := 4) rfl ?_
      exact x_iret (zdm d_Zt_meet_0 37 rfl) rfl H
set_option maxRecDepth 20000 in
set_option maxHeartbeats 4000000 in
theorem E_Zt_meet {G : zG} {h sl : Nat} (hsl : 1 ≤ sl) {l1 l2 : Int} {M : zM} {Q : Int → zM → Prop} (H : zCt G h sl 0 0 y_Zt_isColumn [(2, 1), (0, l1)] M (fun r1 M2 => (r1 = 0 → Q (-1) M2) ∧ (¬ r1 = 0 → zCt G h sl 0 0 y_Zt_isColumn [(2, 1), (0, l2)] M2 (fun r4 M5 => (r4 = 0 → Q (-1) M5) ∧ (¬ r4 = 0 → (¬ l1 = l2 → zCt G h sl 0 0 y_Zt_mostAhead [(2, 1)] M5 (fun r7 M8 => zCt G h sl 0 0 y_Course_reach [(2, 13), (0, r7)] M8 (fun r9 M10 => zX G (y_Zt_meet, h + 1, sl) (0, 0, 0, 0) 39 [(0, (2, 1)), (1, (0, l1)), (2, (0, l2)), (3, (0, r7)), (4, (0, 0))] [] M10 Q))) ∧ (¬ (¬ l1 = l2) → Q (-1) M5)))))) : zCt G (h + 1) sl 0 0 y_Zt_meet [(2, 1), (0, l1), (0, l2)] M Q := by
  refine zCt.of (by decide +kernel) (Nat.le_of_ble_eq_true rfl) ?_
  refine x_aload_n (zdm d_Zt_meet_0 0 rfl) rfl (n := 0) rfl ?_
  refine x_iload_n (zdm d_Zt_meet_0 1 rfl) rfl (n := 1) rfl ?_
  refine x_callVi (n := 1) (ci := 10) (zdm d_Zt_meet_0 2 rfl) k_Zt_150 (As := [(0, l1)]) rfl rfl rfl ⟨_, _, rfl⟩ (Nat.le_of_ble_eq_true rfl) trivial H (fun r1 M2 hr H => ?_)
  have b3 : r1 = 0 ∨ r1 = 1 := hr
  refine x_ifeq (tgt := 21) (zdm d_Zt_meet_0 3 rfl) (by decide) (fun c => ?_) (fun c => ?_)
  · have H := H.1 c
    refine x_iconst (zdm d_Zt_meet_0 11 rfl) (zIl rfl) ?_
    exact x_iret (zdm d_Zt_meet_0 12 rfl) rfl H
  · have H := H.2 c
    refine x_aload_n (zdm d_Zt_meet_0 4 rfl) rfl (n := 0) rfl ?_
    refine x_iload_n (zdm d_Zt_meet_0 5 rfl) rfl (n := 2) rfl ?_
    refine x_callVi (n := 1) (ci := 10) (zdm d_Zt_meet_0 6 rfl) k_Zt_150 (As := [(0, l2)]) rfl rfl rfl ⟨_, _, rfl⟩ (Nat.le_of_ble_eq_true rfl) trivial H (fun r4 M5 hr H => ?_)
    have b6 : r4 = 0 ∨ r4 = 1 := hr
    refine x_ifeq (tgt := 21) (zdm d_Zt_meet_0 7 rfl) (by decide) (fun c => ?_) (fun c => ?_)
    · have H := H.1 c
      refine x_iconst (zdm d_Zt_meet_0 11 rfl) (zIl rfl) ?_
      exact x_iret (zdm d_Zt_meet_0 12 rfl) rfl H
    · have H := H.2 c
      refine x_iload_n (zdm d_Zt_meet_0 8 rfl) rfl (n := 1) rfl ?_
      refine x_iload_n (zdm d_Zt_meet_0 9 rfl) rfl (n := 2) rfl ?_
      refine x_icmpne (tgt := 23) (zdm d_Zt_meet_0 10 rfl) (by decide) (fun c => ?_) (fun c => ?_)
      · have H := H.1 c
        refine x_aload_n (zdm d_Zt_meet_0 13 rfl) rfl (n := 0) rfl ?_
        refine x_callVi (n := 0) (ci := 10) (zdm d_Zt_meet_0 14 rfl) k_Zt_207 (As := []) rfl rfl rfl ⟨_, _, rfl⟩ (Nat.le_of_ble_eq_true rfl) trivial H (fun r7 M8 hr H => ?_)
        refine x_istore_n (zdm d_Zt_meet_0 15 rfl) rfl (zlt rfl) rfl ?_
        refine x_aload_n (zdm d_Zt_meet_0 16 rfl) rfl (n := 1) rfl ?_
        refine x_getG (zdm d_Zt_meet_0 17 rfl) f_Zt_35 rfl rfl (by decide) hsl rfl ?_
        refine x_iload_n (zdm d_Zt_meet_0 18 rfl) rfl (n := 0) rfl ?_
        refine x_callVv (n := 1) (ci := 2) (zdm d_Zt_meet_0 19 rfl) k_Zt_193 (As := [(0, r7)]) rfl rfl rfl ⟨_, _, rfl⟩ (Nat.le_of_ble_eq_true rfl) rfl H (fun r9 M10 hr H => ?_)
        refine x_iconst (zdm d_Zt_meet_0 20 rfl) (zIl rfl) ?_
        refine x_istore (zdm d_Zt_meet_0 21 rfl) (zlt rfl) rfl ?_
        exact zX.sub [2, 3, 4, 1, 0] rfl H
      · have H := H.2 c
        refine x_iconst (zdm d_Zt_meet_0 11 rfl) (zIl rfl) ?_
        exact x_iret (zdm d_Zt_meet_0 12 rfl) rfl H
set_option maxRecDepth 20000 in
set_option maxHeartbeats 4000000 in
theorem B_Zt_marks_45 {G : zG} {h sl : Nat} (hsl : 1 ≤ sl) {u : Nat × Nat × Nat × Nat} {l1 l2 l3 l4 l5 l6 l7 : Int} {M : zM} {Q : Int → zM → Prop} (H : (l1 < l7 → (¬ l2 = 0 → (¬ l2 = 1 → Q l6 M) ∧ (¬ (¬ l2 = 1) → Q l4 M)) ∧ (¬ (¬ l2 = 0) → Q l3 M)) ∧ (¬ l1 < l7 → (zI ((M 4 1) + l7)) ∧ (zCt G h sl 0 0 y_Course_show [(2, 13), (0, l7), (0, ((M 4 1) + l7)), (2, 6)] M (fun r2 M3 => (zK (M3 1 11) = (8, 0)) ∧ (zCt G h sl 0 0 y_Tablet_isMarked [(2, (M3 1 11)), (2, 6)] M3 (fun r4 M5 => (r4 = 0 → (zI (l5 + 1)) ∧ (zCt G h sl 0 0 y_Jm_max_III [(0, l6), (0, (l5 + 1))] M5 (fun r9 M10 => (zI (l7 + 1)) ∧ (zX G (y_Zt_marks, h + 1, sl) u 45 [(0, (2, 1)), (1, (0, l1)), (2, (0, l2)), (3, (0, l3)), (4, (0, l4)), (5, (0, (l5 + 1))), (6, (0, r9)), (7, (0, (l7 + 1)))] [] M10 Q)))) ∧ (¬ r4 = 0 → (¬ l3 = 0 → (zI (l3 + 1)) ∧ ((zI (l7 + 1)) ∧ (zX G (y_Zt_marks, h + 1, sl) u 45 [(0, (2, 1)), (1, (0, l1)), (2, (0, l2)), (3, (0, (l3 + 1))), (4, (0, l4)), (5, (0, 0)), (6, (0, l6)), (7, (0, (l7 + 1)))] [] M5 Q))) ∧ (¬ (¬ l3 = 0) → (zI (l3 + 1)) ∧ ((zI (l7 + 1)) ∧ (zX G (y_Zt_marks, h + 1, sl) u 45 [(0, (2, 1)), (1, (0, l1)), (2, (0, l2)), (3, (0, (l3 + 1))), (4, (0, l7)), (5, (0, 0)), (6, (0, l6)), (7, (0, (l7 + 1)))] [] M5 Q)))))))))) : zX G (y_Zt_marks, h + 1, sl) u 45 [(0, (2, 1)), (1, (0, l1)), (2, (0, l2)), (3, (0, l3)), (4, (0, l4)), (5, (0, l5)), (6, (0, l6)), (7, (0, l7))] [] M Q := by
  refine x_iload (zdm d_Zt_marks_0 27 rfl) (n := 7) rfl ?_
  refine x_iload_n (zdm d_Zt_marks_0 28 rfl) rfl (n := 1) rfl ?_
  refine x_icmpgt (tgt := 128) (zdm d_Zt_marks_0 29 rfl) (by decide) (fun c => ?_) (fun c => ?_)
  · have H := H.1 c
    refine x_iload_n (zdm d_Zt_marks_1 4 rfl) rfl (n := 2) rfl ?_
    refine x_ifne (tgt := 134) (zdm d_Zt_marks_1 5 rfl) (by decide) (fun c => ?_) (fun c => ?_)
    · have H := H.1 c
      refine x_iload_n (zdm d_Zt_marks_1 8 rfl) rfl (n := 2) rfl ?_
      refine x_iconst (zdm d_Zt_marks_1 9 rfl) (zIl rfl) ?_
      refine x_icmpne (tgt := 144) (zdm d_Zt_marks_1 10 rfl) (by decide) (fun c => ?_) (fun c => ?_)
      · have H := H.1 c
        refine x_iload (zdm d_Zt_marks_1 13 rfl) (n := 6) rfl ?_
        exact x_iret (zdm d_Zt_marks_1 14 rfl) rfl H
      · have H := H.2 c
        refine x_iload (zdm d_Zt_marks_1 11 rfl) (n := 4) rfl ?_
        refine x_goto (tgt := 146) (zdm d_Zt_marks_1 12 rfl) (by decide) ?_
        exact x_iret (zdm d_Zt_marks_1 14 rfl) rfl H
    · have H := H.2 c
      refine x_iload_n (zdm d_Zt_marks_1 6 rfl) rfl (n := 3) rfl ?_
      exact x_iret (zdm d_Zt_marks_1 7 rfl) rfl H
  · have H := H.2 c
    refine x_aload_n (zdm d_Zt_marks_0 30 rfl) rfl (n := 0) rfl ?_
    refine x_getG (zdm d_Zt_marks_0 31 rfl) f_Zt_35 rfl rfl (by decide) hsl rfl ?_
    refine x_iload (zdm d_Zt_marks_0 32 rfl) (n := 7) rfl ?_
    refine x_aload_n (zdm d_Zt_marks_0 33 rfl) rfl (n := 0) rfl ?_
    refine x_getG (zdm d_Zt_marks_0 34 rfl) f_Zt_19 rfl rfl (by decide) hsl rfl ?_
    refine x_getf (zdm d_Zt_marks_0 35 rfl) f_Zt_130 rfl rfl ?_
    refine x_iload (zdm d_Zt_marks_0 36 rfl) (n := 7) rfl ?_
    obtain ⟨g1, H⟩ := H
    refine x_iadd (zdm d_Zt_marks_0 37 rfl) g1 ?_
    refine x_aload_n (zdm d_Zt_marks_0 38 rfl) rfl (n := 0) rfl ?_
    refine x_getG (zdm d_Zt_marks_0 39 rfl) f_Zt_23 rfl rfl (by decide) hsl rfl ?_
    refine x_callVv (n := 3) (ci := 2) (zdm d_Zt_marks_0 40 rfl) k_Zt_210 (As := [(0, l7), (0, ((M 4 1) + l7)), (2, 6)]) rfl rfl rfl ⟨_, _, rfl⟩ (Nat.le_of_ble_eq_true rfl) rfl H (fun r2 M3 hr H => ?_)
    refine x_aload_n (zdm d_Zt_marks_0 41 rfl) rfl (n := 0) rfl ?_
    refine x_getf (zdm d_Zt_marks_0 42 rfl) f_Zt_82 rfl rfl ?_
    refine x_aload_n (zdm d_Zt_marks_0 43 rfl) rfl (n := 0) rfl ?_
    refine x_getG (zdm d_Zt_marks_0 44 rfl) f_Zt_23 rfl rfl (by decide) hsl rfl ?_
    obtain ⟨g6, H⟩ := H
    refine x_callVi (n := 1) (ci := 8) (zdm d_Zt_marks_0 45 rfl) k_Zt_133 (As := [(2, 6)]) rfl rfl g6 ⟨_, _, rfl⟩ (Nat.le_of_ble_eq_true rfl) trivial H (fun r4 M5 hr H => ?_)
    have b7 : r4 = 0 ∨ r4 = 1 := hr
    refine x_ifeq (tgt := 110) (zdm d_Zt_marks_0 46 rfl) (by decide) (fun c => ?_) (fun c => ?_)
    · have H := H.1 c
      obtain ⟨g8, H⟩ := H
      refine x_iinc (zdm d_Zt_marks_0 57 rfl) (n := 5) rfl g8 (zlt rfl) rfl ?_
      refine x_iload (zdm d_Zt_marks_0 58 rfl) (n := 6) rfl ?_
      refine x_iload (zdm d_Zt_marks_0 59 rfl) (n := 0) rfl ?_
      refine x_callSi (n := 2) (zdm d_Zt_marks_1 0 rfl) k_Zt_214 (As := [(0, l6), (0, (l5 + 1))]) rfl rfl (Nat.le_of_ble_eq_true rfl) trivial H (fun r9 M10 hr H => ?_)
      refine x_istore (zdm d_Zt_marks_1 1 rfl) (zlt rfl) rfl ?_
      obtain ⟨g11, H⟩ := H
      refine x_iinc (zdm d_Zt_marks_1 2 rfl) (n := 7) rfl g11 (zlt rfl) rfl ?_
      refine x_goto (tgt := 45) (zdm d_Zt_marks_1 3 rfl) (by decide) ?_
      exact zX.sub [3, 4, 5, 6, 7, 2, 1, 0] rfl H
    · have H := H.2 c
      refine x_iload_n (zdm d_Zt_marks_0 47 rfl) rfl (n := 3) rfl ?_
      refine x_ifne (tgt := 97) (zdm d_Zt_marks_0 48 rfl) (by decide) (fun c => ?_) (fun c => ?_)
      · have H := H.1 c
        refine x_iload (zdm d_Zt_marks_0 51 rfl) (n := 4) rfl ?_
        refine x_istore (zdm d_Zt_marks_0 52 rfl) (zlt rfl) rfl ?_
        obtain ⟨g12, H⟩ := H
        refine x_iinc (zdm d_Zt_marks_0 53 rfl) (n := 4) rfl g12 (zlt rfl) rfl ?_
        refine x_iconst (zdm d_Zt_marks_0 54 rfl) (zIl rfl) ?_
        refine x_istore (zdm d_Zt_marks_0 55 rfl) (zlt rfl) rfl ?_
        refine x_goto (tgt := 122) (zdm d_Zt_marks_0 56 rfl) (by decide) ?_
        obtain ⟨g13, H⟩ := H
        refine x_iinc (zdm d_Zt_marks_1 2 rfl) (n := 7) rfl g13 (zlt rfl) rfl ?_
        refine x_goto (tgt := 45) (zdm d_Zt_marks_1 3 rfl) (by decide) ?_
        exact zX.sub [4, 5, 6, 2, 3, 1, 7, 0] rfl H
      · have H := H.2 c
        refine x_iload (zdm d_Zt_marks_0 49 rfl) (n := 7) rfl ?_
        refine x_goto (tgt := 99) (zdm d_Zt_marks_0 50 rfl) (by decide) ?_
        refine x_istore (zdm d_Zt_marks_0 52 rfl) (zlt rfl) rfl ?_
        obtain ⟨g14, H⟩ := H
        refine x_iinc (zdm d_Zt_marks_0 53 rfl) (n := 4) rfl g14 (zlt rfl) rfl ?_
        refine x_iconst (zdm d_Zt_marks_0 54 rfl) (zIl rfl) ?_
        refine x_istore (zdm d_Zt_marks_0 55 rfl) (zlt rfl) rfl ?_
        refine x_goto (tgt := 122) (zdm d_Zt_marks_0 56 rfl) (by decide) ?_
        obtain ⟨g15, H⟩ := H
        refine x_iinc (zdm d_Zt_marks_1 2 rfl) (n := 7) rfl g15 (zlt rfl) rfl ?_
        refine x_goto (tgt := 45) (zdm d_Zt_marks_1 3 rfl) (by decide) ?_
        exact zX.sub [4, 5, 6, 2, 3, 1, 7, 0] rfl H
set_option maxRecDepth 20000 in
set_option maxHeartbeats 4000000 in
theorem E_Zt_marks {G : zG} {h sl : Nat} (hsl : 1 ≤ sl) {l1 l2 : Int} {M : zM} {Q : Int → zM → Prop} (H : zCt G h sl 0 0 y_Zt_isAhead [(2, 1), (0, l1), (0, 1), (0, 200)] M (fun r1 M2 => (r1 = 0 → Q (-1) M2) ∧ (¬ r1 = 0 → (l2 < 0 → Q (-1) M2) ∧ (¬ l2 < 0 → (l2 ≤ 2 → zCt G h sl 0 0 y_Course_reach [(2, 13), (0, l1)] M2 (fun r4 M5 => zX G (y_Zt_marks, h + 1, sl) (0, 0, 0, 0) 45 [(0, (2, 1)), (1, (0, l1)), (2, (0, l2)), (3, (0, 0)), (4, (0, 0)), (5, (0, 0)), (6, (0, 0)), (7, (0, 1))] [] M5 Q)) ∧ (¬ l2 ≤ 2 → Q (-1) M2))))) : zCt G (h + 1) sl 0 0 y_Zt_marks [(2, 1), (0, l1), (0, l2)] M Q := by
  refine zCt.of (by decide +kernel) (Nat.le_of_ble_eq_true rfl) ?_
  refine x_aload_n (zdm d_Zt_marks_0 0 rfl) rfl (n := 0) rfl ?_
  refine x_iload_n (zdm d_Zt_marks_0 1 rfl) rfl (n := 1) rfl ?_
  refine x_iconst (zdm d_Zt_marks_0 2 rfl) (zIl rfl) ?_
  refine x_sipush (zdm d_Zt_marks_0 3 rfl) (by decide) ?_
  refine x_callVi (n := 3) (ci := 10) (zdm d_Zt_marks_0 4 rfl) k_Zt_189 (As := [(0, l1), (0, 1), (0, 200)]) rfl rfl rfl ⟨_, _, rfl⟩ (Nat.le_of_ble_eq_true rfl) trivial H (fun r1 M2 hr H => ?_)
  have b3 : r1 = 0 ∨ r1 = 1 := hr
  refine x_ifeq (tgt := 21) (zdm d_Zt_marks_0 5 rfl) (by decide) (fun c => ?_) (fun c => ?_)
  · have H := H.1 c
    refine x_iconst (zdm d_Zt_marks_0 11 rfl) (zIl rfl) ?_
    exact x_iret (zdm d_Zt_marks_0 12 rfl) rfl H
  · have H := H.2 c
    refine x_iload_n (zdm d_Zt_marks_0 6 rfl) rfl (n := 2) rfl ?_
    refine x_iflt (tgt := 21) (zdm d_Zt_marks_0 7 rfl) (by decide) (fun c => ?_) (fun c => ?_)
    · have H := H.1 c
      refine x_iconst (zdm d_Zt_marks_0 11 rfl) (zIl rfl) ?_
      exact x_iret (zdm d_Zt_marks_0 12 rfl) rfl H
    · have H := H.2 c
      refine x_iload_n (zdm d_Zt_marks_0 8 rfl) rfl (n := 2) rfl ?_
      refine x_iconst (zdm d_Zt_marks_0 9 rfl) (zIl rfl) ?_
      refine x_icmple (tgt := 23) (zdm d_Zt_marks_0 10 rfl) (by decide) (fun c => ?_) (fun c => ?_)
      · have H := H.1 c
        refine x_aload_n (zdm d_Zt_marks_0 13 rfl) rfl (n := 0) rfl ?_
        refine x_getG (zdm d_Zt_marks_0 14 rfl) f_Zt_35 rfl rfl (by decide) hsl rfl ?_
        refine x_iload_n (zdm d_Zt_marks_0 15 rfl) rfl (n := 1) rfl ?_
        refine x_callVv (n := 1) (ci := 2) (zdm d_Zt_marks_0 16 rfl) k_Zt_193 (As := [(0, l1)]) rfl rfl rfl ⟨_, _, rfl⟩ (Nat.le_of_ble_eq_true rfl) rfl H (fun r4 M5 hr H => ?_)
        refine x_iconst (zdm d_Zt_marks_0 17 rfl) (zIl rfl) ?_
        refine x_istore_n (zdm d_Zt_marks_0 18 rfl) rfl (zlt rfl) rfl ?_
        refine x_iconst (zdm d_Zt_marks_0 19 rfl) (zIl rfl) ?_
        refine x_istore (zdm d_Zt_marks_0 20 rfl) (zlt rfl) rfl ?_
        refine x_iconst (zdm d_Zt_marks_0 21 rfl) (zIl rfl) ?_
        refine x_istore (zdm d_Zt_marks_0 22 rfl) (zlt rfl) rfl ?_
        refine x_iconst (zdm d_Zt_marks_0 23 rfl) (zIl rfl) ?_
        refine x_istore (zdm d_Zt_marks_0 24 rfl) (zlt rfl) rfl ?_
        refine x_iconst (zdm d_Zt_marks_0 25 rfl) (zIl rfl) ?_
        refine x_istore (zdm d_Zt_marks_0 26 rfl) (zlt rfl) rfl ?_
        exact zX.sub [5, 6, 7, 4, 3, 2, 1, 0] rfl H
      · have H := H.2 c
        refine x_iconst (zdm d_Zt_marks_0 11 rfl) (zIl rfl) ?_
        exact x_iret (zdm d_Zt_marks_0 12 rfl) rfl H
set_option maxRecDepth 20000 in
set_option maxHeartbeats 4000000 in
theorem B_Zt_heal_71 {G : zG} {h sl : Nat} (hsl : 1 ≤ sl) {u : Nat × Nat × Nat × Nat} {l1 l2 l3 l4 l5 s0 : Int} {M : zM} {Q : Int → zM → Prop} (H : (s0 = 0 → (zI (l5 + 1)) ∧ (zX G (y_Zt_heal, h + 1, sl) u 43 [(0, (2, 1)), (1, (0, l1)), (2, (0, l2)), (3, (0, l3)), (4, (0, l4)), (5, (0, (l5 + 1)))] [] M Q)) ∧ (¬ s0 = 0 → zCt G h sl 0 0 y_Ji_bitCount [(0, l5)] M (fun r2 M3 => (l4 ≤ r2 → (zI (l5 + 1)) ∧ (zX G (y_Zt_heal, h + 1, sl) u 43 [(0, (2, 1)), (1, (0, l1)), (2, (0, l2)), (3, (0, l3)), (4, (0, l4)), (5, (0, (l5 + 1)))] [] M3 Q)) ∧ (¬ l4 ≤ r2 → zCt G h sl 0 0 y_Zt_heals [(2, 1), (0, l5), (0, l1)] M3 (fun r5 M6 => (r5 = 0 → (zI (l5 + 1)) ∧ (zX G (y_Zt_heal, h + 1, sl) u 43 [(0, (2, 1)), (1, (0, l1)), (2, (0, l2)), (3, (0, l3)), (4, (0, l4)), (5, (0, (l5 + 1)))] [] M6 Q)) ∧ (¬ r5 = 0 → zCt G h sl 0 0 y_Ji_bitCount [(0, l5)] M6 (fun r9 M10 => (zI (l5 + 1)) ∧ (zX G (y_Zt_heal, h + 1, sl) u 43 [(0, (2, 1)), (1, (0, l1)), (2, (0, l2)), (3, (0, l5)), (4, (0, r9)), (5, (0, (l5 + 1)))] [] M10 Q)))))))) : zX G (y_Zt_heal, h + 1, sl) u 71 [(0, (2, 1)), (1, (0, l1)), (2, (0, l2)), (3, (0, l3)), (4, (0, l4)), (5, (0, l5))] [(0, s0)] M Q := by
  refine x_istore (zdm d_Zt_heal_0 41 rfl) (zlt rfl) rfl ?_
  refine x_iload (zdm d_Zt_heal_0 42 rfl) (n := 0) rfl ?_
  refine x_ifeq (tgt := 108) (zdm d_Zt_heal_0 43 rfl) (by decide) (fun c => ?_) (fun c => ?_)
  · have H := H.1 c
    obtain ⟨g1, H⟩ := H
    refine x_iinc (zdm d_Zt_heal_0 58 rfl) (n := 6) rfl g1 (zlt rfl) rfl ?_
    refine x_goto (tgt := 43) (zdm d_Zt_heal_0 59 rfl) (by decide) ?_
    exact zX.sub [2, 3, 4, 5, 6, 0] rfl H
  · have H := H.2 c
    refine x_iload (zdm d_Zt_heal_0 44 rfl) (n := 6) rfl ?_
    refine x_callSi (n := 1) (zdm d_Zt_heal_0 45 rfl) k_Zt_222 (As := [(0, l5)]) rfl rfl (Nat.le_of_ble_eq_true rfl) trivial H (fun r2 M3 hr H => ?_)
    refine x_iload (zdm d_Zt_heal_0 46 rfl) (n := 5) rfl ?_
    refine x_icmpge (tgt := 108) (zdm d_Zt_heal_0 47 rfl) (by decide) (fun c => ?_) (fun c => ?_)
    · have H := H.1 c
      obtain ⟨g4, H⟩ := H
      refine x_iinc (zdm d_Zt_heal_0 58 rfl) (n := 6) rfl g4 (zlt rfl) rfl ?_
      refine x_goto (tgt := 43) (zdm d_Zt_heal_0 59 rfl) (by decide) ?_
      exact zX.sub [2, 3, 4, 5, 6, 0] rfl H
    · have H := H.2 c
      refine x_aload_n (zdm d_Zt_heal_0 48 rfl) rfl (n := 1) rfl ?_
      refine x_iload (zdm d_Zt_heal_0 49 rfl) (n := 6) rfl ?_
      refine x_iload_n (zdm d_Zt_heal_0 50 rfl) rfl (n := 2) rfl ?_
      refine x_callVi (n := 2) (ci := 10) (zdm d_Zt_heal_0 51 rfl) k_Zt_227 (As := [(0, l5), (0, l1)]) rfl rfl rfl ⟨_, _, rfl⟩ (Nat.le_of_ble_eq_true rfl) trivial H (fun r5 M6 hr H => ?_)
      have b7 : r5 = 0 ∨ r5 = 1 := hr
      refine x_ifeq (tgt := 108) (zdm d_Zt_heal_0 52 rfl) (by decide) (fun c => ?_) (fun c => ?_)
      · have H := H.1 c
        obtain ⟨g8, H⟩ := H
        refine x_iinc (zdm d_Zt_heal_0 58 rfl) (n := 6) rfl g8 (zlt rfl) rfl ?_
        refine x_goto (tgt := 43) (zdm d_Zt_heal_0 59 rfl) (by decide) ?_
        exact zX.sub [2, 3, 4, 5, 6, 0] rfl H
      · have H := H.2 c
        refine x_iload (zdm d_Zt_heal_0 53 rfl) (n := 6) rfl ?_
        refine x_istore_n (zdm d_Zt_heal_0 54 rfl) rfl (zlt rfl) rfl ?_
        refine x_iload (zdm d_Zt_heal_0 55 rfl) (n := 6) rfl ?_
        refine x_callSi (n := 1) (zdm d_Zt_heal_0 56 rfl) k_Zt_222 (As := [(0, l5)]) rfl rfl (Nat.le_of_ble_eq_true rfl) trivial H (fun r9 M10 hr H => ?_)
        refine x_istore (zdm d_Zt_heal_0 57 rfl) (zlt rfl) rfl ?_
        obtain ⟨g11, H⟩ := H
        refine x_iinc (zdm d_Zt_heal_0 58 rfl) (n := 6) rfl g11 (zlt rfl) rfl ?_
        refine x_goto (tgt := 43) (zdm d_Zt_heal_0 59 rfl) (by decide) ?_
        exact zX.sub [4, 5, 6, 2, 1, 0] rfl H
set_option maxRecDepth 20000 in
set_option maxHeartbeats 4000000 in
theorem B_Zt_heal_43 {G : zG} {h sl : Nat} (hsl : 1 ≤ sl) {u : Nat × Nat × Nat × Nat} {l1 l2 l3 l4 l5 : Int} {M : zM} {Q : Int → zM → Prop} (H : (zK (M 1 11) = (8, 0)) ∧ (((zshl 1 (M (M 1 11) 2)) ≤ l5 → Q l3 M) ∧ (¬ (zshl 1 (M (M 1 11) 2)) ≤ l5 → (¬ (zand l5 (zxor l2 (-1))) = 0 → zX G (y_Zt_heal, h + 1, sl) u 71 [(0, (2, 1)), (1, (0, l1)), (2, (0, l2)), (3, (0, l3)), (4, (0, l4)), (5, (0, l5))] [(0, 0)] M Q) ∧ (¬ (¬ (zand l5 (zxor l2 (-1))) = 0) → zX G (y_Zt_heal, h + 1, sl) u 71 [(0, (2, 1)), (1, (0, l1)), (2, (0, l2)), (3, (0, l3)), (4, (0, l4)), (5, (0, l5))] [(0, 1)] M Q)))) : zX G (y_Zt_heal, h + 1, sl) u 43 [(0, (2, 1)), (1, (0, l1)), (2, (0, l2)), (3, (0, l3)), (4, (0, l4)), (5, (0, l5))] [] M Q := by
  refine x_iload (zdm d_Zt_heal_0 25 rfl) (n := 5) rfl ?_
  refine x_iconst (zdm d_Zt_heal_0 26 rfl) (zIl rfl) ?_
  refine x_aload_n (zdm d_Zt_heal_0 27 rfl) rfl (n := 0) rfl ?_
  refine x_getf (zdm d_Zt_heal_0 28 rfl) f_Zt_82 rfl rfl ?_
  obtain ⟨g1, H⟩ := H
  refine x_getf (zdm d_Zt_heal_0 29 rfl) f_Zt_127 g1 rfl ?_
  refine x_ishl (zdm d_Zt_heal_0 30 rfl) ?_
  refine x_icmpge (tgt := 114) (zdm d_Zt_heal_0 31 rfl) (by decide) (fun c => ?_) (fun c => ?_)
  · have H := H.1 c
    refine x_iload_n (zdm d_Zt_heal_1 0 rfl) rfl (n := 3) rfl ?_
    exact x_iret (zdm d_Zt_heal_1 1 rfl) rfl H
  · have H := H.2 c
    refine x_iload (zdm d_Zt_heal_0 32 rfl) (n := 5) rfl ?_
    refine x_iload_n (zdm d_Zt_heal_0 33 rfl) rfl (n := 2) rfl ?_
    refine x_iconst (zdm d_Zt_heal_0 34 rfl) (zIl rfl) ?_
    refine x_ixor (zdm d_Zt_heal_0 35 rfl) ?_
    refine x_iand (zdm d_Zt_heal_0 36 rfl) ?_
    refine x_ifne (tgt := 70) (zdm d_Zt_heal_0 37 rfl) (by decide) (fun c => ?_) (fun c => ?_)
    · have H := H.1 c
      refine x_iconst (zdm d_Zt_heal_0 40 rfl) (zIl rfl) ?_
      exact H
    · have H := H.2 c
      refine x_iconst (zdm d_Zt_heal_0 38 rfl) (zIl rfl) ?_
      refine x_goto (tgt := 71) (zdm d_Zt_heal_0 39 rfl) (by decide) ?_
      exact H
set_option maxRecDepth 20000 in
set_option maxHeartbeats 4000000 in
theorem E_Zt_heal {G : zG} {h sl : Nat} (hsl : 1 ≤ sl) {l1 : Int} {M : zM} {Q : Int → zM → Prop} (H : zCt G h sl 0 0 y_Zt_isAhead [(2, 1), (0, l1), (0, 1), (0, 60)] M (fun r1 M2 => (¬ r1 = 0 → (zI ((M2 4 1) + l1)) ∧ (zCt G h sl 0 0 y_Course_reach [(2, 8), (0, ((M2 4 1) + l1))] M2 (fun r5 M6 => zCt G h sl 0 0 y_Zt_columnsAstray [(2, 1)] M6 (fun r7 M8 => zX G (y_Zt_heal, h + 1, sl) (0, 0, 0, 0) 43 [(0, (2, 1)), (1, (0, l1)), (2, (0, r7)), (3, (0, (-1))), (4, (0, 9)), (5, (0, 0))] [] M8 Q)))) ∧ (¬ (¬ r1 = 0) → Q (-1) M2))) : zCt G (h + 1) sl 0 0 y_Zt_heal [(2, 1), (0, l1)] M Q := by
  refine zCt.of (by decide +kernel) (Nat.le_of_ble_eq_true rfl) ?_
  refine x_aload_n (zdm d_Zt_heal_0 0 rfl) rfl (n := 0) rfl ?_
  refine x_iload_n (zdm d_Zt_heal_0 1 rfl) rfl (n := 1) rfl ?_
  refine x_iconst (zdm d_Zt_heal_0 2 rfl) (zIl rfl) ?_
  refine x_bipush (zdm d_Zt_heal_0 3 rfl) (by decide) ?_
  refine x_callVi (n := 3) (ci := 10) (zdm d_Zt_heal_0 4 rfl) k_Zt_189 (As := [(0, l1), (0, 1), (0, 60)]) rfl rfl rfl ⟨_, _, rfl⟩ (Nat.le_of_ble_eq_true rfl) trivial H (fun r1 M2 hr H => ?_)
  have b3 : r1 = 0 ∨ r1 = 1 := hr
  refine x_ifne (tgt := 13) (zdm d_Zt_heal_0 5 rfl) (by decide) (fun c => ?_) (fun c => ?_)
  · have H := H.1 c
    refine x_aload_n (zdm d_Zt_heal_0 8 rfl) rfl (n := 0) rfl ?_
    refine x_getG (zdm d_Zt_heal_0 9 rfl) f_Zt_31 rfl rfl (by decide) hsl rfl ?_
    refine x_aload_n (zdm d_Zt_heal_0 10 rfl) rfl (n := 0) rfl ?_
    refine x_getG (zdm d_Zt_heal_0 11 rfl) f_Zt_19 rfl rfl (by decide) hsl rfl ?_
    refine x_getf (zdm d_Zt_heal_0 12 rfl) f_Zt_130 rfl rfl ?_
    refine x_iload_n (zdm d_Zt_heal_0 13 rfl) rfl (n := 1) rfl ?_
    obtain ⟨g4, H⟩ := H
    refine x_iadd (zdm d_Zt_heal_0 14 rfl) g4 ?_
    refine x_callVv (n := 1) (ci := 2) (zdm d_Zt_heal_0 15 rfl) k_Zt_193 (As := [(0, ((M2 4 1) + l1))]) rfl rfl rfl ⟨_, _, rfl⟩ (Nat.le_of_ble_eq_true rfl) rfl H (fun r5 M6 hr H => ?_)
    refine x_aload_n (zdm d_Zt_heal_0 16 rfl) rfl (n := 0) rfl ?_
    refine x_callVi (n := 0) (ci := 10) (zdm d_Zt_heal_0 17 rfl) k_Zt_219 (As := []) rfl rfl rfl ⟨_, _, rfl⟩ (Nat.le_of_ble_eq_true rfl) trivial H (fun r7 M8 hr H => ?_)
    refine x_istore_n (zdm d_Zt_heal_0 18 rfl) rfl (zlt rfl) rfl ?_
    refine x_iconst (zdm d_Zt_heal_0 19 rfl) (zIl rfl) ?_
    refine x_istore_n (zdm d_Zt_heal_0 20 rfl) rfl (zlt rfl) rfl ?_
    refine x_bipush (zdm d_Zt_heal_0 21 rfl) (by decide) ?_
    refine x_istore (zdm d_Zt_heal_0 22 rfl) (zlt rfl) rfl ?_
    refine x_iconst (zdm d_Zt_heal_0 23 rfl) (zIl rfl) ?_
    refine x_istore (zdm d_Zt_heal_0 24 rfl) (zlt rfl) rfl ?_
    exact zX.sub [4, 5, 3, 2, 1, 0] rfl H
  · have H := H.2 c
    refine x_iconst (zdm d_Zt_heal_0 6 rfl) (zIl rfl) ?_
    exact x_iret (zdm d_Zt_heal_0 7 rfl) rfl H
set_option maxRecDepth 20000 in
set_option maxHeartbeats 4000000 in
theorem B_Zt_odds_146 {G : zG} {h sl : Nat} (hsl : 1 ≤ sl) {u : Nat × Nat × Nat × Nat} {l1 l3 l4 l6 l7 : Int} {M : zM} {Q : Int → zM → Prop} (H : (9 ≤ l7 → Q l6 M) ∧ (¬ 9 ≤ l7 → (zK (M 1 11) = (8, 0)) ∧ ((0 ≤ l1 ∧ l1 < 8) ∧ ((zI (l7 + 1)) ∧ (zCt G h sl 0 0 y_Column_slipped [(2, ((M 1 11) + 7 + 2 * l1)), (0, l3), (0, (l7 + 1))] M (fun r4 M5 => (¬ r4 = l4 → zX G (y_Zt_odds, h + 1, sl) u 146 [(0, (2, 1)), (1, (0, l1)), (3, (0, l3)), (4, (0, l4)), (6, (0, l6)), (7, (0, (l7 + 1)))] [] M5 Q) ∧ (¬ (¬ r4 = l4) → (zK (M5 1 11) = (8, 0)) ∧ ((zI (l6 + (M5 (M5 1 11) 4))) ∧ (zX G (y_Zt_odds, h + 1, sl) u 146 [(0, (2, 1)), (1, (0, l1)), (3, (0, l3)), (4, (0, l4)), (6, (0, (l6 + (M5 (M5 1 11) 4)))), (7, (0, (l7 + 1)))] [] M5 Q))))))))) : zX G (y_Zt_odds, h + 1, sl) u 146 [(0, (2, 1)), (1, (0, l1)), (3, (0, l3)), (4, (0, l4)), (6, (0, l6)), (7, (0, l7))] [] M Q := by
  refine x_iload (zdm d_Zt_odds_1 17 rfl) (n := 5) rfl ?_
  refine x_bipush (zdm d_Zt_odds_1 18 rfl) (by decide) ?_
  refine x_icmpge (tgt := 193) (zdm d_Zt_odds_1 19 rfl) (by decide) (fun c => ?_) (fun c => ?_)
  · have H := H.1 c
    refine x_iload (zdm d_Zt_odds_1 40 rfl) (n := 4) rfl ?_
    exact x_iret (zdm d_Zt_odds_1 41 rfl) rfl H
  · have H := H.2 c
    refine x_aload_n (zdm d_Zt_odds_1 20 rfl) rfl (n := 0) rfl ?_
    refine x_getf (zdm d_Zt_odds_1 21 rfl) f_Zt_82 rfl rfl ?_
    obtain ⟨g1, H⟩ := H
    refine x_getG (zdm d_Zt_odds_1 22 rfl) f_Zt_153 g1 rfl (by decide) hsl (zs_8 g1).1.1 ?_
    refine x_iload_n (zdm d_Zt_odds_1 23 rfl) rfl (n := 1) rfl ?_
    obtain ⟨g2, H⟩ := H
    refine x_aald5G (zdm d_Zt_odds_1 24 rfl) (zs_8 g1).1.2 g2 hsl (zs_cols g1 g2.1 g2.2).1 ?_
    refine x_iload_n (zdm d_Zt_odds_1 25 rfl) rfl (n := 2) rfl ?_
    refine x_iload (zdm d_Zt_odds_1 26 rfl) (n := 5) rfl ?_
    refine x_iconst (zdm d_Zt_odds_1 27 rfl) (zIl rfl) ?_
    obtain ⟨g3, H⟩ := H
    refine x_iadd (zdm d_Zt_odds_1 28 rfl) g3 ?_
    refine x_callVi (n := 2) (ci := 1) (zdm d_Zt_odds_1 29 rfl) k_Zt_234 (As := [(0, l3), (0, (l7 + 1))]) rfl rfl (zs_cols g1 g2.1 g2.2).2 ⟨_, _, rfl⟩ (Nat.le_of_ble_eq_true rfl) trivial H (fun r4 M5 hr H => ?_)
    refine x_iload (zdm d_Zt_odds_1 30 rfl) (n := 3) rfl ?_
    refine x_icmpne (tgt := 187) (zdm d_Zt_odds_1 31 rfl) (by decide) (fun c => ?_) (fun c => ?_)
    · have H := H.1 c
      refine x_iinc (zdm d_Zt_odds_1 38 rfl) (n := 5) rfl g3 (zlt rfl) rfl ?_
      refine x_goto (tgt := 146) (zdm d_Zt_odds_1 39 rfl) (by decide) ?_
      exact zX.sub [1, 2, 3, 4, 5, 0] rfl H
    · have H := H.2 c
      refine x_iload (zdm d_Zt_odds_1 32 rfl) (n := 4) rfl ?_
      refine x_aload_n (zdm d_Zt_odds_1 33 rfl) rfl (n := 0) rfl ?_
      refine x_getf (zdm d_Zt_odds_1 34 rfl) f_Zt_82 rfl rfl ?_
      obtain ⟨g6, H⟩ := H
      refine x_getf (zdm d_Zt_odds_1 35 rfl) f_Zt_231 g6 rfl ?_
      obtain ⟨g7, H⟩ := H
      refine x_iadd (zdm d_Zt_odds_1 36 rfl) g7 ?_
      refine x_istore (zdm d_Zt_odds_1 37 rfl) (zlt rfl) rfl ?_
      refine x_iinc (zdm d_Zt_odds_1 38 rfl) (n := 5) rfl g3 (zlt rfl) rfl ?_
      refine x_goto (tgt := 146) (zdm d_Zt_odds_1 39 rfl) (by decide) ?_
      exact zX.sub [2, 3, 4, 5, 1, 0] rfl H
set_option maxRecDepth 20000 in
set_option maxHeartbeats 4000000 in
theorem E_Zt_odds {G : zG} {h sl : Nat} (hsl : 1 ≤ sl) {l1 : Int} {M : zM} {Q : Int → zM → Prop} (H : (zK (M 1 11) = (8, 0)) ∧ (((M (M 1 11) 2) = 0 → Q (-1) M) ∧ (¬ (M (M 1 11) 2) = 0 → (999 ≤ (M 4 1) → Q (-1) M) ∧ (¬ 999 ≤ (M 4 1) → (l1 < (-1) → Q (-1) M) ∧ (¬ l1 < (-1) → (l1 < (M (M 1 11) 2) → (zI (100 * (M (M 1 11) 2))) ∧ ((zI ((100 * (M (M 1 11) 2)) * 9)) ∧ ((¬ l1 = (-1) → zCt G h sl 0 0 y_Course_reach [(2, 13), (0, 1)] M (fun r4 M5 => (zI ((M5 4 1) + 1)) ∧ (zCt G h sl 0 0 y_Course_reach [(2, 8), (0, ((M5 4 1) + 1))] M5 (fun r7 M8 => zCt G h sl 0 0 y_Course_told [(2, 13), (0, 1), (0, l1)] M8 (fun r9 M10 => (zI ((M10 4 1) + 1)) ∧ (zCt G h sl 0 0 y_Course_told [(2, 8), (0, ((M10 4 1) + 1)), (0, l1)] M10 (fun r12 M13 => (zK (M13 1 11) = (8, 0)) ∧ ((zI ((M13 (M13 1 11) 4) * 9)) ∧ ((zI (((100 * (M (M 1 11) 2)) * 9) - ((M13 (M13 1 11) 4) * 9))) ∧ ((¬ r9 = r12 → zX G (y_Zt_odds, h + 1, sl) (0, 0, 0, 0) 146 [(0, (2, 1)), (1, (0, l1)), (3, (0, r9)), (4, (0, r12)), (6, (0, 0)), (7, (0, 0))] [] M13 Q) ∧ (¬ (¬ r9 = r12) → zX G (y_Zt_odds, h + 1, sl) (0, 0, 0, 0) 146 [(0, (2, 1)), (1, (0, l1)), (3, (0, r9)), (4, (0, r12)), (6, (0, (((100 * (M (M 1 11) 2)) * 9) - ((M13 (M13 1 11) 4) * 9)))), (7, (0, 0))] [] M13 Q))))))))))) ∧ (¬ (¬ l1 = (-1)) → Q ((100 * (M (M 1 11) 2)) * 9) M)))) ∧ (¬ l1 < (M (M 1 11) 2) → Q (-1) M)))))) : zCt G (h + 1) sl 0 0 y_Zt_odds [(2, 1), (0, l1)] M Q := by
  refine zCt.of (by decide +kernel) (Nat.le_of_ble_eq_true rfl) ?_
  refine x_aload_n (zdm d_Zt_odds_0 0 rfl) rfl (n := 0) rfl ?_
  refine x_getf (zdm d_Zt_odds_0 1 rfl) f_Zt_82 rfl rfl ?_
  obtain ⟨g1, H⟩ := H
  refine x_getf (zdm d_Zt_odds_0 2 rfl) f_Zt_127 g1 rfl ?_
  refine x_ifeq (tgt := 39) (zdm d_Zt_odds_0 3 rfl) (by decide) (fun c => ?_) (fun c => ?_)
  · have H := H.1 c
    refine x_iconst (zdm d_Zt_odds_0 17 rfl) (zIl rfl) ?_
    exact x_iret (zdm d_Zt_odds_0 18 rfl) rfl H
  · have H := H.2 c
    refine x_aload_n (zdm d_Zt_odds_0 4 rfl) rfl (n := 0) rfl ?_
    refine x_getG (zdm d_Zt_odds_0 5 rfl) f_Zt_19 rfl rfl (by decide) hsl rfl ?_
    refine x_getf (zdm d_Zt_odds_0 6 rfl) f_Zt_130 rfl rfl ?_
    refine x_sipush (zdm d_Zt_odds_0 7 rfl) (by decide) ?_
    refine x_icmpge (tgt := 39) (zdm d_Zt_odds_0 8 rfl) (by decide) (fun c => ?_) (fun c => ?_)
    · have H := H.1 c
      refine x_iconst (zdm d_Zt_odds_0 17 rfl) (zIl rfl) ?_
      exact x_iret (zdm d_Zt_odds_0 18 rfl) rfl H
    · have H := H.2 c
      refine x_iload_n (zdm d_Zt_odds_0 9 rfl) rfl (n := 1) rfl ?_
      refine x_iconst (zdm d_Zt_odds_0 10 rfl) (zIl rfl) ?_
      refine x_icmplt (tgt := 39) (zdm d_Zt_odds_0 11 rfl) (by decide) (fun c => ?_) (fun c => ?_)
      · have H := H.1 c
        refine x_iconst (zdm d_Zt_odds_0 17 rfl) (zIl rfl) ?_
        exact x_iret (zdm d_Zt_odds_0 18 rfl) rfl H
      · have H := H.2 c
        refine x_iload_n (zdm d_Zt_odds_0 12 rfl) rfl (n := 1) rfl ?_
        refine x_aload_n (zdm d_Zt_odds_0 13 rfl) rfl (n := 0) rfl ?_
        refine x_getf (zdm d_Zt_odds_0 14 rfl) f_Zt_82 rfl rfl ?_
        refine x_getf (zdm d_Zt_odds_0 15 rfl) f_Zt_127 g1 rfl ?_
        refine x_icmplt (tgt := 41) (zdm d_Zt_odds_0 16 rfl) (by decide) (fun c => ?_) (fun c => ?_)
        · have H := H.1 c
          refine x_bipush (zdm d_Zt_odds_0 19 rfl) (by decide) ?_
          refine x_aload_n (zdm d_Zt_odds_0 20 rfl) rfl (n := 0) rfl ?_
          refine x_getf (zdm d_Zt_odds_0 21 rfl) f_Zt_82 rfl rfl ?_
          refine x_getf (zdm d_Zt_odds_0 22 rfl) f_Zt_127 g1 rfl ?_
          obtain ⟨g2, H⟩ := H
          refine x_imul (zdm d_Zt_odds_0 23 rfl) g2 ?_
          refine x_bipush (zdm d_Zt_odds_0 24 rfl) (by decide) ?_
          obtain ⟨g3, H⟩ := H
          refine x_imul (zdm d_Zt_odds_0 25 rfl) g3 ?_
          refine x_istore_n (zdm d_Zt_odds_0 26 rfl) rfl (zlt rfl) rfl ?_
          refine x_iload_n (zdm d_Zt_odds_0 27 rfl) rfl (n := 2) rfl ?_
          refine x_iconst (zdm d_Zt_odds_0 28 rfl) (zIl rfl) ?_
          refine x_icmpne (tgt := 62) (zdm d_Zt_odds_0 29 rfl) (by decide) (fun c => ?_) (fun c => ?_)
          · have H := H.1 c
            refine x_aload_n (zdm d_Zt_odds_0 32 rfl) rfl (n := 1) rfl ?_
            refine x_getG (zdm d_Zt_odds_0 33 rfl) f_Zt_35 rfl rfl (by decide) hsl rfl ?_
            refine x_iconst (zdm d_Zt_odds_0 34 rfl) (zIl rfl) ?_
            refine x_callVv (n := 1) (ci := 2) (zdm d_Zt_odds_0 35 rfl) k_Zt_193 (As := [(0, 1)]) rfl rfl rfl ⟨_, _, rfl⟩ (Nat.le_of_ble_eq_true rfl) rfl H (fun r4 M5 hr H => ?_)
            refine x_aload_n (zdm d_Zt_odds_0 36 rfl) rfl (n := 1) rfl ?_
            refine x_getG (zdm d_Zt_odds_0 37 rfl) f_Zt_31 rfl rfl (by decide) hsl rfl ?_
            refine x_aload_n (zdm d_Zt_odds_0 38 rfl) rfl (n := 1) rfl ?_
            refine x_getG (zdm d_Zt_odds_0 39 rfl) f_Zt_19 rfl rfl (by decide) hsl rfl ?_
            refine x_getf (zdm d_Zt_odds_0 40 rfl) f_Zt_130 rfl rfl ?_
            refine x_iconst (zdm d_Zt_odds_0 41 rfl) (zIl rfl) ?_
            obtain ⟨g6, H⟩ := H
            refine x_iadd (zdm d_Zt_odds_0 42 rfl) g6 ?_
            refine x_callVv (n := 1) (ci := 2) (zdm d_Zt_odds_0 43 rfl) k_Zt_193 (As := [(0, ((M5 4 1) + 1))]) rfl rfl rfl ⟨_, _, rfl⟩ (Nat.le_of_ble_eq_true rfl) rfl H (fun r7 M8 hr H => ?_)
            refine x_aload_n (zdm d_Zt_odds_0 44 rfl) rfl (n := 1) rfl ?_
            refine x_getG (zdm d_Zt_odds_0 45 rfl) f_Zt_35 rfl rfl (by decide) hsl rfl ?_
            refine x_iconst (zdm d_Zt_odds_0 46 rfl) (zIl rfl) ?_
            refine x_iload_n (zdm d_Zt_odds_0 47 rfl) rfl (n := 2) rfl ?_
            refine x_callVi (n := 2) (ci := 2) (zdm d_Zt_odds_0 48 rfl) k_Zt_179 (As := [(0, 1), (0, l1)]) rfl rfl rfl ⟨_, _, rfl⟩ (Nat.le_of_ble_eq_true rfl) trivial H (fun r9 M10 hr H => ?_)
            refine x_istore_n (zdm d_Zt_odds_0 49 rfl) rfl (zlt rfl) rfl ?_
            refine x_aload_n (zdm d_Zt_odds_0 50 rfl) rfl (n := 2) rfl ?_
            refine x_getG (zdm d_Zt_odds_0 51 rfl) f_Zt_31 rfl rfl (by decide) hsl rfl ?_
            refine x_aload_n (zdm d_Zt_odds_0 52 rfl) rfl (n := 2) rfl ?_
            refine x_getG (zdm d_Zt_odds_0 53 rfl) f_Zt_19 rfl rfl (by decide) hsl rfl ?_
            refine x_getf (zdm d_Zt_odds_0 54 rfl) f_Zt_130 rfl rfl ?_
            refine x_iconst (zdm d_Zt_odds_0 55 rfl) (zIl rfl) ?_
            obtain ⟨g11, H⟩ := H
            refine x_iadd (zdm d_Zt_odds_0 56 rfl) g11 ?_
            refine x_iload_n (zdm d_Zt_odds_0 57 rfl) rfl (n := 3) rfl ?_
            refine x_callVi (n := 2) (ci := 2) (zdm d_Zt_odds_0 58 rfl) k_Zt_179 (As := [(0, ((M10 4 1) + 1)), (0, l1)]) rfl rfl rfl ⟨_, _, rfl⟩ (Nat.le_of_ble_eq_true rfl) trivial H (fun r12 M13 hr H => ?_)
            refine x_istore (zdm d_Zt_odds_0 59 rfl) (zlt rfl) rfl ?_
            refine x_iload_n (zdm d_Zt_odds_1 0 rfl) rfl (n := 2) rfl ?_
            refine x_aload_n (zdm d_Zt_odds_1 1 rfl) rfl (n := 3) rfl ?_
            refine x_getf (zdm d_Zt_odds_1 2 rfl) f_Zt_82 rfl rfl ?_
            obtain ⟨g14, H⟩ := H
            refine x_getf (zdm d_Zt_odds_1 3 rfl) f_Zt_231 g14 rfl ?_
            refine x_bipush (zdm d_Zt_odds_1 4 rfl) (by decide) ?_
            obtain ⟨g15, H⟩ := H
            refine x_imul (zdm d_Zt_odds_1 5 rfl) g15 ?_
            obtain ⟨g16, H⟩ := H
            refine x_isub (zdm d_Zt_odds_1 6 rfl) g16 ?_
            refine x_istore (zdm d_Zt_odds_1 7 rfl) (zlt rfl) rfl ?_
            refine x_iload_n (zdm d_Zt_odds_1 8 rfl) rfl (n := 2) rfl ?_
            refine x_iload (zdm d_Zt_odds_1 9 rfl) (n := 1) rfl ?_
            refine x_icmpne (tgt := 140) (zdm d_Zt_odds_1 10 rfl) (by decide) (fun c => ?_) (fun c => ?_)
            · have H := H.1 c
              refine x_iconst (zdm d_Zt_odds_1 13 rfl) (zIl rfl) ?_
              refine x_istore (zdm d_Zt_odds_1 14 rfl) (zlt rfl) rfl ?_
              refine x_iconst (zdm d_Zt_odds_1 15 rfl) (zIl rfl) ?_
              refine x_istore (zdm d_Zt_odds_1 16 rfl) (zlt rfl) rfl ?_
              exact zX.sub [6, 7, 4, 3, 1, 0] rfl H
            · have H := H.2 c
              refine x_iload (zdm d_Zt_odds_1 11 rfl) (n := 0) rfl ?_
              refine x_goto (tgt := 141) (zdm d_Zt_odds_1 12 rfl) (by decide) ?_
              refine x_istore (zdm d_Zt_odds_1 14 rfl) (zlt rfl) rfl ?_
              refine x_iconst (zdm d_Zt_odds_1 15 rfl) (zIl rfl) ?_
              refine x_istore (zdm d_Zt_odds_1 16 rfl) (zlt rfl) rfl ?_
              exact zX.sub [6, 7, 4, 3, 1, 0] rfl H
          · have H := H.2 c
            refine x_iload_n (zdm d_Zt_odds_0 30 rfl) rfl (n := 0) rfl ?_
            exact x_iret (zdm d_Zt_odds_0 31 rfl) rfl H
        · have H := H.2 c
          refine x_iconst (zdm d_Zt_odds_0 17 rfl) (zIl rfl) ?_
          exact x_iret (zdm d_Zt_odds_0 18 rfl) rfl H
set_option maxRecDepth 20000 in
set_option maxHeartbeats 4000000 in
theorem E_Zt_find {G : zG} {h sl : Nat} (hsl : 1 ≤ sl) {M : zM} {Q : Int → zM → Prop} (H : zCt G h sl 0 0 y_Piece_read [(2, 63), (2, 2), (2, (M 1 11))] M (fun r1 M2 => (r1 = 0 → zCt G h sl 0 0 y_Zt_none [(2, 1), (0, 1)] (zwr M2 2 1 0) (fun r4 M5 => Q r4 M5)) ∧ (¬ r1 = 0 → Q ((zwr M2 2 1 0) 63 8) (zwr M2 2 1 0)))) : zCt G (h + 1) sl 0 0 y_Zt_find [(2, 1)] M Q := by
  refine zCt.of (by decide +kernel) (Nat.le_of_ble_eq_true rfl) ?_
  refine x_aload_n (zdm d_Zt_find_0 0 rfl) rfl (n := 0) rfl ?_
  refine x_getG (zdm d_Zt_find_0 1 rfl) f_Zt_50 rfl rfl (by decide) hsl rfl ?_
  refine x_aload_n (zdm d_Zt_find_0 2 rfl) rfl (n := 0) rfl ?_
  refine x_getG (zdm d_Zt_find_0 3 rfl) f_Zt_10 rfl rfl (by decide) hsl rfl ?_
  refine x_aload_n (zdm d_Zt_find_0 4 rfl) rfl (n := 0) rfl ?_
  refine x_getf (zdm d_Zt_find_0 5 rfl) f_Zt_82 rfl rfl ?_
  refine x_callVi (n := 2) (ci := 5) (zdm d_Zt_find_0 6 rfl) k_Zt_237 (As := [(2, 2), (2, (M 1 11))]) rfl rfl rfl ⟨_, _, rfl⟩ (Nat.le_of_ble_eq_true rfl) trivial H (fun r1 M2 hr H => ?_)
  have b3 : r1 = 0 ∨ r1 = 1 := hr
  refine x_istore_n (zdm d_Zt_find_0 7 rfl) rfl (zlt rfl) rfl ?_
  refine x_aload_n (zdm d_Zt_find_0 8 rfl) rfl (n := 1) rfl ?_
  refine x_getG (zdm d_Zt_find_0 9 rfl) f_Zt_10 rfl rfl (by decide) hsl rfl ?_
  refine x_iconst (zdm d_Zt_find_0 10 rfl) (zIl rfl) ?_
  refine x_putf (zdm d_Zt_find_0 11 rfl) f_Zt_100 rfl ⟨rfl, trivial⟩ (Or.inl rfl) ?_
  refine x_iload_n (zdm d_Zt_find_0 12 rfl) rfl (n := 0) rfl ?_
  refine x_ifeq (tgt := 38) (zdm d_Zt_find_0 13 rfl) (by decide) (fun c => ?_) (fun c => ?_)
  · have H := H.1 c
    refine x_aload_n (zdm d_Zt_find_0 18 rfl) rfl (n := 1) rfl ?_
    refine x_iconst (zdm d_Zt_find_0 19 rfl) (zIl rfl) ?_
    refine x_callVi (n := 1) (ci := 10) (zdm d_Zt_find_0 20 rfl) k_Zt_103 (As := [(0, 1)]) rfl rfl rfl ⟨_, _, rfl⟩ (Nat.le_of_ble_eq_true rfl) trivial H (fun r4 M5 hr H => ?_)
    exact x_iret (zdm d_Zt_find_0 21 rfl) rfl H
  · have H := H.2 c
    refine x_aload_n (zdm d_Zt_find_0 14 rfl) rfl (n := 1) rfl ?_
    refine x_getG (zdm d_Zt_find_0 15 rfl) f_Zt_50 rfl rfl (by decide) hsl rfl ?_
    refine x_getf (zdm d_Zt_find_0 16 rfl) f_Zt_144 rfl rfl ?_
    refine x_goto (tgt := 43) (zdm d_Zt_find_0 17 rfl) (by decide) ?_
    exact x_iret (zdm d_Zt_find_0 21 rfl) rfl H
set_option maxRecDepth 20000 in
set_option maxHeartbeats 4000000 in
theorem E_Zt_fits {G : zG} {h sl : Nat} (hsl : 1 ≤ sl) {l1 : Int} {M : zM} {Q : Int → zM → Prop} (H : zCt G h sl 0 0 y_Course_reach [(2, 8), (0, 429)] M (fun r1 M2 => zCt G h sl 0 0 y_Piece_listFits [(2, 63)] M2 (fun r3 M4 => (¬ l1 = (-1) → (l1 < 0 → Q (-1) M4) ∧ (¬ l1 < 0 → ((M4 63 9) ≤ l1 → Q (-1) M4) ∧ (¬ (M4 63 9) ≤ l1 → (0 ≤ l1 ∧ l1 < 400) ∧ (Q (M4 70 l1) M4)))) ∧ (¬ (¬ l1 = (-1)) → Q (M4 63 9) M4)))) : zCt G (h + 1) sl 0 0 y_Zt_fits [(2, 1), (0, l1)] M Q := by
  refine zCt.of (by decide +kernel) (Nat.le_of_ble_eq_true rfl) ?_
  refine x_aload_n (zdm d_Zt_fits_0 0 rfl) rfl (n := 0) rfl ?_
  refine x_getG (zdm d_Zt_fits_0 1 rfl) f_Zt_31 rfl rfl (by decide) hsl rfl ?_
  refine x_sipush (zdm d_Zt_fits_0 2 rfl) (by decide) ?_
  refine x_callVv (n := 1) (ci := 2) (zdm d_Zt_fits_0 3 rfl) k_Zt_193 (As := [(0, 429)]) rfl rfl rfl ⟨_, _, rfl⟩ (Nat.le_of_ble_eq_true rfl) rfl H (fun r1 M2 hr H => ?_)
  refine x_aload_n (zdm d_Zt_fits_0 4 rfl) rfl (n := 0) rfl ?_
  refine x_getG (zdm d_Zt_fits_0 5 rfl) f_Zt_50 rfl rfl (by decide) hsl rfl ?_
  refine x_callVv (n := 0) (ci := 5) (zdm d_Zt_fits_0 6 rfl) k_Zt_241 (As := []) rfl rfl rfl ⟨_, _, rfl⟩ (Nat.le_of_ble_eq_true rfl) rfl H (fun r3 M4 hr H => ?_)
  refine x_iload_n (zdm d_Zt_fits_0 7 rfl) rfl (n := 1) rfl ?_
  refine x_iconst (zdm d_Zt_fits_0 8 rfl) (zIl rfl) ?_
  refine x_icmpne (tgt := 30) (zdm d_Zt_fits_0 9 rfl) (by decide) (fun c => ?_) (fun c => ?_)
  · have H := H.1 c
    refine x_iload_n (zdm d_Zt_fits_0 14 rfl) rfl (n := 1) rfl ?_
    refine x_iflt (tgt := 57) (zdm d_Zt_fits_0 15 rfl) (by decide) (fun c => ?_) (fun c => ?_)
    · have H := H.1 c
      refine x_iconst (zdm d_Zt_fits_0 27 rfl) (zIl rfl) ?_
      exact x_iret (zdm d_Zt_fits_0 28 rfl) rfl H
    · have H := H.2 c
      refine x_iload_n (zdm d_Zt_fits_0 16 rfl) rfl (n := 1) rfl ?_
      refine x_aload_n (zdm d_Zt_fits_0 17 rfl) rfl (n := 0) rfl ?_
      refine x_getG (zdm d_Zt_fits_0 18 rfl) f_Zt_50 rfl rfl (by decide) hsl rfl ?_
      refine x_getf (zdm d_Zt_fits_0 19 rfl) f_Zt_244 rfl rfl ?_
      refine x_icmpge (tgt := 57) (zdm d_Zt_fits_0 20 rfl) (by decide) (fun c => ?_) (fun c => ?_)
      · have H := H.1 c
        refine x_iconst (zdm d_Zt_fits_0 27 rfl) (zIl rfl) ?_
        exact x_iret (zdm d_Zt_fits_0 28 rfl) rfl H
      · have H := H.2 c
        refine x_aload_n (zdm d_Zt_fits_0 21 rfl) rfl (n := 0) rfl ?_
        refine x_getG (zdm d_Zt_fits_0 22 rfl) f_Zt_50 rfl rfl (by decide) hsl rfl ?_
        refine x_getG (zdm d_Zt_fits_0 23 rfl) f_Zt_247 rfl rfl (by decide) hsl rfl ?_
        refine x_iload_n (zdm d_Zt_fits_0 24 rfl) rfl (n := 1) rfl ?_
        obtain ⟨g5, H⟩ := H
        refine x_iald (zdm d_Zt_fits_0 25 rfl) rfl g5 ?_
        refine x_goto (tgt := 58) (zdm d_Zt_fits_0 26 rfl) (by decide) ?_
        exact x_iret (zdm d_Zt_fits_0 28 rfl) rfl H
  · have H := H.2 c
    refine x_aload_n (zdm d_Zt_fits_0 10 rfl) rfl (n := 0) rfl ?_
    refine x_getG (zdm d_Zt_fits_0 11 rfl) f_Zt_50 rfl rfl (by decide) hsl rfl ?_
    refine x_getf (zdm d_Zt_fits_0 12 rfl) f_Zt_244 rfl rfl ?_
    exact x_iret (zdm d_Zt_fits_0 13 rfl) rfl H
set_option maxRecDepth 20000 in
set_option maxHeartbeats 4000000 in
theorem E_Zt_differences {G : zG} {h sl : Nat} (hsl : 1 ≤ sl) {l1 l2 : Int} {M : zM} {Q : Int → zM → Prop} (H : zCt G h sl 0 0 y_Zt_isColumn [(2, 1), (0, l1)] M (fun r1 M2 => (r1 = 0 → Q (-1) M2) ∧ (¬ r1 = 0 → (zK (M2 1 11) = (8, 0)) ∧ ((0 ≤ l1 ∧ l1 < 8) ∧ (((M2 ((M2 1 11) + 7 + 2 * l1) 1) = 0 → zCt G h sl 0 0 y_Piece_listDifferences [(2, 63), (2, (M2 1 11)), (0, l1)] M2 (fun r6 M7 => (¬ l2 = (-1) → (l2 < 0 → Q (-1) M7) ∧ (¬ l2 < 0 → ((M7 63 10) ≤ l2 → Q (-1) M7) ∧ (¬ (M7 63 10) ≤ l2 → (0 ≤ l2 ∧ l2 < 1000) ∧ (Q (M7 71 l2) M7)))) ∧ (¬ (¬ l2 = (-1)) → Q (M7 63 10) M7))) ∧ (¬ (M2 ((M2 1 11) + 7 + 2 * l1) 1) = 0 → Q (-1) M2)))))) : zCt G (h + 1) sl 0 0 y_Zt_differences [(2, 1), (0, l1), (0, l2)] M Q := by
  refine zCt.of (by decide +kernel) (Nat.le_of_ble_eq_true rfl) ?_
  refine x_aload_n (zdm d_Zt_differences_0 0 rfl) rfl (n := 0) rfl ?_
  refine x_iload_n (zdm d_Zt_differences_0 1 rfl) rfl (n := 1) rfl ?_
  refine x_callVi (n := 1) (ci := 10) (zdm d_Zt_differences_0 2 rfl) k_Zt_150 (As := [(0, l1)]) rfl rfl rfl ⟨_, _, rfl⟩ (Nat.le_of_ble_eq_true rfl) trivial H (fun r1 M2 hr H => ?_)
  have b3 : r1 = 0 ∨ r1 = 1 := hr
  refine x_ifeq (tgt := 23) (zdm d_Zt_differences_0 3 rfl) (by decide) (fun c => ?_) (fun c => ?_)
  · have H := H.1 c
    refine x_iconst (zdm d_Zt_differences_0 11 rfl) (zIl rfl) ?_
    exact x_iret (zdm d_Zt_differences_0 12 rfl) rfl H
  · have H := H.2 c
    refine x_aload_n (zdm d_Zt_differences_0 4 rfl) rfl (n := 0) rfl ?_
    refine x_getf (zdm d_Zt_differences_0 5 rfl) f_Zt_82 rfl rfl ?_
    obtain ⟨g4, H⟩ := H
    refine x_getG (zdm d_Zt_differences_0 6 rfl) f_Zt_153 g4 rfl (by decide) hsl (zs_8 g4).1.1 ?_
    refine x_iload_n (zdm d_Zt_differences_0 7 rfl) rfl (n := 1) rfl ?_
    obtain ⟨g5, H⟩ := H
    refine x_aald5G (zdm d_Zt_differences_0 8 rfl) (zs_8 g4).1.2 g5 hsl (zs_cols g4 g5.1 g5.2).1 ?_
    refine x_getf (zdm d_Zt_differences_0 9 rfl) f_Zt_162 (zs_cols g4 g5.1 g5.2).2 rfl ?_
    refine x_ifeq (tgt := 25) (zdm d_Zt_differences_0 10 rfl) (by decide) (fun c => ?_) (fun c => ?_)
    · have H := H.1 c
      refine x_aload_n (zdm d_Zt_differences_0 13 rfl) rfl (n := 0) rfl ?_
      refine x_getG (zdm d_Zt_differences_0 14 rfl) f_Zt_50 rfl rfl (by decide) hsl rfl ?_
      refine x_aload_n (zdm d_Zt_differences_0 15 rfl) rfl (n := 0) rfl ?_
      refine x_getf (zdm d_Zt_differences_0 16 rfl) f_Zt_82 rfl rfl ?_
      refine x_iload_n (zdm d_Zt_differences_0 17 rfl) rfl (n := 1) rfl ?_
      refine x_callVv (n := 2) (ci := 5) (zdm d_Zt_differences_0 18 rfl) k_Zt_250 (As := [(2, (M2 1 11)), (0, l1)]) rfl rfl rfl ⟨_, _, rfl⟩ (Nat.le_of_ble_eq_true rfl) rfl H (fun r6 M7 hr H => ?_)
      refine x_iload_n (zdm d_Zt_differences_0 19 rfl) rfl (n := 2) rfl ?_
      refine x_iconst (zdm d_Zt_differences_0 20 rfl) (zIl rfl) ?_
      refine x_icmpne (tgt := 50) (zdm d_Zt_differences_0 21 rfl) (by decide) (fun c => ?_) (fun c => ?_)
      · have H := H.1 c
        refine x_iload_n (zdm d_Zt_differences_0 26 rfl) rfl (n := 2) rfl ?_
        refine x_iflt (tgt := 77) (zdm d_Zt_differences_0 27 rfl) (by decide) (fun c => ?_) (fun c => ?_)
        · have H := H.1 c
          refine x_iconst (zdm d_Zt_differences_0 39 rfl) (zIl rfl) ?_
          exact x_iret (zdm d_Zt_differences_0 40 rfl) rfl H
        · have H := H.2 c
          refine x_iload_n (zdm d_Zt_differences_0 28 rfl) rfl (n := 2) rfl ?_
          refine x_aload_n (zdm d_Zt_differences_0 29 rfl) rfl (n := 0) rfl ?_
          refine x_getG (zdm d_Zt_differences_0 30 rfl) f_Zt_50 rfl rfl (by decide) hsl rfl ?_
          refine x_getf (zdm d_Zt_differences_0 31 rfl) f_Zt_254 rfl rfl ?_
          refine x_icmpge (tgt := 77) (zdm d_Zt_differences_0 32 rfl) (by decide) (fun c => ?_) (fun c => ?_)
          · have H := H.1 c
            refine x_iconst (zdm d_Zt_differences_0 39 rfl) (zIl rfl) ?_
            exact x_iret (zdm d_Zt_differences_0 40 rfl) rfl H
          · have H := H.2 c
            refine x_aload_n (zdm d_Zt_differences_0 33 rfl) rfl (n := 0) rfl ?_
            refine x_getG (zdm d_Zt_differences_0 34 rfl) f_Zt_50 rfl rfl (by decide) hsl rfl ?_
            refine x_getG (zdm d_Zt_differences_0 35 rfl) f_Zt_257 rfl rfl (by decide) hsl rfl ?_
            refine x_iload_n (zdm d_Zt_differences_0 36 rfl) rfl (n := 2) rfl ?_
            obtain ⟨g8, H⟩ := H
            refine x_iald (zdm d_Zt_differences_0 37 rfl) rfl g8 ?_
            refine x_goto (tgt := 78) (zdm d_Zt_differences_0 38 rfl) (by decide) ?_
            exact x_iret (zdm d_Zt_differences_0 40 rfl) rfl H
      · have H := H.2 c
        refine x_aload_n (zdm d_Zt_differences_0 22 rfl) rfl (n := 0) rfl ?_
        refine x_getG (zdm d_Zt_differences_0 23 rfl) f_Zt_50 rfl rfl (by decide) hsl rfl ?_
        refine x_getf (zdm d_Zt_differences_0 24 rfl) f_Zt_254 rfl rfl ?_
        exact x_iret (zdm d_Zt_differences_0 25 rfl) rfl H
    · have H := H.2 c
      refine x_iconst (zdm d_Zt_differences_0 11 rfl) (zIl rfl) ?_
      exact x_iret (zdm d_Zt_differences_0 12 rfl) rfl H
set_option maxRecDepth 20000 in
set_option maxHeartbeats 4000000 in
theorem E_Zt_tells {G : zG} {h sl : Nat} (hsl : 1 ≤ sl) {l1 : Int} {M : zM} {Q : Int → zM → Prop} (H : zCt G h sl 0 0 y_Course_reach [(2, 8), (0, 429)] M (fun r1 M2 => zCt G h sl 0 0 y_Piece_listFits [(2, 63)] M2 (fun r3 M4 => zCt G h sl 0 0 y_Piece_weigh [(2, 63), (2, (M4 1 11))] M4 (fun r5 M6 => (¬ (M6 63 13) = 0 → (l1 = 0 → Q (M6 63 11) M6) ∧ (l1 = 1 → Q (M6 63 12) M6) ∧ (l1 = 2 → Q (M6 63 13) M6) ∧ ((l1 < 0 ∨ 2 < l1) → Q (-1) M6)) ∧ (¬ (¬ (M6 63 13) = 0) → Q (-1) M6))))) : zCt G (h + 1) sl 0 0 y_Zt_tells [(2, 1), (0, l1)] M Q := by
  refine zCt.of (by decide +kernel) (Nat.le_of_ble_eq_true rfl) ?_
  refine x_aload_n (zdm d_Zt_tells_0 0 rfl) rfl (n := 0) rfl ?_
  refine x_getG (zdm d_Zt_tells_0 1 rfl) f_Zt_31 rfl rfl (by decide) hsl rfl ?_
  refine x_sipush (zdm d_Zt_tells_0 2 rfl) (by decide) ?_
  refine x_callVv (n := 1) (ci := 2) (zdm d_Zt_tells_0 3 rfl) k_Zt_193 (As := [(0, 429)]) rfl rfl rfl ⟨_, _, rfl⟩ (Nat.le_of_ble_eq_true rfl) rfl H (fun r1 M2 hr H => ?_)
  refine x_aload_n (zdm d_Zt_tells_0 4 rfl) rfl (n := 0) rfl ?_
  refine x_getG (zdm d_Zt_tells_0 5 rfl) f_Zt_50 rfl rfl (by decide) hsl rfl ?_
  refine x_callVv (n := 0) (ci := 5) (zdm d_Zt_tells_0 6 rfl) k_Zt_241 (As := []) rfl rfl rfl ⟨_, _, rfl⟩ (Nat.le_of_ble_eq_true rfl) rfl H (fun r3 M4 hr H => ?_)
  refine x_aload_n (zdm d_Zt_tells_0 7 rfl) rfl (n := 0) rfl ?_
  refine x_getG (zdm d_Zt_tells_0 8 rfl) f_Zt_50 rfl rfl (by decide) hsl rfl ?_
  refine x_aload_n (zdm d_Zt_tells_0 9 rfl) rfl (n := 0) rfl ?_
  refine x_getf (zdm d_Zt_tells_0 10 rfl) f_Zt_82 rfl rfl ?_
  refine x_callVv (n := 1) (ci := 5) (zdm d_Zt_tells_0 11 rfl) k_Zt_260 (As := [(2, (M4 1 11))]) rfl rfl rfl ⟨_, _, rfl⟩ (Nat.le_of_ble_eq_true rfl) rfl H (fun r5 M6 hr H => ?_)
  refine x_aload_n (zdm d_Zt_tells_0 12 rfl) rfl (n := 0) rfl ?_
  refine x_getG (zdm d_Zt_tells_0 13 rfl) f_Zt_50 rfl rfl (by decide) hsl rfl ?_
  refine x_getf (zdm d_Zt_tells_0 14 rfl) f_Zt_264 rfl rfl ?_
  refine x_ifne (tgt := 40) (zdm d_Zt_tells_0 15 rfl) (by decide) (fun c => ?_) (fun c => ?_)
  · have H := H.1 c
    refine x_iload_n (zdm d_Zt_tells_0 18 rfl) rfl (n := 1) rfl ?_
    by_cases c0 : l1 = 0
    · refine x_tsw (tgt := 68) (zdm d_Zt_tells_0 19 rfl) c0 (by decide) rfl (by decide) ?_
      have H := H.1 c0
      refine x_aload_n (zdm d_Zt_tells_0 20 rfl) rfl (n := 0) rfl ?_
      refine x_getG (zdm d_Zt_tells_0 21 rfl) f_Zt_50 rfl rfl (by decide) hsl rfl ?_
      refine x_getf (zdm d_Zt_tells_0 22 rfl) f_Zt_267 rfl rfl ?_
      exact x_iret (zdm d_Zt_tells_0 23 rfl) rfl H
    · skip
      by_cases c1 : l1 = 1
      · refine x_tsw (tgt := 76) (zdm d_Zt_tells_0 19 rfl) c1 (by decide) rfl (by decide) ?_
        have H := H.2.1 c1
        refine x_aload_n (zdm d_Zt_tells_0 24 rfl) rfl (n := 0) rfl ?_
        refine x_getG (zdm d_Zt_tells_0 25 rfl) f_Zt_50 rfl rfl (by decide) hsl rfl ?_
        refine x_getf (zdm d_Zt_tells_0 26 rfl) f_Zt_270 rfl rfl ?_
        exact x_iret (zdm d_Zt_tells_0 27 rfl) rfl H
      · skip
        by_cases c2 : l1 = 2
        · refine x_tsw (tgt := 84) (zdm d_Zt_tells_0 19 rfl) c2 (by decide) rfl (by decide) ?_
          have H := H.2.2.1 c2
          refine x_aload_n (zdm d_Zt_tells_0 28 rfl) rfl (n := 0) rfl ?_
          refine x_getG (zdm d_Zt_tells_0 29 rfl) f_Zt_50 rfl rfl (by decide) hsl rfl ?_
          refine x_getf (zdm d_Zt_tells_0 30 rfl) f_Zt_264 rfl rfl ?_
          exact x_iret (zdm d_Zt_tells_0 31 rfl) rfl H
        · skip
          have cd : (l1 < 0 ∨ 2 < l1) := by omega
          refine x_tswd (tgt := 92) (zdm d_Zt_tells_0 19 rfl) cd (by decide) ?_
          have H := H.2.2.2 cd
          refine x_iconst (zdm d_Zt_tells_0 32 rfl) (zIl rfl) ?_
          exact x_iret (zdm d_Zt_tells_0 33 rfl) rfl H
  · have H := H.2 c
    refine x_iconst (zdm d_Zt_tells_0 16 rfl) (zIl rfl) ?_
    exact x_iret (zdm d_Zt_tells_0 17 rfl) rfl H
set_option maxRecDepth 20000 in
set_option maxHeartbeats 4000000 in
theorem B_Zt_write_48 {G : zG} {h sl : Nat} (hsl : 1 ≤ sl) {u : Nat × Nat × Nat × Nat} {l1 l2 l3 : Int} {M : zM} {Q : Int → zM → Prop} (H : (l1 ≤ l3 → zCt G h sl 0 0 y_Zt_settle [(2, 1)] M (fun r1 M2 => Q l2 M2)) ∧ (¬ l1 ≤ l3 → (zK (M 1 11) = (8, 0)) ∧ (zCt G h sl 0 0 y_Tablet_next [(2, (M 1 11)), (2, 4), (0, (-1)), (0, 0)] M (fun r3 M4 => zCt G h sl 0 0 y_Zt_keepIfMarked [(2, 1)] M4 (fun r6 M7 => (r6 = 0 → (zI (l3 + 1)) ∧ (zX G (y_Zt_write, h + 1, sl) u 48 [(0, (2, 1)), (1, (0, l1)), (2, (0, l2)), (3, (0, (l3 + 1)))] [] M7 Q)) ∧ (¬ r6 = 0 → (zI (l2 + 1)) ∧ ((zI (l3 + 1)) ∧ (zX G (y_Zt_write, h + 1, sl) u 48 [(0, (2, 1)), (1, (0, l1)), (2, (0, (l2 + 1))), (3, (0, (l3 + 1)))] [] M7 Q)))))))) : zX G (y_Zt_write, h + 1, sl) u 48 [(0, (2, 1)), (1, (0, l1)), (2, (0, l2)), (3, (0, l3))] [] M Q := by
  refine x_iload_n (zdm d_Zt_write_0 27 rfl) rfl (n := 3) rfl ?_
  refine x_iload_n (zdm d_Zt_write_0 28 rfl) rfl (n := 1) rfl ?_
  refine x_icmpge (tgt := 82) (zdm d_Zt_write_0 29 rfl) (by decide) (fun c => ?_) (fun c => ?_)
  · have H := H.1 c
    refine x_aload_n (zdm d_Zt_write_0 43 rfl) rfl (n := 0) rfl ?_
    refine x_callVv (n := 0) (ci := 10) (zdm d_Zt_write_0 44 rfl) k_Zt_283 (As := []) rfl rfl rfl ⟨_, _, rfl⟩ (Nat.le_of_ble_eq_true rfl) rfl H (fun r1 M2 hr H => ?_)
    refine x_iload_n (zdm d_Zt_write_0 45 rfl) rfl (n := 2) rfl ?_
    exact x_iret (zdm d_Zt_write_0 46 rfl) rfl H
  · have H := H.2 c
    refine x_aload_n (zdm d_Zt_write_0 30 rfl) rfl (n := 0) rfl ?_
    refine x_getf (zdm d_Zt_write_0 31 rfl) f_Zt_82 rfl rfl ?_
    refine x_aload_n (zdm d_Zt_write_0 32 rfl) rfl (n := 0) rfl ?_
    refine x_getG (zdm d_Zt_write_0 33 rfl) f_Zt_19 rfl rfl (by decide) hsl rfl ?_
    refine x_iconst (zdm d_Zt_write_0 34 rfl) (zIl rfl) ?_
    refine x_iconst (zdm d_Zt_write_0 35 rfl) (zIl rfl) ?_
    obtain ⟨g5, H⟩ := H
    refine x_callVv (n := 3) (ci := 8) (zdm d_Zt_write_0 36 rfl) k_Zt_276 (As := [(2, 4), (0, (-1)), (0, 0)]) rfl rfl g5 ⟨_, _, rfl⟩ (Nat.le_of_ble_eq_true rfl) rfl H (fun r3 M4 hr H => ?_)
    refine x_aload_n (zdm d_Zt_write_0 37 rfl) rfl (n := 0) rfl ?_
    refine x_callVi (n := 0) (ci := 10) (zdm d_Zt_write_0 38 rfl) k_Zt_279 (As := []) rfl rfl rfl ⟨_, _, rfl⟩ (Nat.le_of_ble_eq_true rfl) trivial H (fun r6 M7 hr H => ?_)
    have b8 : r6 = 0 ∨ r6 = 1 := hr
    refine x_ifeq (tgt := 76) (zdm d_Zt_write_0 39 rfl) (by decide) (fun c => ?_) (fun c => ?_)
    · have H := H.1 c
      obtain ⟨g9, H⟩ := H
      refine x_iinc (zdm d_Zt_write_0 41 rfl) (n := 3) rfl g9 (zlt rfl) rfl ?_
      refine x_goto (tgt := 48) (zdm d_Zt_write_0 42 rfl) (by decide) ?_
      exact zX.sub [1, 2, 3, 0] rfl H
    · have H := H.2 c
      obtain ⟨g10, H⟩ := H
      refine x_iinc (zdm d_Zt_write_0 40 rfl) (n := 2) rfl g10 (zlt rfl) rfl ?_
      obtain ⟨g11, H⟩ := H
      refine x_iinc (zdm d_Zt_write_0 41 rfl) (n := 3) rfl g11 (zlt rfl) rfl ?_
      refine x_goto (tgt := 48) (zdm d_Zt_write_0 42 rfl) (by decide) ?_
      exact zX.sub [2, 3, 1, 0] rfl H
set_option maxRecDepth 20000 in
set_option maxHeartbeats 4000000 in
theorem E_Zt_write {G : zG} {h sl : Nat} (hsl : 1 ≤ sl) {l1 : Int} {M : zM} {Q : Int → zM → Prop} (H : zCt G h sl 0 0 y_Zt_isAhead [(2, 1), (0, l1), (0, 1), (0, 100)] M (fun r1 M2 => (¬ r1 = 0 → zCt G h sl 0 0 y_History_remember [(2, 18), (2, 4)] M2 (fun r4 M5 => (zI ((M5 4 1) + l1)) ∧ (zCt G h sl 0 0 y_Course_reach [(2, 8), (0, ((M5 4 1) + l1))] M5 (fun r7 M8 => zX G (y_Zt_write, h + 1, sl) (0, 0, 0, 0) 48 [(0, (2, 1)), (1, (0, l1)), (2, (0, 0)), (3, (0, 0))] [] M8 Q)))) ∧ (¬ (¬ r1 = 0) → zCt G h sl 0 0 y_Zt_none [(2, 1), (0, 3)] M2 (fun r9 M10 => Q r9 M10)))) : zCt G (h + 1) sl 0 0 y_Zt_write [(2, 1), (0, l1)] M Q := by
  refine zCt.of (by decide +kernel) (Nat.le_of_ble_eq_true rfl) ?_
  refine x_aload_n (zdm d_Zt_write_0 0 rfl) rfl (n := 0) rfl ?_
  refine x_iload_n (zdm d_Zt_write_0 1 rfl) rfl (n := 1) rfl ?_
  refine x_iconst (zdm d_Zt_write_0 2 rfl) (zIl rfl) ?_
  refine x_bipush (zdm d_Zt_write_0 3 rfl) (by decide) ?_
  refine x_callVi (n := 3) (ci := 10) (zdm d_Zt_write_0 4 rfl) k_Zt_189 (As := [(0, l1), (0, 1), (0, 100)]) rfl rfl rfl ⟨_, _, rfl⟩ (Nat.le_of_ble_eq_true rfl) trivial H (fun r1 M2 hr H => ?_)
  have b3 : r1 = 0 ∨ r1 = 1 := hr
  refine x_ifne (tgt := 17) (zdm d_Zt_write_0 5 rfl) (by decide) (fun c => ?_) (fun c => ?_)
  · have H := H.1 c
    refine x_aload_n (zdm d_Zt_write_0 10 rfl) rfl (n := 0) rfl ?_
    refine x_getG (zdm d_Zt_write_0 11 rfl) f_Zt_41 rfl rfl (by decide) hsl rfl ?_
    refine x_aload_n (zdm d_Zt_write_0 12 rfl) rfl (n := 0) rfl ?_
    refine x_getG (zdm d_Zt_write_0 13 rfl) f_Zt_19 rfl rfl (by decide) hsl rfl ?_
    refine x_callVv (n := 1) (ci := 3) (zdm d_Zt_write_0 14 rfl) k_Zt_273 (As := [(2, 4)]) rfl rfl rfl ⟨_, _, rfl⟩ (Nat.le_of_ble_eq_true rfl) rfl H (fun r4 M5 hr H => ?_)
    refine x_aload_n (zdm d_Zt_write_0 15 rfl) rfl (n := 0) rfl ?_
    refine x_getG (zdm d_Zt_write_0 16 rfl) f_Zt_31 rfl rfl (by decide) hsl rfl ?_
    refine x_aload_n (zdm d_Zt_write_0 17 rfl) rfl (n := 0) rfl ?_
    refine x_getG (zdm d_Zt_write_0 18 rfl) f_Zt_19 rfl rfl (by decide) hsl rfl ?_
    refine x_getf (zdm d_Zt_write_0 19 rfl) f_Zt_130 rfl rfl ?_
    refine x_iload_n (zdm d_Zt_write_0 20 rfl) rfl (n := 1) rfl ?_
    obtain ⟨g6, H⟩ := H
    refine x_iadd (zdm d_Zt_write_0 21 rfl) g6 ?_
    refine x_callVv (n := 1) (ci := 2) (zdm d_Zt_write_0 22 rfl) k_Zt_193 (As := [(0, ((M5 4 1) + l1))]) rfl rfl rfl ⟨_, _, rfl⟩ (Nat.le_of_ble_eq_true rfl) rfl H (fun r7 M8 hr H => ?_)
    refine x_iconst (zdm d_Zt_write_0 23 rfl) (zIl rfl) ?_
    refine x_istore_n (zdm d_Zt_write_0 24 rfl) rfl (zlt rfl) rfl ?_
    refine x_iconst (zdm d_Zt_write_0 25 rfl) (zIl rfl) ?_
    refine x_istore_n (zdm d_Zt_write_0 26 rfl) rfl (zlt rfl) rfl ?_
    exact zX.sub [2, 3, 1, 0] rfl H
  · have H := H.2 c
    refine x_aload_n (zdm d_Zt_write_0 6 rfl) rfl (n := 0) rfl ?_
    refine x_iconst (zdm d_Zt_write_0 7 rfl) (zIl rfl) ?_
    refine x_callVi (n := 1) (ci := 10) (zdm d_Zt_write_0 8 rfl) k_Zt_103 (As := [(0, 3)]) rfl rfl rfl ⟨_, _, rfl⟩ (Nat.le_of_ble_eq_true rfl) trivial H (fun r9 M10 hr H => ?_)
    exact x_iret (zdm d_Zt_write_0 9 rfl) rfl H
set_option maxRecDepth 20000 in
set_option maxHeartbeats 4000000 in
theorem B_Zt_put_52 {G : zG} {h sl : Nat} (hsl : 1 ≤ sl) {u : Nat × Nat × Nat × Nat} {M : zM} {Q : Int → zM → Prop} (H : zCt G h sl 0 0 y_Zt_refused [(2, 1), (0, 2)] M (fun r1 M2 => Q r1 M2)) : zX G (y_Zt_put, h + 1, sl) u 52 [(0, (2, 1))] [] M Q := by
  refine x_aload_n (zdm d_Zt_put_0 26 rfl) rfl (n := 0) rfl ?_
  refine x_iconst (zdm d_Zt_put_0 27 rfl) (zIl rfl) ?_
  refine x_callVi (n := 1) (ci := 10) (zdm d_Zt_put_0 28 rfl) k_Zt_110 (As := [(0, 2)]) rfl rfl rfl ⟨_, _, rfl⟩ (Nat.le_of_ble_eq_true rfl) trivial H (fun r1 M2 hr H => ?_)
  have b3 : r1 = 0 ∨ r1 = 1 := hr
  exact x_ireturn (zdm d_Zt_put_0 29 rfl) (ty := .boolean) rfl (by decide) b3 H
set_option maxRecDepth 20000 in
set_option maxHeartbeats 4000000 in
theorem E_Zt_put {G : zG} {h sl : Nat} (hsl : 1 ≤ sl) {l1 l2 : Int} {M : zM} {Q : Int → zM → Prop} (H : zCt G h sl 0 0 y_Zt_isColumn [(2, 1), (0, l1)] M (fun r1 M2 => (r1 = 0 → zX G (y_Zt_put, h + 1, sl) (0, 0, 0, 0) 52 [(0, (2, 1))] [] M2 Q) ∧ (¬ r1 = 0 → (zK (M2 1 11) = (8, 0)) ∧ ((0 ≤ l1 ∧ l1 < 8) ∧ (zCt G h sl 0 0 y_Column_moves [(2, ((M2 1 11) + 7 + 2 * l1))] M2 (fun r6 M7 => (r6 = 0 → zX G (y_Zt_put, h + 1, sl) (0, 0, 0, 0) 52 [(0, (2, 1))] [] M7 Q) ∧ (¬ r6 = 0 → (zK (M7 1 11) = (8, 0)) ∧ (zCt G h sl 0 0 y_Column_canTell [(2, ((M7 1 11) + 7 + 2 * l1)), (0, l2)] M7 (fun r10 M11 => (r10 = 0 → zX G (y_Zt_put, h + 1, sl) (0, 0, 0, 0) 52 [(0, (2, 1))] [] M11 Q) ∧ (¬ r10 = 0 → (¬ (M11 5 l1) = l2 → zCt G h sl 0 0 y_History_remember [(2, 18), (2, 4)] M11 (fun r13 M14 => zCt G h sl 0 0 y_Zt_settle [(2, 1)] (zwr M14 5 l1 l2) (fun r15 M16 => Q 1 M16))) ∧ (¬ (¬ (M11 5 l1) = l2) → zX G (y_Zt_put, h + 1, sl) (0, 0, 0, 0) 52 [(0, (2, 1))] [] M11 Q))))))))))) : zCt G (h + 1) sl 0 0 y_Zt_put [(2, 1), (0, l1), (0, l2)] M Q := by
  refine zCt.of (by decide +kernel) (Nat.le_of_ble_eq_true rfl) ?_
  refine x_aload_n (zdm d_Zt_put_0 0 rfl) rfl (n := 0) rfl ?_
  refine x_iload_n (zdm d_Zt_put_0 1 rfl) rfl (n := 1) rfl ?_
  refine x_callVi (n := 1) (ci := 10) (zdm d_Zt_put_0 2 rfl) k_Zt_150 (As := [(0, l1)]) rfl rfl rfl ⟨_, _, rfl⟩ (Nat.le_of_ble_eq_true rfl) trivial H (fun r1 M2 hr H => ?_)
  have b3 : r1 = 0 ∨ r1 = 1 := hr
  refine x_ifeq (tgt := 52) (zdm d_Zt_put_0 3 rfl) (by decide) (fun c => ?_) (fun c => ?_)
  · have H := H.1 c
    exact zX.sub [0] rfl H
  · have H := H.2 c
    refine x_aload_n (zdm d_Zt_put_0 4 rfl) rfl (n := 0) rfl ?_
    refine x_getf (zdm d_Zt_put_0 5 rfl) f_Zt_82 rfl rfl ?_
    obtain ⟨g4, H⟩ := H
    refine x_getG (zdm d_Zt_put_0 6 rfl) f_Zt_153 g4 rfl (by decide) hsl (zs_8 g4).1.1 ?_
    refine x_iload_n (zdm d_Zt_put_0 7 rfl) rfl (n := 1) rfl ?_
    obtain ⟨g5, H⟩ := H
    refine x_aald5G (zdm d_Zt_put_0 8 rfl) (zs_8 g4).1.2 g5 hsl (zs_cols g4 g5.1 g5.2).1 ?_
    refine x_callVi (n := 0) (ci := 1) (zdm d_Zt_put_0 9 rfl) k_Zt_286 (As := []) rfl rfl (zs_cols g4 g5.1 g5.2).2 ⟨_, _, rfl⟩ (Nat.le_of_ble_eq_true rfl) trivial H (fun r6 M7 hr H => ?_)
    have b8 : r6 = 0 ∨ r6 = 1 := hr
    refine x_ifeq (tgt := 52) (zdm d_Zt_put_0 10 rfl) (by decide) (fun c => ?_) (fun c => ?_)
    · have H := H.1 c
      exact zX.sub [0] rfl H
    · have H := H.2 c
      refine x_aload_n (zdm d_Zt_put_0 11 rfl) rfl (n := 0) rfl ?_
      refine x_getf (zdm d_Zt_put_0 12 rfl) f_Zt_82 rfl rfl ?_
      obtain ⟨g9, H⟩ := H
      refine x_getG (zdm d_Zt_put_0 13 rfl) f_Zt_153 g9 rfl (by decide) hsl (zs_8 g9).1.1 ?_
      refine x_iload_n (zdm d_Zt_put_0 14 rfl) rfl (n := 1) rfl ?_
      refine x_aald5G (zdm d_Zt_put_0 15 rfl) (zs_8 g9).1.2 g5 hsl (zs_cols g9 g5.1 g5.2).1 ?_
      refine x_iload_n (zdm d_Zt_put_0 16 rfl) rfl (n := 2) rfl ?_
      refine x_callVi (n := 1) (ci := 1) (zdm d_Zt_put_0 17 rfl) k_Zt_289 (As := [(0, l2)]) rfl rfl (zs_cols g9 g5.1 g5.2).2 ⟨_, _, rfl⟩ (Nat.le_of_ble_eq_true rfl) trivial H (fun r10 M11 hr H => ?_)
      have b12 : r10 = 0 ∨ r10 = 1 := hr
      refine x_ifeq (tgt := 52) (zdm d_Zt_put_0 18 rfl) (by decide) (fun c => ?_) (fun c => ?_)
      · have H := H.1 c
        exact zX.sub [0] rfl H
      · have H := H.2 c
        refine x_aload_n (zdm d_Zt_put_0 19 rfl) rfl (n := 0) rfl ?_
        refine x_getG (zdm d_Zt_put_0 20 rfl) f_Zt_19 rfl rfl (by decide) hsl rfl ?_
        refine x_getG (zdm d_Zt_put_0 21 rfl) f_Zt_176 rfl rfl (by decide) hsl rfl ?_
        refine x_iload_n (zdm d_Zt_put_0 22 rfl) rfl (n := 1) rfl ?_
        refine x_iald (zdm d_Zt_put_0 23 rfl) rfl g5 ?_
        refine x_iload_n (zdm d_Zt_put_0 24 rfl) rfl (n := 2) rfl ?_
        refine x_icmpne (tgt := 58) (zdm d_Zt_put_0 25 rfl) (by decide) (fun c => ?_) (fun c => ?_)
        · have H := H.1 c
          refine x_aload_n (zdm d_Zt_put_0 30 rfl) rfl (n := 0) rfl ?_
          refine x_getG (zdm d_Zt_put_0 31 rfl) f_Zt_41 rfl rfl (by decide) hsl rfl ?_
          refine x_aload_n (zdm d_Zt_put_0 32 rfl) rfl (n := 0) rfl ?_
          refine x_getG (zdm d_Zt_put_0 33 rfl) f_Zt_19 rfl rfl (by decide) hsl rfl ?_
          refine x_callVv (n := 1) (ci := 3) (zdm d_Zt_put_0 34 rfl) k_Zt_273 (As := [(2, 4)]) rfl rfl rfl ⟨_, _, rfl⟩ (Nat.le_of_ble_eq_true rfl) rfl H (fun r13 M14 hr H => ?_)
          refine x_aload_n (zdm d_Zt_put_0 35 rfl) rfl (n := 0) rfl ?_
          refine x_getG (zdm d_Zt_put_0 36 rfl) f_Zt_19 rfl rfl (by decide) hsl rfl ?_
          refine x_getG (zdm d_Zt_put_0 37 rfl) f_Zt_176 rfl rfl (by decide) hsl rfl ?_
          refine x_iload_n (zdm d_Zt_put_0 38 rfl) rfl (n := 1) rfl ?_
          refine x_iload_n (zdm d_Zt_put_0 39 rfl) rfl (n := 2) rfl ?_
          refine x_iast (zdm d_Zt_put_0 40 rfl) rfl g5 ?_
          refine x_aload_n (zdm d_Zt_put_0 41 rfl) rfl (n := 0) rfl ?_
          refine x_callVv (n := 0) (ci := 10) (zdm d_Zt_put_0 42 rfl) k_Zt_283 (As := []) rfl rfl rfl ⟨_, _, rfl⟩ (Nat.le_of_ble_eq_true rfl) rfl H (fun r15 M16 hr H => ?_)
          refine x_iconst (zdm d_Zt_put_0 43 rfl) (zIl rfl) ?_
          exact x_ireturn (zdm d_Zt_put_0 44 rfl) (ty := .boolean) rfl (by decide) (Or.inr rfl) H
        · have H := H.2 c
          exact zX.sub [0] rfl H
