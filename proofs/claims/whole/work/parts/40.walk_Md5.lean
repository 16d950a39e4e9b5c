set_option maxRecDepth 20000 in
set_option maxHeartbeats 4000000 in
theorem B_Md_qSums_53 {G : zG} {h sl : Nat} (hsl : 2 ≤ sl) {u : Nat × Nat × Nat × Nat} {l1 : Int} {M : zM} {Q : Int → zM → Prop} (H : (¬ (M 125 5) = 0 → Q 0 (zwr M 125 94 l1)) ∧ (¬ (¬ (M 125 5) = 0) → ((M 125 92) ≤ (M 125 94) → Q 0 (zwr M 125 94 l1)) ∧ (¬ (M 125 92) ≤ (M 125 94) → zCt G h sl 0 0 y_Md_qDrops [(2, 125)] M (fun r1 M2 => zX G (y_Md_qSums, h + 1, sl) u 53 [(0, (2, 125)), (1, (0, l1))] [] M2 Q)))) : zX G (y_Md_qSums, h + 1, sl) u 53 [(0, (2, 125)), (1, (0, l1))] [] M Q := by
  refine x_aload_n (zdm d_Md_qSums_0 27 rfl) rfl (n := 0) rfl ?_
  refine x_getf (zdm d_Md_qSums_0 28 rfl) f_Md_237 rfl rfl ?_
  refine x_ifne (tgt := 78) (zdm d_Md_qSums_0 29 rfl) (by decide) (fun c => ?_) (fun c => ?_)
  · have H := H.1 c
    refine x_aload_n (zdm d_Md_qSums_0 38 rfl) rfl (n := 0) rfl ?_
    refine x_iload_n (zdm d_Md_qSums_0 39 rfl) rfl (n := 1) rfl ?_
    refine x_putf (zdm d_Md_qSums_0 40 rfl) f_Md_325 rfl ⟨rfl, trivial⟩ (Or.inl rfl) ?_
    exact x_return (zdm d_Md_qSums_0 41 rfl) rfl H
  · have H := H.2 c
    refine x_aload_n (zdm d_Md_qSums_0 30 rfl) rfl (n := 0) rfl ?_
    refine x_getf (zdm d_Md_qSums_0 31 rfl) f_Md_319 rfl rfl ?_
    refine x_aload_n (zdm d_Md_qSums_0 32 rfl) rfl (n := 0) rfl ?_
    refine x_getf (zdm d_Md_qSums_0 33 rfl) f_Md_325 rfl rfl ?_
    refine x_icmple (tgt := 78) (zdm d_Md_qSums_0 34 rfl) (by decide) (fun c => ?_) (fun c => ?_)
    · have H := H.1 c
      refine x_aload_n (zdm d_Md_qSums_0 38 rfl) rfl (n := 0) rfl ?_
      refine x_iload_n (zdm d_Md_qSums_0 39 rfl) rfl (n := 1) rfl ?_
      refine x_putf (zdm d_Md_qSums_0 40 rfl) f_Md_325 rfl ⟨rfl, trivial⟩ (Or.inl rfl) ?_
      exact x_return (zdm d_Md_qSums_0 41 rfl) rfl H
    · have H := H.2 c
      refine x_aload_n (zdm d_Md_qSums_0 35 rfl) rfl (n := 0) rfl ?_
      refine x_callVv (n := 0) (ci := 11) (zdm d_Md_qSums_0 36 rfl) k_Md_554 (As := []) rfl rfl rfl ⟨_, _, rfl⟩ (Nat.le_of_ble_eq_true rfl) rfl H (fun r1 M2 hr H => ?_)
      refine x_goto (tgt := 53) (zdm d_Md_qSums_0 37 rfl) (by decide) ?_
      exact H
set_option maxRecDepth 20000 in
set_option maxHeartbeats 4000000 in
theorem B_Md_qSums_15 {G : zG} {h sl : Nat} (hsl : 2 ≤ sl) {u : Nat × Nat × Nat × Nat} {l1 l2 : Int} {M : zM} {Q : Int → zM → Prop} (H : (l2 = 0 → zX G (y_Md_qSums, h + 1, sl) u 53 [(0, (2, 125)), (1, (0, l1))] [] M Q) ∧ (¬ l2 = 0 → (¬ (M 125 5) = 0 → zX G (y_Md_qSums, h + 1, sl) u 53 [(0, (2, 125)), (1, (0, l1))] [] M Q) ∧ (¬ (¬ (M 125 5) = 0) → zCt G h sl 0 0 y_Md_qPartTold [(2, 125)] M (fun r1 M2 => (¬ (M2 125 5) = 0 → zX G (y_Md_qSums, h + 1, sl) u 15 [(0, (2, 125)), (1, (0, l1)), (2, (0, 0))] [] M2 Q) ∧ (¬ (¬ (M2 125 5) = 0) → zCt G h sl 0 0 y_Md_qGoesOn [(2, 125)] M2 (fun r3 M4 => (r3 = 0 → zX G (y_Md_qSums, h + 1, sl) u 15 [(0, (2, 125)), (1, (0, l1)), (2, (0, 0))] [] M4 Q) ∧ (¬ r3 = 0 → zX G (y_Md_qSums, h + 1, sl) u 15 [(0, (2, 125)), (1, (0, l1)), (2, (0, 1))] [] M4 Q))))))) : zX G (y_Md_qSums, h + 1, sl) u 15 [(0, (2, 125)), (1, (0, l1)), (2, (0, l2))] [] M Q := by
  refine x_iload_n (zdm d_Md_qSums_0 9 rfl) rfl (n := 2) rfl ?_
  refine x_ifeq (tgt := 53) (zdm d_Md_qSums_0 10 rfl) (by decide) (fun c => ?_) (fun c => ?_)
  · have H := H.1 c
    exact zX.sub [0, 1] rfl H
  · have H := H.2 c
    refine x_aload_n (zdm d_Md_qSums_0 11 rfl) rfl (n := 0) rfl ?_
    refine x_getf (zdm d_Md_qSums_0 12 rfl) f_Md_237 rfl rfl ?_
    refine x_ifne (tgt := 53) (zdm d_Md_qSums_0 13 rfl) (by decide) (fun c => ?_) (fun c => ?_)
    · have H := H.1 c
      exact zX.sub [0, 1] rfl H
    · have H := H.2 c
      refine x_aload_n (zdm d_Md_qSums_0 14 rfl) rfl (n := 0) rfl ?_
      refine x_callVv (n := 0) (ci := 11) (zdm d_Md_qSums_0 15 rfl) k_Md_587 (As := []) rfl rfl rfl ⟨_, _, rfl⟩ (Nat.le_of_ble_eq_true rfl) rfl H (fun r1 M2 hr H => ?_)
      refine x_aload_n (zdm d_Md_qSums_0 16 rfl) rfl (n := 0) rfl ?_
      refine x_getf (zdm d_Md_qSums_0 17 rfl) f_Md_237 rfl rfl ?_
      refine x_ifne (tgt := 48) (zdm d_Md_qSums_0 18 rfl) (by decide) (fun c => ?_) (fun c => ?_)
      · have H := H.1 c
        refine x_iconst (zdm d_Md_qSums_0 24 rfl) (zIl rfl) ?_
        refine x_istore_n (zdm d_Md_qSums_0 25 rfl) rfl (zlt rfl) rfl ?_
        refine x_goto (tgt := 15) (zdm d_Md_qSums_0 26 rfl) (by decide) ?_
        exact zX.sub [1, 2, 0] rfl H
      · have H := H.2 c
        refine x_aload_n (zdm d_Md_qSums_0 19 rfl) rfl (n := 0) rfl ?_
        refine x_callVi (n := 0) (ci := 11) (zdm d_Md_qSums_0 20 rfl) k_Md_590 (As := []) rfl rfl rfl ⟨_, _, rfl⟩ (Nat.le_of_ble_eq_true rfl) trivial H (fun r3 M4 hr H => ?_)
        have b5 : r3 = 0 ∨ r3 = 1 := hr
        refine x_ifeq (tgt := 48) (zdm d_Md_qSums_0 21 rfl) (by decide) (fun c => ?_) (fun c => ?_)
        · have H := H.1 c
          refine x_iconst (zdm d_Md_qSums_0 24 rfl) (zIl rfl) ?_
          refine x_istore_n (zdm d_Md_qSums_0 25 rfl) rfl (zlt rfl) rfl ?_
          refine x_goto (tgt := 15) (zdm d_Md_qSums_0 26 rfl) (by decide) ?_
          exact zX.sub [1, 2, 0] rfl H
        · have H := H.2 c
          refine x_iconst (zdm d_Md_qSums_0 22 rfl) (zIl rfl) ?_
          refine x_goto (tgt := 49) (zdm d_Md_qSums_0 23 rfl) (by decide) ?_
          refine x_istore_n (zdm d_Md_qSums_0 25 rfl) rfl (zlt rfl) rfl ?_
          refine x_goto (tgt := 15) (zdm d_Md_qSums_0 26 rfl) (by decide) ?_
          exact zX.sub [1, 2, 0] rfl H
set_option maxRecDepth 20000 in
set_option maxHeartbeats 4000000 in
theorem E_Md_qSums {G : zG} {h sl : Nat} (hsl : 2 ≤ sl) {M : zM} {Q : Int → zM → Prop} (H : zX G (y_Md_qSums, h + 1, sl) (0, 0, 0, 0) 15 [(0, (2, 125)), (1, (0, (M 125 94))), (2, (0, 1))] [] (zwr M 125 94 (M 125 92)) Q) : zCt G (h + 1) sl 0 0 y_Md_qSums [(2, 125)] M Q := by
  refine zCt.of (by decide +kernel) (Nat.le_of_ble_eq_true rfl) ?_
  refine x_aload_n (zdm d_Md_qSums_0 0 rfl) rfl (n := 0) rfl ?_
  refine x_getf (zdm d_Md_qSums_0 1 rfl) f_Md_325 rfl rfl ?_
  refine x_istore_n (zdm d_Md_qSums_0 2 rfl) rfl (zlt rfl) rfl ?_
  refine x_aload_n (zdm d_Md_qSums_0 3 rfl) rfl (n := 1) rfl ?_
  refine x_aload_n (zdm d_Md_qSums_0 4 rfl) rfl (n := 1) rfl ?_
  refine x_getf (zdm d_Md_qSums_0 5 rfl) f_Md_319 rfl rfl ?_
  refine x_putf (zdm d_Md_qSums_0 6 rfl) f_Md_325 rfl ⟨rfl, trivial⟩ (Or.inl rfl) ?_
  refine x_iconst (zdm d_Md_qSums_0 7 rfl) (zIl rfl) ?_
  refine x_istore_n (zdm d_Md_qSums_0 8 rfl) rfl (zlt rfl) rfl ?_
  exact zX.sub [2, 1, 0] rfl H
set_option maxRecDepth 20000 in
set_option maxHeartbeats 4000000 in
theorem B_Md_qFact_63 {G : zG} {h sl : Nat} (hsl : 2 ≤ sl) {u : Nat × Nat × Nat × Nat} {l1 : Int} {M : zM} {Q : Int → zM → Prop} (H : (zI ((M 125 2) + 1)) ∧ (zCt G h sl 0 0 y_Md_qSums [(2, 125)] (zwr M 125 2 ((M 125 2) + 1)) (fun r2 M3 => (¬ l1 = 60 → (¬ l1 = 62 → zCt G h sl 0 0 y_Md_qCode [(2, 125), (0, 9)] M3 (fun r4 M5 => Q 0 M5)) ∧ (¬ (¬ l1 = 62) → zCt G h sl 0 0 y_Md_qCode [(2, 125), (0, 8)] M3 (fun r6 M7 => Q 0 M7))) ∧ (¬ (¬ l1 = 60) → zCt G h sl 0 0 y_Md_qCode [(2, 125), (0, 7)] M3 (fun r8 M9 => Q 0 M9))))) : zX G (y_Md_qFact, h + 1, sl) u 63 [(0, (2, 125)), (1, (0, l1))] [] M Q := by
  refine x_aload_n (zdm d_Md_qFact_0 33 rfl) rfl (n := 0) rfl ?_
  refine x_dup (zdm d_Md_qFact_0 34 rfl) z2n1 ?_
  refine x_getf (zdm d_Md_qFact_0 35 rfl) f_Md_243 rfl rfl ?_
  refine x_iconst (zdm d_Md_qFact_0 36 rfl) (zIl rfl) ?_
  obtain ⟨g1, H⟩ := H
  refine x_iadd (zdm d_Md_qFact_0 37 rfl) g1 ?_
  refine x_putf (zdm d_Md_qFact_0 38 rfl) f_Md_243 rfl ⟨rfl, trivial⟩ (Or.inl rfl) ?_
  refine x_aload_n (zdm d_Md_qFact_0 39 rfl) rfl (n := 0) rfl ?_
  refine x_callVv (n := 0) (ci := 11) (zdm d_Md_qFact_0 40 rfl) k_Md_331 (As := []) rfl rfl rfl ⟨_, _, rfl⟩ (Nat.le_of_ble_eq_true rfl) rfl H (fun r2 M3 hr H => ?_)
  refine x_aload_n (zdm d_Md_qFact_0 41 rfl) rfl (n := 0) rfl ?_
  refine x_iload_n (zdm d_Md_qFact_0 42 rfl) rfl (n := 1) rfl ?_
  refine x_bipush (zdm d_Md_qFact_0 43 rfl) (by decide) ?_
  refine x_icmpne (tgt := 89) (zdm d_Md_qFact_0 44 rfl) (by decide) (fun c => ?_) (fun c => ?_)
  · have H := H.1 c
    refine x_iload_n (zdm d_Md_qFact_0 47 rfl) rfl (n := 1) rfl ?_
    refine x_bipush (zdm d_Md_qFact_0 48 rfl) (by decide) ?_
    refine x_icmpne (tgt := 100) (zdm d_Md_qFact_0 49 rfl) (by decide) (fun c => ?_) (fun c => ?_)
    · have H := H.1 c
      refine x_bipush (zdm d_Md_qFact_0 52 rfl) (by decide) ?_
      refine x_callVv (n := 1) (ci := 11) (zdm d_Md_qFact_0 53 rfl) k_Md_548 (As := [(0, 9)]) rfl rfl rfl ⟨_, _, rfl⟩ (Nat.le_of_ble_eq_true rfl) rfl H (fun r4 M5 hr H => ?_)
      exact x_return (zdm d_Md_qFact_0 54 rfl) rfl H
    · have H := H.2 c
      refine x_bipush (zdm d_Md_qFact_0 50 rfl) (by decide) ?_
      refine x_goto (tgt := 102) (zdm d_Md_qFact_0 51 rfl) (by decide) ?_
      refine x_callVv (n := 1) (ci := 11) (zdm d_Md_qFact_0 53 rfl) k_Md_548 (As := [(0, 8)]) rfl rfl rfl ⟨_, _, rfl⟩ (Nat.le_of_ble_eq_true rfl) rfl H (fun r6 M7 hr H => ?_)
      exact x_return (zdm d_Md_qFact_0 54 rfl) rfl H
  · have H := H.2 c
    refine x_bipush (zdm d_Md_qFact_0 45 rfl) (by decide) ?_
    refine x_goto (tgt := 102) (zdm d_Md_qFact_0 46 rfl) (by decide) ?_
    refine x_callVv (n := 1) (ci := 11) (zdm d_Md_qFact_0 53 rfl) k_Md_548 (As := [(0, 7)]) rfl rfl rfl ⟨_, _, rfl⟩ (Nat.le_of_ble_eq_true rfl) rfl H (fun r8 M9 hr H => ?_)
    exact x_return (zdm d_Md_qFact_0 54 rfl) rfl H
set_option maxRecDepth 20000 in
set_option maxHeartbeats 4000000 in
theorem E_Md_qFact {G : zG} {h sl : Nat} (hsl : 2 ≤ sl) {M : zM} {Q : Int → zM → Prop} (H : zCt G h sl 0 0 y_Md_takes [(2, 125), (2, 182)] M (fun r1 M2 => (r1 = 0 → zCt G h sl 0 0 y_Md_qSums [(2, 125)] M2 (fun r4 M5 => ((M5 125 5) = 0 → zCt G h sl 0 0 y_Md_look [(2, 125)] M5 (fun r6 M7 => (r6 = 60 → zX G (y_Md_qFact, h + 1, sl) (0, 0, 0, 0) 63 [(0, (2, 125)), (1, (0, r6))] [] M7 Q) ∧ (¬ r6 = 60 → (r6 = 62 → zX G (y_Md_qFact, h + 1, sl) (0, 0, 0, 0) 63 [(0, (2, 125)), (1, (0, r6))] [] M7 Q) ∧ (¬ r6 = 62 → (r6 = 61 → zX G (y_Md_qFact, h + 1, sl) (0, 0, 0, 0) 63 [(0, (2, 125)), (1, (0, r6))] [] M7 Q) ∧ (¬ r6 = 61 → zCt G h sl 0 0 y_Md_fail [(2, 125), (0, 1), (0, (M7 125 2))] M7 (fun r8 M9 => Q 0 M9)))))) ∧ (¬ (M5 125 5) = 0 → Q 0 M5))) ∧ (¬ r1 = 0 → zCt G h sl 0 0 y_Md_qCode [(2, 125), (0, 13)] M2 (fun r10 M11 => Q 0 M11)))) : zCt G (h + 1) sl 0 0 y_Md_qFact [(2, 125)] M Q := by
  refine zCt.of (by decide +kernel) (Nat.le_of_ble_eq_true rfl) ?_
  refine x_aload_n (zdm d_Md_qFact_0 0 rfl) rfl (n := 0) rfl ?_
  refine x_aload_n (zdm d_Md_qFact_0 1 rfl) rfl (n := 0) rfl ?_
  refine x_getG (zdm d_Md_qFact_0 2 rfl) f_Md_189 rfl rfl (by decide) hsl rfl ?_
  refine x_callVi (n := 1) (ci := 11) (zdm d_Md_qFact_0 3 rfl) k_Md_264 (As := [(2, 182)]) rfl rfl rfl ⟨_, _, rfl⟩ (Nat.le_of_ble_eq_true rfl) trivial H (fun r1 M2 hr H => ?_)
  have b3 : r1 = 0 ∨ r1 = 1 := hr
  refine x_ifeq (tgt := 18) (zdm d_Md_qFact_0 4 rfl) (by decide) (fun c => ?_) (fun c => ?_)
  · have H := H.1 c
    refine x_aload_n (zdm d_Md_qFact_0 9 rfl) rfl (n := 0) rfl ?_
    refine x_callVv (n := 0) (ci := 11) (zdm d_Md_qFact_0 10 rfl) k_Md_331 (As := []) rfl rfl rfl ⟨_, _, rfl⟩ (Nat.le_of_ble_eq_true rfl) rfl H (fun r4 M5 hr H => ?_)
    refine x_aload_n (zdm d_Md_qFact_0 11 rfl) rfl (n := 0) rfl ?_
    refine x_getf (zdm d_Md_qFact_0 12 rfl) f_Md_237 rfl rfl ?_
    refine x_ifeq (tgt := 30) (zdm d_Md_qFact_0 13 rfl) (by decide) (fun c => ?_) (fun c => ?_)
    · have H := H.1 c
      refine x_aload_n (zdm d_Md_qFact_0 15 rfl) rfl (n := 0) rfl ?_
      refine x_callVi (n := 0) (ci := 11) (zdm d_Md_qFact_0 16 rfl) k_Md_249 (As := []) rfl rfl rfl ⟨_, _, rfl⟩ (Nat.le_of_ble_eq_true rfl) trivial H (fun r6 M7 hr H => ?_)
      refine x_istore_n (zdm d_Md_qFact_0 17 rfl) rfl (zlt rfl) rfl ?_
      refine x_iload_n (zdm d_Md_qFact_0 18 rfl) rfl (n := 0) rfl ?_
      refine x_bipush (zdm d_Md_qFact_0 19 rfl) (by decide) ?_
      refine x_icmpeq (tgt := 63) (zdm d_Md_qFact_0 20 rfl) (by decide) (fun c => ?_) (fun c => ?_)
      · have H := H.1 c
        exact zX.sub [1, 0] rfl H
      · have H := H.2 c
        refine x_iload_n (zdm d_Md_qFact_0 21 rfl) rfl (n := 0) rfl ?_
        refine x_bipush (zdm d_Md_qFact_0 22 rfl) (by decide) ?_
        refine x_icmpeq (tgt := 63) (zdm d_Md_qFact_0 23 rfl) (by decide) (fun c => ?_) (fun c => ?_)
        · have H := H.1 c
          exact zX.sub [1, 0] rfl H
        · have H := H.2 c
          refine x_iload_n (zdm d_Md_qFact_0 24 rfl) rfl (n := 0) rfl ?_
          refine x_bipush (zdm d_Md_qFact_0 25 rfl) (by decide) ?_
          refine x_icmpeq (tgt := 63) (zdm d_Md_qFact_0 26 rfl) (by decide) (fun c => ?_) (fun c => ?_)
          · have H := H.1 c
            exact zX.sub [1, 0] rfl H
          · have H := H.2 c
            refine x_aload_n (zdm d_Md_qFact_0 27 rfl) rfl (n := 1) rfl ?_
            refine x_iconst (zdm d_Md_qFact_0 28 rfl) (zIl rfl) ?_
            refine x_aload_n (zdm d_Md_qFact_0 29 rfl) rfl (n := 1) rfl ?_
            refine x_getf (zdm d_Md_qFact_0 30 rfl) f_Md_243 rfl rfl ?_
            refine x_callVv (n := 2) (ci := 11) (zdm d_Md_qFact_0 31 rfl) k_Md_267 (As := [(0, 1), (0, (M7 125 2))]) rfl rfl rfl ⟨_, _, rfl⟩ (Nat.le_of_ble_eq_true rfl) rfl H (fun r8 M9 hr H => ?_)
            exact x_return (zdm d_Md_qFact_0 32 rfl) rfl H
    · have H := H.2 c
      exact x_return (zdm d_Md_qFact_0 14 rfl) rfl H
  · have H := H.2 c
    refine x_aload_n (zdm d_Md_qFact_0 5 rfl) rfl (n := 0) rfl ?_
    refine x_bipush (zdm d_Md_qFact_0 6 rfl) (by decide) ?_
    refine x_callVv (n := 1) (ci := 11) (zdm d_Md_qFact_0 7 rfl) k_Md_548 (As := [(0, 13)]) rfl rfl rfl ⟨_, _, rfl⟩ (Nat.le_of_ble_eq_true rfl) rfl H (fun r10 M11 hr H => ?_)
    exact x_return (zdm d_Md_qFact_0 8 rfl) rfl H
set_option maxRecDepth 20000 in
set_option maxHeartbeats 4000000 in
theorem B_Md_qHasSquare_2 {G : zG} {h sl : Nat} (hsl : 2 ≤ sl) {u : Nat × Nat × Nat × Nat} {l1 : Int} {M : zM} {Q : Int → zM → Prop} (H : ((M 125 92) ≤ l1 → Q 0 M) ∧ (¬ (M 125 92) ≤ l1 → (0 ≤ l1 ∧ l1 < 1700) ∧ ((¬ (M 194 l1) = 25 → (zI (l1 + 1)) ∧ (zX G (y_Md_qHasSquare, h, sl) u 2 [(0, (2, 125)), (1, (0, (l1 + 1)))] [] M Q)) ∧ (¬ (¬ (M 194 l1) = 25) → Q 1 M)))) : zX G (y_Md_qHasSquare, h, sl) u 2 [(0, (2, 125)), (1, (0, l1))] [] M Q := by
  refine x_iload_n (zdm d_Md_qHasSquare_0 2 rfl) rfl (n := 1) rfl ?_
  refine x_aload_n (zdm d_Md_qHasSquare_0 3 rfl) rfl (n := 0) rfl ?_
  refine x_getf (zdm d_Md_qHasSquare_0 4 rfl) f_Md_319 rfl rfl ?_
  refine x_icmpge (tgt := 29) (zdm d_Md_qHasSquare_0 5 rfl) (by decide) (fun c => ?_) (fun c => ?_)
  · have H := H.1 c
    refine x_iconst (zdm d_Md_qHasSquare_0 16 rfl) (zIl rfl) ?_
    exact x_ireturn (zdm d_Md_qHasSquare_0 17 rfl) (ty := .boolean) rfl (by decide) (Or.inl rfl) H
  · have H := H.2 c
    refine x_aload_n (zdm d_Md_qHasSquare_0 6 rfl) rfl (n := 0) rfl ?_
    refine x_getG (zdm d_Md_qHasSquare_0 7 rfl) f_Md_225 rfl rfl (by decide) hsl rfl ?_
    refine x_iload_n (zdm d_Md_qHasSquare_0 8 rfl) rfl (n := 1) rfl ?_
    obtain ⟨g1, H⟩ := H
    refine x_iald (zdm d_Md_qHasSquare_0 9 rfl) rfl g1 ?_
    refine x_bipush (zdm d_Md_qHasSquare_0 10 rfl) (by decide) ?_
    refine x_icmpne (tgt := 23) (zdm d_Md_qHasSquare_0 11 rfl) (by decide) (fun c => ?_) (fun c => ?_)
    · have H := H.1 c
      obtain ⟨g2, H⟩ := H
      refine x_iinc (zdm d_Md_qHasSquare_0 14 rfl) (n := 1) rfl g2 (zlt rfl) rfl ?_
      refine x_goto (tgt := 2) (zdm d_Md_qHasSquare_0 15 rfl) (by decide) ?_
      exact zX.sub [1, 0] rfl H
    · have H := H.2 c
      refine x_iconst (zdm d_Md_qHasSquare_0 12 rfl) (zIl rfl) ?_
      exact x_ireturn (zdm d_Md_qHasSquare_0 13 rfl) (ty := .boolean) rfl (by decide) (Or.inr rfl) H
set_option maxRecDepth 20000 in
set_option maxHeartbeats 4000000 in
theorem E_Md_qHasSquare {G : zG} {h sl : Nat} (hsl : 2 ≤ sl) {M : zM} {Q : Int → zM → Prop} (H : zX G (y_Md_qHasSquare, h, sl) (0, 0, 0, 0) 2 [(0, (2, 125)), (1, (0, 0))] [] M Q) : zCt G h sl 0 0 y_Md_qHasSquare [(2, 125)] M Q := by
  refine zCt.of (by decide +kernel) (Nat.le_of_ble_eq_true rfl) ?_
  refine x_iconst (zdm d_Md_qHasSquare_0 0 rfl) (zIl rfl) ?_
  refine x_istore_n (zdm d_Md_qHasSquare_0 1 rfl) rfl (zlt rfl) rfl ?_
  exact zX.sub [1, 0] rfl H
set_option maxRecDepth 20000 in
set_option maxHeartbeats 4000000 in
theorem B_Md_qDropsNots_0 {G : zG} {h sl : Nat} (hsl : 2 ≤ sl) {u : Nat × Nat × Nat × Nat} {M : zM} {Q : Int → zM → Prop} (H : (¬ (M 125 5) = 0 → Q 0 M) ∧ (¬ (¬ (M 125 5) = 0) → zCt G h sl 0 0 y_Md_qIsOn [(2, 125), (0, 12)] M (fun r1 M2 => (r1 = 0 → Q 0 M2) ∧ (¬ r1 = 0 → (zI ((M2 125 93) - 1)) ∧ (zCt G h sl 0 0 y_Md_qDrops [(2, 125)] (zwr M2 125 93 ((M2 125 93) - 1)) (fun r5 M6 => zX G (y_Md_qDropsNots, h + 1, sl) u 0 [(0, (2, 125))] [] M6 Q)))))) : zX G (y_Md_qDropsNots, h + 1, sl) u 0 [(0, (2, 125))] [] M Q := by
  refine x_aload_n (zdm d_Md_qDropsNots_0 0 rfl) rfl (n := 0) rfl ?_
  refine x_getf (zdm d_Md_qDropsNots_0 1 rfl) f_Md_237 rfl rfl ?_
  refine x_ifne (tgt := 33) (zdm d_Md_qDropsNots_0 2 rfl) (by decide) (fun c => ?_) (fun c => ?_)
  · have H := H.1 c
    exact x_return (zdm d_Md_qDropsNots_0 16 rfl) rfl H
  · have H := H.2 c
    refine x_aload_n (zdm d_Md_qDropsNots_0 3 rfl) rfl (n := 0) rfl ?_
    refine x_bipush (zdm d_Md_qDropsNots_0 4 rfl) (by decide) ?_
    refine x_callVi (n := 1) (ci := 11) (zdm d_Md_qDropsNots_0 5 rfl) k_Md_584 (As := [(0, 12)]) rfl rfl rfl ⟨_, _, rfl⟩ (Nat.le_of_ble_eq_true rfl) trivial H (fun r1 M2 hr H => ?_)
    have b3 : r1 = 0 ∨ r1 = 1 := hr
    refine x_ifeq (tgt := 33) (zdm d_Md_qDropsNots_0 6 rfl) (by decide) (fun c => ?_) (fun c => ?_)
    · have H := H.1 c
      exact x_return (zdm d_Md_qDropsNots_0 16 rfl) rfl H
    · have H := H.2 c
      refine x_aload_n (zdm d_Md_qDropsNots_0 7 rfl) rfl (n := 0) rfl ?_
      refine x_dup (zdm d_Md_qDropsNots_0 8 rfl) z2n1 ?_
      refine x_getf (zdm d_Md_qDropsNots_0 9 rfl) f_Md_322 rfl rfl ?_
      refine x_iconst (zdm d_Md_qDropsNots_0 10 rfl) (zIl rfl) ?_
      obtain ⟨g4, H⟩ := H
      refine x_isub (zdm d_Md_qDropsNots_0 11 rfl) g4 ?_
      refine x_putf (zdm d_Md_qDropsNots_0 12 rfl) f_Md_322 rfl ⟨rfl, trivial⟩ (Or.inl rfl) ?_
      refine x_aload_n (zdm d_Md_qDropsNots_0 13 rfl) rfl (n := 0) rfl ?_
      refine x_callVv (n := 0) (ci := 11) (zdm d_Md_qDropsNots_0 14 rfl) k_Md_554 (As := []) rfl rfl rfl ⟨_, _, rfl⟩ (Nat.le_of_ble_eq_true rfl) rfl H (fun r5 M6 hr H => ?_)
      refine x_goto (tgt := 0) (zdm d_Md_qDropsNots_0 15 rfl) (by decide) ?_
      exact H
set_option maxRecDepth 20000 in
set_option maxHeartbeats 4000000 in
theorem E_Md_qDropsNots {G : zG} {h sl : Nat} (hsl : 2 ≤ sl) {M : zM} {Q : Int → zM → Prop} (H : (¬ (M 125 5) = 0 → Q 0 M) ∧ (¬ (¬ (M 125 5) = 0) → zCt G h sl 0 0 y_Md_qIsOn [(2, 125), (0, 12)] M (fun r1 M2 => (r1 = 0 → Q 0 M2) ∧ (¬ r1 = 0 → (zI ((M2 125 93) - 1)) ∧ (zCt G h sl 0 0 y_Md_qDrops [(2, 125)] (zwr M2 125 93 ((M2 125 93) - 1)) (fun r5 M6 => zX G (y_Md_qDropsNots, h + 1, sl) (0, 0, 0, 0) 0 [(0, (2, 125))] [] M6 Q)))))) : zCt G (h + 1) sl 0 0 y_Md_qDropsNots [(2, 125)] M Q := by
  refine zCt.of (by decide +kernel) (Nat.le_of_ble_eq_true rfl) ?_
  refine x_aload_n (zdm d_Md_qDropsNots_0 0 rfl) rfl (n := 0) rfl ?_
  refine x_getf (zdm d_Md_qDropsNots_0 1 rfl) f_Md_237 rfl rfl ?_
  refine x_ifne (tgt := 33) (zdm d_Md_qDropsNots_0 2 rfl) (by decide) (fun c => ?_) (fun c => ?_)
  · have H := H.1 c
    exact x_return (zdm d_Md_qDropsNots_0 16 rfl) rfl H
  · have H := H.2 c
    refine x_aload_n (zdm d_Md_qDropsNots_0 3 rfl) rfl (n := 0) rfl ?_
    refine x_bipush (zdm d_Md_qDropsNots_0 4 rfl) (by decide) ?_
    refine x_callVi (n := 1) (ci := 11) (zdm d_Md_qDropsNots_0 5 rfl) k_Md_584 (As := [(0, 12)]) rfl rfl rfl ⟨_, _, rfl⟩ (Nat.le_of_ble_eq_true rfl) trivial H (fun r1 M2 hr H => ?_)
    have b3 : r1 = 0 ∨ r1 = 1 := hr
    refine x_ifeq (tgt := 33) (zdm d_Md_qDropsNots_0 6 rfl) (by decide) (fun c => ?_) (fun c => ?_)
    · have H := H.1 c
      exact x_return (zdm d_Md_qDropsNots_0 16 rfl) rfl H
    · have H := H.2 c
      refine x_aload_n (zdm d_Md_qDropsNots_0 7 rfl) rfl (n := 0) rfl ?_
      refine x_dup (zdm d_Md_qDropsNots_0 8 rfl) z2n1 ?_
      refine x_getf (zdm d_Md_qDropsNots_0 9 rfl) f_Md_322 rfl rfl ?_
      refine x_iconst (zdm d_Md_qDropsNots_0 10 rfl) (zIl rfl) ?_
      obtain ⟨g4, H⟩ := H
      refine x_isub (zdm d_Md_qDropsNots_0 11 rfl) g4 ?_
      refine x_putf (zdm d_Md_qDropsNots_0 12 rfl) f_Md_322 rfl ⟨rfl, trivial⟩ (Or.inl rfl) ?_
      refine x_aload_n (zdm d_Md_qDropsNots_0 13 rfl) rfl (n := 0) rfl ?_
      refine x_callVv (n := 0) (ci := 11) (zdm d_Md_qDropsNots_0 14 rfl) k_Md_554 (As := []) rfl rfl rfl ⟨_, _, rfl⟩ (Nat.le_of_ble_eq_true rfl) rfl H (fun r5 M6 hr H => ?_)
      refine x_goto (tgt := 0) (zdm d_Md_qDropsNots_0 15 rfl) (by decide) ?_
      exact H
set_option maxRecDepth 20000 in
set_option maxHeartbeats 4000000 in
theorem B_Md_qTest_110 {G : zG} {h sl : Nat} (hsl : 2 ≤ sl) {u : Nat × Nat × Nat × Nat} {M : zM} {Q : Int → zM → Prop} (H : (¬ (M 125 5) = 0 → Q 0 M) ∧ (¬ (¬ (M 125 5) = 0) → ((M 125 92) ≤ 0 → Q 0 M) ∧ (¬ (M 125 92) ≤ 0 → zCt G h sl 0 0 y_Md_qDrops [(2, 125)] M (fun r1 M2 => zX G (y_Md_qTest, h + 1, sl) u 110 [(0, (2, 125))] [] M2 Q)))) : zX G (y_Md_qTest, h + 1, sl) u 110 [(0, (2, 125))] [] M Q := by
  refine x_aload_n (zdm d_Md_qTest_0 55 rfl) rfl (n := 0) rfl ?_
  refine x_getf (zdm d_Md_qTest_0 56 rfl) f_Md_237 rfl rfl ?_
  refine x_ifne (tgt := 131) (zdm d_Md_qTest_0 57 rfl) (by decide) (fun c => ?_) (fun c => ?_)
  · have H := H.1 c
    exact x_return (zdm d_Md_qTest_1 4 rfl) rfl H
  · have H := H.2 c
    refine x_aload_n (zdm d_Md_qTest_0 58 rfl) rfl (n := 0) rfl ?_
    refine x_getf (zdm d_Md_qTest_0 59 rfl) f_Md_319 rfl rfl ?_
    refine x_ifle (tgt := 131) (zdm d_Md_qTest_1 0 rfl) (by decide) (fun c => ?_) (fun c => ?_)
    · have H := H.1 c
      exact x_return (zdm d_Md_qTest_1 4 rfl) rfl H
    · have H := H.2 c
      refine x_aload_n (zdm d_Md_qTest_1 1 rfl) rfl (n := 0) rfl ?_
      refine x_callVv (n := 0) (ci := 11) (zdm d_Md_qTest_1 2 rfl) k_Md_554 (As := []) rfl rfl rfl ⟨_, _, rfl⟩ (Nat.le_of_ble_eq_true rfl) rfl H (fun r1 M2 hr H => ?_)
      refine x_goto (tgt := 110) (zdm d_Md_qTest_1 3 rfl) (by decide) ?_
      exact H
set_option maxRecDepth 20000 in
set_option maxHeartbeats 4000000 in
theorem B_Md_qTest_2 {G : zG} {h sl : Nat} (hsl : 2 ≤ sl) {u : Nat × Nat × Nat × Nat} {l1 : Int} {M : zM} {Q : Int → zM → Prop} (H : (l1 = 0 → zX G (y_Md_qTest, h + 1, sl) u 110 [(0, (2, 125))] [] M Q) ∧ (¬ l1 = 0 → (¬ (M 125 5) = 0 → zX G (y_Md_qTest, h + 1, sl) u 110 [(0, (2, 125))] [] M Q) ∧ (¬ (¬ (M 125 5) = 0) → zCt G h sl 0 0 y_Md_look [(2, 125)] M (fun r1 M2 => (¬ r1 = 91 → zCt G h sl 0 0 y_Md_isHere [(2, 125), (2, 179)] M2 (fun r3 M4 => (r3 = 0 → zCt G h sl 0 0 y_Md_qFact [(2, 125)] M4 (fun r6 M7 => zCt G h sl 0 0 y_Md_qDropsNots [(2, 125)] M7 (fun r8 M9 => (¬ (M9 125 5) = 0 → zX G (y_Md_qTest, h + 1, sl) u 2 [(0, (2, 125)), (1, (0, 0))] [] M9 Q) ∧ (¬ (¬ (M9 125 5) = 0) → zCt G h sl 0 0 y_Md_qGoesOnTest [(2, 125)] M9 (fun r10 M11 => (r10 = 0 → zX G (y_Md_qTest, h + 1, sl) u 2 [(0, (2, 125)), (1, (0, 0))] [] M11 Q) ∧ (¬ r10 = 0 → zX G (y_Md_qTest, h + 1, sl) u 2 [(0, (2, 125)), (1, (0, 1))] [] M11 Q)))))) ∧ (¬ r3 = 0 → zCt G h sl 0 0 y_Md_qOpens [(2, 125), (0, 12), (0, (M4 125 2))] M4 (fun r13 M14 => zCt G h sl 0 0 y_Md_asks [(2, 125), (2, 179)] M14 (fun r15 M16 => zX G (y_Md_qTest, h + 1, sl) u 2 [(0, (2, 125)), (1, (0, l1))] [] M16 Q))))) ∧ (¬ (¬ r1 = 91) → zCt G h sl 0 0 y_Md_qOpens [(2, 125), (0, 25), (0, (M2 125 2))] M2 (fun r17 M18 => (zI ((M18 125 2) + 1)) ∧ (zX G (y_Md_qTest, h + 1, sl) u 2 [(0, (2, 125)), (1, (0, l1))] [] (zwr M18 125 2 ((M18 125 2) + 1)) Q))))))) : zX G (y_Md_qTest, h + 1, sl) u 2 [(0, (2, 125)), (1, (0, l1))] [] M Q := by
  refine x_iload_n (zdm d_Md_qTest_0 2 rfl) rfl (n := 1) rfl ?_
  refine x_ifeq (tgt := 110) (zdm d_Md_qTest_0 3 rfl) (by decide) (fun c => ?_) (fun c => ?_)
  · have H := H.1 c
    exact zX.sub [0] rfl H
  · have H := H.2 c
    refine x_aload_n (zdm d_Md_qTest_0 4 rfl) rfl (n := 0) rfl ?_
    refine x_getf (zdm d_Md_qTest_0 5 rfl) f_Md_237 rfl rfl ?_
    refine x_ifne (tgt := 110) (zdm d_Md_qTest_0 6 rfl) (by decide) (fun c => ?_) (fun c => ?_)
    · have H := H.1 c
      exact zX.sub [0] rfl H
    · have H := H.2 c
      refine x_aload_n (zdm d_Md_qTest_0 7 rfl) rfl (n := 0) rfl ?_
      refine x_callVi (n := 0) (ci := 11) (zdm d_Md_qTest_0 8 rfl) k_Md_249 (As := []) rfl rfl rfl ⟨_, _, rfl⟩ (Nat.le_of_ble_eq_true rfl) trivial H (fun r1 M2 hr H => ?_)
      refine x_istore_n (zdm d_Md_qTest_0 9 rfl) rfl (zlt rfl) rfl ?_
      refine x_iload_n (zdm d_Md_qTest_0 10 rfl) rfl (n := 0) rfl ?_
      refine x_bipush (zdm d_Md_qTest_0 11 rfl) (by decide) ?_
      refine x_icmpne (tgt := 47) (zdm d_Md_qTest_0 12 rfl) (by decide) (fun c => ?_) (fun c => ?_)
      · have H := H.1 c
        refine x_aload_n (zdm d_Md_qTest_0 25 rfl) rfl (n := 1) rfl ?_
        refine x_aload_n (zdm d_Md_qTest_0 26 rfl) rfl (n := 1) rfl ?_
        refine x_getG (zdm d_Md_qTest_0 27 rfl) f_Md_180 rfl rfl (by decide) hsl rfl ?_
        refine x_callVi (n := 1) (ci := 11) (zdm d_Md_qTest_0 28 rfl) k_Md_260 (As := [(2, 179)]) rfl rfl rfl ⟨_, _, rfl⟩ (Nat.le_of_ble_eq_true rfl) trivial H (fun r3 M4 hr H => ?_)
        have b5 : r3 = 0 ∨ r3 = 1 := hr
        refine x_ifeq (tgt := 79) (zdm d_Md_qTest_0 29 rfl) (by decide) (fun c => ?_) (fun c => ?_)
        · have H := H.1 c
          refine x_aload_n (zdm d_Md_qTest_0 40 rfl) rfl (n := 1) rfl ?_
          refine x_callVv (n := 0) (ci := 11) (zdm d_Md_qTest_0 41 rfl) k_Md_593 (As := []) rfl rfl rfl ⟨_, _, rfl⟩ (Nat.le_of_ble_eq_true rfl) rfl H (fun r6 M7 hr H => ?_)
          refine x_aload_n (zdm d_Md_qTest_0 42 rfl) rfl (n := 1) rfl ?_
          refine x_callVv (n := 0) (ci := 11) (zdm d_Md_qTest_0 43 rfl) k_Md_596 (As := []) rfl rfl rfl ⟨_, _, rfl⟩ (Nat.le_of_ble_eq_true rfl) rfl H (fun r8 M9 hr H => ?_)
          refine x_aload_n (zdm d_Md_qTest_0 44 rfl) rfl (n := 1) rfl ?_
          refine x_getf (zdm d_Md_qTest_0 45 rfl) f_Md_237 rfl rfl ?_
          refine x_ifne (tgt := 105) (zdm d_Md_qTest_0 46 rfl) (by decide) (fun c => ?_) (fun c => ?_)
          · have H := H.1 c
            refine x_iconst (zdm d_Md_qTest_0 52 rfl) (zIl rfl) ?_
            refine x_istore_n (zdm d_Md_qTest_0 53 rfl) rfl (zlt rfl) rfl ?_
            refine x_goto (tgt := 2) (zdm d_Md_qTest_0 54 rfl) (by decide) ?_
            exact zX.sub [2, 0] rfl H
          · have H := H.2 c
            refine x_aload_n (zdm d_Md_qTest_0 47 rfl) rfl (n := 1) rfl ?_
            refine x_callVi (n := 0) (ci := 11) (zdm d_Md_qTest_0 48 rfl) k_Md_599 (As := []) rfl rfl rfl ⟨_, _, rfl⟩ (Nat.le_of_ble_eq_true rfl) trivial H (fun r10 M11 hr H => ?_)
            have b12 : r10 = 0 ∨ r10 = 1 := hr
            refine x_ifeq (tgt := 105) (zdm d_Md_qTest_0 49 rfl) (by decide) (fun c => ?_) (fun c => ?_)
            · have H := H.1 c
              refine x_iconst (zdm d_Md_qTest_0 52 rfl) (zIl rfl) ?_
              refine x_istore_n (zdm d_Md_qTest_0 53 rfl) rfl (zlt rfl) rfl ?_
              refine x_goto (tgt := 2) (zdm d_Md_qTest_0 54 rfl) (by decide) ?_
              exact zX.sub [2, 0] rfl H
            · have H := H.2 c
              refine x_iconst (zdm d_Md_qTest_0 50 rfl) (zIl rfl) ?_
              refine x_goto (tgt := 106) (zdm d_Md_qTest_0 51 rfl) (by decide) ?_
              refine x_istore_n (zdm d_Md_qTest_0 53 rfl) rfl (zlt rfl) rfl ?_
              refine x_goto (tgt := 2) (zdm d_Md_qTest_0 54 rfl) (by decide) ?_
              exact zX.sub [2, 0] rfl H
        · have H := H.2 c
          refine x_aload_n (zdm d_Md_qTest_0 30 rfl) rfl (n := 1) rfl ?_
          refine x_bipush (zdm d_Md_qTest_0 31 rfl) (by decide) ?_
          refine x_aload_n (zdm d_Md_qTest_0 32 rfl) rfl (n := 1) rfl ?_
          refine x_getf (zdm d_Md_qTest_0 33 rfl) f_Md_243 rfl rfl ?_
          refine x_callVv (n := 2) (ci := 11) (zdm d_Md_qTest_0 34 rfl) k_Md_566 (As := [(0, 12), (0, (M4 125 2))]) rfl rfl rfl ⟨_, _, rfl⟩ (Nat.le_of_ble_eq_true rfl) rfl H (fun r13 M14 hr H => ?_)
          refine x_aload_n (zdm d_Md_qTest_0 35 rfl) rfl (n := 1) rfl ?_
          refine x_aload_n (zdm d_Md_qTest_0 36 rfl) rfl (n := 1) rfl ?_
          refine x_getG (zdm d_Md_qTest_0 37 rfl) f_Md_180 rfl rfl (by decide) hsl rfl ?_
          refine x_callVv (n := 1) (ci := 11) (zdm d_Md_qTest_0 38 rfl) k_Md_302 (As := [(2, 179)]) rfl rfl rfl ⟨_, _, rfl⟩ (Nat.le_of_ble_eq_true rfl) rfl H (fun r15 M16 hr H => ?_)
          refine x_goto (tgt := 2) (zdm d_Md_qTest_0 39 rfl) (by decide) ?_
          exact zX.sub [1, 2] rfl H
      · have H := H.2 c
        refine x_aload_n (zdm d_Md_qTest_0 13 rfl) rfl (n := 1) rfl ?_
        refine x_bipush (zdm d_Md_qTest_0 14 rfl) (by decide) ?_
        refine x_aload_n (zdm d_Md_qTest_0 15 rfl) rfl (n := 1) rfl ?_
        refine x_getf (zdm d_Md_qTest_0 16 rfl) f_Md_243 rfl rfl ?_
        refine x_callVv (n := 2) (ci := 11) (zdm d_Md_qTest_0 17 rfl) k_Md_566 (As := [(0, 25), (0, (M2 125 2))]) rfl rfl rfl ⟨_, _, rfl⟩ (Nat.le_of_ble_eq_true rfl) rfl H (fun r17 M18 hr H => ?_)
        refine x_aload_n (zdm d_Md_qTest_0 18 rfl) rfl (n := 1) rfl ?_
        refine x_dup (zdm d_Md_qTest_0 19 rfl) z2n1 ?_
        refine x_getf (zdm d_Md_qTest_0 20 rfl) f_Md_243 rfl rfl ?_
        refine x_iconst (zdm d_Md_qTest_0 21 rfl) (zIl rfl) ?_
        obtain ⟨g19, H⟩ := H
        refine x_iadd (zdm d_Md_qTest_0 22 rfl) g19 ?_
        refine x_putf (zdm d_Md_qTest_0 23 rfl) f_Md_243 rfl ⟨rfl, trivial⟩ (Or.inl rfl) ?_
        refine x_goto (tgt := 2) (zdm d_Md_qTest_0 24 rfl) (by decide) ?_
        exact zX.sub [1, 2] rfl H
set_option maxRecDepth 20000 in
set_option maxHeartbeats 4000000 in
theorem E_Md_qTest {G : zG} {h sl : Nat} (hsl : 2 ≤ sl) {M : zM} {Q : Int → zM → Prop} (H : zX G (y_Md_qTest, h + 1, sl) (0, 0, 0, 0) 2 [(0, (2, 125)), (1, (0, 1))] [] M Q) : zCt G (h + 1) sl 0 0 y_Md_qTest [(2, 125)] M Q := by
  refine zCt.of (by decide +kernel) (Nat.le_of_ble_eq_true rfl) ?_
  refine x_iconst (zdm d_Md_qTest_0 0 rfl) (zIl rfl) ?_
  refine x_istore_n (zdm d_Md_qTest_0 1 rfl) rfl (zlt rfl) rfl ?_
  exact zX.sub [1, 0] rfl H
set_option maxRecDepth 20000 in
set_option maxHeartbeats 4000000 in
theorem B_Md_qGoesOnTest_155 {G : zG} {h sl : Nat} (hsl : 2 ≤ sl) {u : Nat × Nat × Nat × Nat} {M : zM} {Q : Int → zM → Prop} (H : zCt G h sl 0 0 y_Md_qDrops [(2, 125)] M (fun r1 M2 => zX G (y_Md_qGoesOnTest, h + 1, sl) u 137 [(0, (2, 125))] [] M2 Q)) : zX G (y_Md_qGoesOnTest, h + 1, sl) u 155 [(0, (2, 125))] [] M Q := by
  refine x_aload_n (zdm d_Md_qGoesOnTest_1 17 rfl) rfl (n := 0) rfl ?_
  refine x_callVv (n := 0) (ci := 11) (zdm d_Md_qGoesOnTest_1 18 rfl) k_Md_554 (As := []) rfl rfl rfl ⟨_, _, rfl⟩ (Nat.le_of_ble_eq_true rfl) rfl H (fun r1 M2 hr H => ?_)
  refine x_goto (tgt := 137) (zdm d_Md_qGoesOnTest_1 19 rfl) (by decide) ?_
  exact H
set_option maxRecDepth 20000 in
set_option maxHeartbeats 4000000 in
theorem B_Md_qGoesOnTest_137 {G : zG} {h sl : Nat} (hsl : 2 ≤ sl) {u : Nat × Nat × Nat × Nat} {M : zM} {Q : Int → zM → Prop} (H : zCt G h sl 0 0 y_Md_qIsOn [(2, 125), (0, 10)] M (fun r1 M2 => (¬ r1 = 0 → zX G (y_Md_qGoesOnTest, h + 1, sl) u 155 [(0, (2, 125))] [] M2 Q) ∧ (¬ (¬ r1 = 0) → zCt G h sl 0 0 y_Md_qIsOn [(2, 125), (0, 11)] M2 (fun r4 M5 => (r4 = 0 → (0 ≤ (M5 125 92) ∧ (M5 125 92) < 1700) ∧ ((zI (((zwr M5 194 (M5 125 92) 11) 125 92) + 1)) ∧ (Q 1 (zwr (zwr M5 194 (M5 125 92) 11) 125 92 (((zwr M5 194 (M5 125 92) 11) 125 92) + 1))))) ∧ (¬ r4 = 0 → zX G (y_Md_qGoesOnTest, h + 1, sl) u 155 [(0, (2, 125))] [] M5 Q))))) : zX G (y_Md_qGoesOnTest, h + 1, sl) u 137 [(0, (2, 125))] [] M Q := by
  refine x_aload_n (zdm d_Md_qGoesOnTest_1 9 rfl) rfl (n := 0) rfl ?_
  refine x_bipush (zdm d_Md_qGoesOnTest_1 10 rfl) (by decide) ?_
  refine x_callVi (n := 1) (ci := 11) (zdm d_Md_qGoesOnTest_1 11 rfl) k_Md_584 (As := [(0, 10)]) rfl rfl rfl ⟨_, _, rfl⟩ (Nat.le_of_ble_eq_true rfl) trivial H (fun r1 M2 hr H => ?_)
  have b3 : r1 = 0 ∨ r1 = 1 := hr
  refine x_ifne (tgt := 155) (zdm d_Md_qGoesOnTest_1 12 rfl) (by decide) (fun c => ?_) (fun c => ?_)
  · have H := H.1 c
    exact H
  · have H := H.2 c
    refine x_aload_n (zdm d_Md_qGoesOnTest_1 13 rfl) rfl (n := 0) rfl ?_
    refine x_bipush (zdm d_Md_qGoesOnTest_1 14 rfl) (by decide) ?_
    refine x_callVi (n := 1) (ci := 11) (zdm d_Md_qGoesOnTest_1 15 rfl) k_Md_584 (As := [(0, 11)]) rfl rfl rfl ⟨_, _, rfl⟩ (Nat.le_of_ble_eq_true rfl) trivial H (fun r4 M5 hr H => ?_)
    have b6 : r4 = 0 ∨ r4 = 1 := hr
    refine x_ifeq (tgt := 162) (zdm d_Md_qGoesOnTest_1 16 rfl) (by decide) (fun c => ?_) (fun c => ?_)
    · have H := H.1 c
      refine x_aload_n (zdm d_Md_qGoesOnTest_1 20 rfl) rfl (n := 0) rfl ?_
      refine x_getG (zdm d_Md_qGoesOnTest_1 21 rfl) f_Md_225 rfl rfl (by decide) hsl rfl ?_
      refine x_aload_n (zdm d_Md_qGoesOnTest_1 22 rfl) rfl (n := 0) rfl ?_
      refine x_getf (zdm d_Md_qGoesOnTest_1 23 rfl) f_Md_319 rfl rfl ?_
      refine x_bipush (zdm d_Md_qGoesOnTest_1 24 rfl) (by decide) ?_
      obtain ⟨g7, H⟩ := H
      refine x_iast (zdm d_Md_qGoesOnTest_1 25 rfl) rfl g7 ?_
      refine x_aload_n (zdm d_Md_qGoesOnTest_1 26 rfl) rfl (n := 0) rfl ?_
      refine x_dup (zdm d_Md_qGoesOnTest_1 27 rfl) z2n1 ?_
      refine x_getf (zdm d_Md_qGoesOnTest_1 28 rfl) f_Md_319 rfl rfl ?_
      refine x_iconst (zdm d_Md_qGoesOnTest_1 29 rfl) (zIl rfl) ?_
      obtain ⟨g8, H⟩ := H
      refine x_iadd (zdm d_Md_qGoesOnTest_1 30 rfl) g8 ?_
      refine x_putf (zdm d_Md_qGoesOnTest_1 31 rfl) f_Md_319 rfl ⟨rfl, trivial⟩ (Or.inl rfl) ?_
      refine x_iconst (zdm d_Md_qGoesOnTest_1 32 rfl) (zIl rfl) ?_
      exact x_ireturn (zdm d_Md_qGoesOnTest_1 33 rfl) (ty := .boolean) rfl (by decide) (Or.inr rfl) H
    · have H := H.2 c
      exact H
set_option maxRecDepth 20000 in
set_option maxHeartbeats 4000000 in
theorem B_Md_qGoesOnTest_87 {G : zG} {h sl : Nat} (hsl : 2 ≤ sl) {u : Nat × Nat × Nat × Nat} {M : zM} {Q : Int → zM → Prop} (H : zCt G h sl 0 0 y_Md_qIsOn [(2, 125), (0, 10)] M (fun r1 M2 => (r1 = 0 → (0 ≤ (M2 125 92) ∧ (M2 125 92) < 1700) ∧ ((zI (((zwr M2 194 (M2 125 92) 10) 125 92) + 1)) ∧ (Q 1 (zwr (zwr M2 194 (M2 125 92) 10) 125 92 (((zwr M2 194 (M2 125 92) 10) 125 92) + 1))))) ∧ (¬ r1 = 0 → zCt G h sl 0 0 y_Md_qDrops [(2, 125)] M2 (fun r6 M7 => zX G (y_Md_qGoesOnTest, h + 1, sl) u 87 [(0, (2, 125))] [] M7 Q)))) : zX G (y_Md_qGoesOnTest, h + 1, sl) u 87 [(0, (2, 125))] [] M Q := by
  refine x_aload_n (zdm d_Md_qGoesOnTest_0 43 rfl) rfl (n := 0) rfl ?_
  refine x_bipush (zdm d_Md_qGoesOnTest_0 44 rfl) (by decide) ?_
  refine x_callVi (n := 1) (ci := 11) (zdm d_Md_qGoesOnTest_0 45 rfl) k_Md_584 (As := [(0, 10)]) rfl rfl rfl ⟨_, _, rfl⟩ (Nat.le_of_ble_eq_true rfl) trivial H (fun r1 M2 hr H => ?_)
  have b3 : r1 = 0 ∨ r1 = 1 := hr
  refine x_ifeq (tgt := 103) (zdm d_Md_qGoesOnTest_0 46 rfl) (by decide) (fun c => ?_) (fun c => ?_)
  · have H := H.1 c
    refine x_aload_n (zdm d_Md_qGoesOnTest_0 50 rfl) rfl (n := 0) rfl ?_
    refine x_getG (zdm d_Md_qGoesOnTest_0 51 rfl) f_Md_225 rfl rfl (by decide) hsl rfl ?_
    refine x_aload_n (zdm d_Md_qGoesOnTest_0 52 rfl) rfl (n := 0) rfl ?_
    refine x_getf (zdm d_Md_qGoesOnTest_0 53 rfl) f_Md_319 rfl rfl ?_
    refine x_bipush (zdm d_Md_qGoesOnTest_0 54 rfl) (by decide) ?_
    obtain ⟨g4, H⟩ := H
    refine x_iast (zdm d_Md_qGoesOnTest_0 55 rfl) rfl g4 ?_
    refine x_aload_n (zdm d_Md_qGoesOnTest_0 56 rfl) rfl (n := 0) rfl ?_
    refine x_dup (zdm d_Md_qGoesOnTest_0 57 rfl) z2n1 ?_
    refine x_getf (zdm d_Md_qGoesOnTest_0 58 rfl) f_Md_319 rfl rfl ?_
    refine x_iconst (zdm d_Md_qGoesOnTest_0 59 rfl) (zIl rfl) ?_
    obtain ⟨g5, H⟩ := H
    refine x_iadd (zdm d_Md_qGoesOnTest_1 0 rfl) g5 ?_
    refine x_putf (zdm d_Md_qGoesOnTest_1 1 rfl) f_Md_319 rfl ⟨rfl, trivial⟩ (Or.inl rfl) ?_
    refine x_iconst (zdm d_Md_qGoesOnTest_1 2 rfl) (zIl rfl) ?_
    exact x_ireturn (zdm d_Md_qGoesOnTest_1 3 rfl) (ty := .boolean) rfl (by decide) (Or.inr rfl) H
  · have H := H.2 c
    refine x_aload_n (zdm d_Md_qGoesOnTest_0 47 rfl) rfl (n := 0) rfl ?_
    refine x_callVv (n := 0) (ci := 11) (zdm d_Md_qGoesOnTest_0 48 rfl) k_Md_554 (As := []) rfl rfl rfl ⟨_, _, rfl⟩ (Nat.le_of_ble_eq_true rfl) rfl H (fun r6 M7 hr H => ?_)
    refine x_goto (tgt := 87) (zdm d_Md_qGoesOnTest_0 49 rfl) (by decide) ?_
    exact H
set_option maxRecDepth 20000 in
set_option maxHeartbeats 4000000 in
theorem B_Md_qGoesOnTest_76 {G : zG} {h sl : Nat} (hsl : 2 ≤ sl) {u : Nat × Nat × Nat × Nat} {M : zM} {Q : Int → zM → Prop} (H : zCt G h sl 0 0 y_Md_takes [(2, 125), (2, 180)] M (fun r1 M2 => (r1 = 0 → zCt G h sl 0 0 y_Md_takes [(2, 125), (2, 181)] M2 (fun r4 M5 => (r4 = 0 → (¬ (M5 125 5) = 0 → Q 0 M5) ∧ (¬ (¬ (M5 125 5) = 0) → zCt G h sl 0 0 y_Md_qHasSquare [(2, 125)] M5 (fun r7 M8 => (r7 = 0 → Q 0 M8) ∧ (¬ r7 = 0 → zCt G h sl 0 0 y_Md_fail [(2, 125), (0, 1), (0, (M8 125 2))] M8 (fun r10 M11 => Q 0 M11))))) ∧ (¬ r4 = 0 → zX G (y_Md_qGoesOnTest, h + 1, sl) u 137 [(0, (2, 125))] [] M5 Q))) ∧ (¬ r1 = 0 → zX G (y_Md_qGoesOnTest, h + 1, sl) u 87 [(0, (2, 125))] [] M2 Q))) : zX G (y_Md_qGoesOnTest, h + 1, sl) u 76 [(0, (2, 125))] [] M Q := by
  refine x_aload_n (zdm d_Md_qGoesOnTest_0 38 rfl) rfl (n := 0) rfl ?_
  refine x_aload_n (zdm d_Md_qGoesOnTest_0 39 rfl) rfl (n := 0) rfl ?_
  refine x_getG (zdm d_Md_qGoesOnTest_0 40 rfl) f_Md_183 rfl rfl (by decide) hsl rfl ?_
  refine x_callVi (n := 1) (ci := 11) (zdm d_Md_qGoesOnTest_0 41 rfl) k_Md_264 (As := [(2, 180)]) rfl rfl rfl ⟨_, _, rfl⟩ (Nat.le_of_ble_eq_true rfl) trivial H (fun r1 M2 hr H => ?_)
  have b3 : r1 = 0 ∨ r1 = 1 := hr
  refine x_ifeq (tgt := 126) (zdm d_Md_qGoesOnTest_0 42 rfl) (by decide) (fun c => ?_) (fun c => ?_)
  · have H := H.1 c
    refine x_aload_n (zdm d_Md_qGoesOnTest_1 4 rfl) rfl (n := 0) rfl ?_
    refine x_aload_n (zdm d_Md_qGoesOnTest_1 5 rfl) rfl (n := 0) rfl ?_
    refine x_getG (zdm d_Md_qGoesOnTest_1 6 rfl) f_Md_186 rfl rfl (by decide) hsl rfl ?_
    refine x_callVi (n := 1) (ci := 11) (zdm d_Md_qGoesOnTest_1 7 rfl) k_Md_264 (As := [(2, 181)]) rfl rfl rfl ⟨_, _, rfl⟩ (Nat.le_of_ble_eq_true rfl) trivial H (fun r4 M5 hr H => ?_)
    have b6 : r4 = 0 ∨ r4 = 1 := hr
    refine x_ifeq (tgt := 185) (zdm d_Md_qGoesOnTest_1 8 rfl) (by decide) (fun c => ?_) (fun c => ?_)
    · have H := H.1 c
      refine x_aload_n (zdm d_Md_qGoesOnTest_1 34 rfl) rfl (n := 0) rfl ?_
      refine x_getf (zdm d_Md_qGoesOnTest_1 35 rfl) f_Md_237 rfl rfl ?_
      refine x_ifne (tgt := 208) (zdm d_Md_qGoesOnTest_1 36 rfl) (by decide) (fun c => ?_) (fun c => ?_)
      · have H := H.1 c
        refine x_iconst (zdm d_Md_qGoesOnTest_1 45 rfl) (zIl rfl) ?_
        exact x_ireturn (zdm d_Md_qGoesOnTest_1 46 rfl) (ty := .boolean) rfl (by decide) (Or.inl rfl) H
      · have H := H.2 c
        refine x_aload_n (zdm d_Md_qGoesOnTest_1 37 rfl) rfl (n := 0) rfl ?_
        refine x_callVi (n := 0) (ci := 11) (zdm d_Md_qGoesOnTest_1 38 rfl) k_Md_602 (As := []) rfl rfl rfl ⟨_, _, rfl⟩ (Nat.le_of_ble_eq_true rfl) trivial H (fun r7 M8 hr H => ?_)
        have b9 : r7 = 0 ∨ r7 = 1 := hr
        refine x_ifeq (tgt := 208) (zdm d_Md_qGoesOnTest_1 39 rfl) (by decide) (fun c => ?_) (fun c => ?_)
        · have H := H.1 c
          refine x_iconst (zdm d_Md_qGoesOnTest_1 45 rfl) (zIl rfl) ?_
          exact x_ireturn (zdm d_Md_qGoesOnTest_1 46 rfl) (ty := .boolean) rfl (by decide) (Or.inl rfl) H
        · have H := H.2 c
          refine x_aload_n (zdm d_Md_qGoesOnTest_1 40 rfl) rfl (n := 0) rfl ?_
          refine x_iconst (zdm d_Md_qGoesOnTest_1 41 rfl) (zIl rfl) ?_
          refine x_aload_n (zdm d_Md_qGoesOnTest_1 42 rfl) rfl (n := 0) rfl ?_
          refine x_getf (zdm d_Md_qGoesOnTest_1 43 rfl) f_Md_243 rfl rfl ?_
          refine x_callVv (n := 2) (ci := 11) (zdm d_Md_qGoesOnTest_1 44 rfl) k_Md_267 (As := [(0, 1), (0, (M8 125 2))]) rfl rfl rfl ⟨_, _, rfl⟩ (Nat.le_of_ble_eq_true rfl) rfl H (fun r10 M11 hr H => ?_)
          refine x_iconst (zdm d_Md_qGoesOnTest_1 45 rfl) (zIl rfl) ?_
          exact x_ireturn (zdm d_Md_qGoesOnTest_1 46 rfl) (ty := .boolean) rfl (by decide) (Or.inl rfl) H
    · have H := H.2 c
      exact H
  · have H := H.2 c
    exact H
set_option maxRecDepth 20000 in
set_option maxHeartbeats 4000000 in
theorem B_Md_qGoesOnTest_33 {G : zG} {h sl : Nat} (hsl : 2 ≤ sl) {u : Nat × Nat × Nat × Nat} {M : zM} {Q : Int → zM → Prop} (H : zCt G h sl 0 0 y_Md_qIsOn [(2, 125), (0, 25)] M (fun r1 M2 => (¬ r1 = 0 → (zI ((M2 125 92) - 1)) ∧ ((zI (((zwr M2 125 92 ((M2 125 92) - 1)) 125 93) - 1)) ∧ (zCt G h sl 0 0 y_Md_qDropsNots [(2, 125)] (zwr (zwr M2 125 92 ((M2 125 92) - 1)) 125 93 (((zwr M2 125 92 ((M2 125 92) - 1)) 125 93) - 1)) (fun r6 M7 => zX G (y_Md_qGoesOnTest, h + 1, sl) u 0 [(0, (2, 125))] [] M7 Q)))) ∧ (¬ (¬ r1 = 0) → zCt G h sl 0 0 y_Md_qDrops [(2, 125)] M2 (fun r8 M9 => zX G (y_Md_qGoesOnTest, h + 1, sl) u 33 [(0, (2, 125))] [] M9 Q)))) : zX G (y_Md_qGoesOnTest, h + 1, sl) u 33 [(0, (2, 125))] [] M Q := by
  refine x_aload_n (zdm d_Md_qGoesOnTest_0 16 rfl) rfl (n := 0) rfl ?_
  refine x_bipush (zdm d_Md_qGoesOnTest_0 17 rfl) (by decide) ?_
  refine x_callVi (n := 1) (ci := 11) (zdm d_Md_qGoesOnTest_0 18 rfl) k_Md_584 (As := [(0, 25)]) rfl rfl rfl ⟨_, _, rfl⟩ (Nat.le_of_ble_eq_true rfl) trivial H (fun r1 M2 hr H => ?_)
  have b3 : r1 = 0 ∨ r1 = 1 := hr
  refine x_ifne (tgt := 49) (zdm d_Md_qGoesOnTest_0 19 rfl) (by decide) (fun c => ?_) (fun c => ?_)
  · have H := H.1 c
    refine x_aload_n (zdm d_Md_qGoesOnTest_0 23 rfl) rfl (n := 0) rfl ?_
    refine x_dup (zdm d_Md_qGoesOnTest_0 24 rfl) z2n1 ?_
    refine x_getf (zdm d_Md_qGoesOnTest_0 25 rfl) f_Md_319 rfl rfl ?_
    refine x_iconst (zdm d_Md_qGoesOnTest_0 26 rfl) (zIl rfl) ?_
    obtain ⟨g4, H⟩ := H
    refine x_isub (zdm d_Md_qGoesOnTest_0 27 rfl) g4 ?_
    refine x_putf (zdm d_Md_qGoesOnTest_0 28 rfl) f_Md_319 rfl ⟨rfl, trivial⟩ (Or.inl rfl) ?_
    refine x_aload_n (zdm d_Md_qGoesOnTest_0 29 rfl) rfl (n := 0) rfl ?_
    refine x_dup (zdm d_Md_qGoesOnTest_0 30 rfl) z2n1 ?_
    refine x_getf (zdm d_Md_qGoesOnTest_0 31 rfl) f_Md_322 rfl rfl ?_
    refine x_iconst (zdm d_Md_qGoesOnTest_0 32 rfl) (zIl rfl) ?_
    obtain ⟨g5, H⟩ := H
    refine x_isub (zdm d_Md_qGoesOnTest_0 33 rfl) g5 ?_
    refine x_putf (zdm d_Md_qGoesOnTest_0 34 rfl) f_Md_322 rfl ⟨rfl, trivial⟩ (Or.inl rfl) ?_
    refine x_aload_n (zdm d_Md_qGoesOnTest_0 35 rfl) rfl (n := 0) rfl ?_
    refine x_callVv (n := 0) (ci := 11) (zdm d_Md_qGoesOnTest_0 36 rfl) k_Md_596 (As := []) rfl rfl rfl ⟨_, _, rfl⟩ (Nat.le_of_ble_eq_true rfl) rfl H (fun r6 M7 hr H => ?_)
    refine x_goto (tgt := 0) (zdm d_Md_qGoesOnTest_0 37 rfl) (by decide) ?_
    exact H
  · have H := H.2 c
    refine x_aload_n (zdm d_Md_qGoesOnTest_0 20 rfl) rfl (n := 0) rfl ?_
    refine x_callVv (n := 0) (ci := 11) (zdm d_Md_qGoesOnTest_0 21 rfl) k_Md_554 (As := []) rfl rfl rfl ⟨_, _, rfl⟩ (Nat.le_of_ble_eq_true rfl) rfl H (fun r8 M9 hr H => ?_)
    refine x_goto (tgt := 33) (zdm d_Md_qGoesOnTest_0 22 rfl) (by decide) ?_
    exact H
set_option maxRecDepth 20000 in
set_option maxHeartbeats 4000000 in
theorem B_Md_qGoesOnTest_0 {G : zG} {h sl : Nat} (hsl : 2 ≤ sl) {u : Nat × Nat × Nat × Nat} {M : zM} {Q : Int → zM → Prop} (H : (¬ (M 125 5) = 0 → zX G (y_Md_qGoesOnTest, h + 1, sl) u 76 [(0, (2, 125))] [] M Q) ∧ (¬ (¬ (M 125 5) = 0) → zCt G h sl 0 0 y_Md_look [(2, 125)] M (fun r1 M2 => (¬ r1 = 93 → zX G (y_Md_qGoesOnTest, h + 1, sl) u 76 [(0, (2, 125))] [] M2 Q) ∧ (¬ (¬ r1 = 93) → zCt G h sl 0 0 y_Md_qHasSquare [(2, 125)] M2 (fun r3 M4 => (r3 = 0 → zX G (y_Md_qGoesOnTest, h + 1, sl) u 76 [(0, (2, 125))] [] M4 Q) ∧ (¬ r3 = 0 → (zI ((M4 125 2) + 1)) ∧ (zX G (y_Md_qGoesOnTest, h + 1, sl) u 33 [(0, (2, 125))] [] (zwr M4 125 2 ((M4 125 2) + 1)) Q))))))) : zX G (y_Md_qGoesOnTest, h + 1, sl) u 0 [(0, (2, 125))] [] M Q := by
  refine x_aload_n (zdm d_Md_qGoesOnTest_0 0 rfl) rfl (n := 0) rfl ?_
  refine x_getf (zdm d_Md_qGoesOnTest_0 1 rfl) f_Md_237 rfl rfl ?_
  refine x_ifne (tgt := 76) (zdm d_Md_qGoesOnTest_0 2 rfl) (by decide) (fun c => ?_) (fun c => ?_)
  · have H := H.1 c
    exact H
  · have H := H.2 c
    refine x_aload_n (zdm d_Md_qGoesOnTest_0 3 rfl) rfl (n := 0) rfl ?_
    refine x_callVi (n := 0) (ci := 11) (zdm d_Md_qGoesOnTest_0 4 rfl) k_Md_249 (As := []) rfl rfl rfl ⟨_, _, rfl⟩ (Nat.le_of_ble_eq_true rfl) trivial H (fun r1 M2 hr H => ?_)
    refine x_bipush (zdm d_Md_qGoesOnTest_0 5 rfl) (by decide) ?_
    refine x_icmpne (tgt := 76) (zdm d_Md_qGoesOnTest_0 6 rfl) (by decide) (fun c => ?_) (fun c => ?_)
    · have H := H.1 c
      exact H
    · have H := H.2 c
      refine x_aload_n (zdm d_Md_qGoesOnTest_0 7 rfl) rfl (n := 0) rfl ?_
      refine x_callVi (n := 0) (ci := 11) (zdm d_Md_qGoesOnTest_0 8 rfl) k_Md_602 (As := []) rfl rfl rfl ⟨_, _, rfl⟩ (Nat.le_of_ble_eq_true rfl) trivial H (fun r3 M4 hr H => ?_)
      have b5 : r3 = 0 ∨ r3 = 1 := hr
      refine x_ifeq (tgt := 76) (zdm d_Md_qGoesOnTest_0 9 rfl) (by decide) (fun c => ?_) (fun c => ?_)
      · have H := H.1 c
        exact H
      · have H := H.2 c
        refine x_aload_n (zdm d_Md_qGoesOnTest_0 10 rfl) rfl (n := 0) rfl ?_
        refine x_dup (zdm d_Md_qGoesOnTest_0 11 rfl) z2n1 ?_
        refine x_getf (zdm d_Md_qGoesOnTest_0 12 rfl) f_Md_243 rfl rfl ?_
        refine x_iconst (zdm d_Md_qGoesOnTest_0 13 rfl) (zIl rfl) ?_
        obtain ⟨g6, H⟩ := H
        refine x_iadd (zdm d_Md_qGoesOnTest_0 14 rfl) g6 ?_
        refine x_putf (zdm d_Md_qGoesOnTest_0 15 rfl) f_Md_243 rfl ⟨rfl, trivial⟩ (Or.inl rfl) ?_
        exact H
set_option maxRecDepth 20000 in
set_option maxHeartbeats 4000000 in
theorem E_Md_qGoesOnTest {G : zG} {h sl : Nat} (hsl : 2 ≤ sl) {M : zM} {Q : Int → zM → Prop} (H : (¬ (M 125 5) = 0 → zX G (y_Md_qGoesOnTest, h + 1, sl) (0, 0, 0, 0) 76 [(0, (2, 125))] [] M Q) ∧ (¬ (¬ (M 125 5) = 0) → zCt G h sl 0 0 y_Md_look [(2, 125)] M (fun r1 M2 => (¬ r1 = 93 → zX G (y_Md_qGoesOnTest, h + 1, sl) (0, 0, 0, 0) 76 [(0, (2, 125))] [] M2 Q) ∧ (¬ (¬ r1 = 93) → zCt G h sl 0 0 y_Md_qHasSquare [(2, 125)] M2 (fun r3 M4 => (r3 = 0 → zX G (y_Md_qGoesOnTest, h + 1, sl) (0, 0, 0, 0) 76 [(0, (2, 125))] [] M4 Q) ∧ (¬ r3 = 0 → (zI ((M4 125 2) + 1)) ∧ (zX G (y_Md_qGoesOnTest, h + 1, sl) (0, 0, 0, 0) 33 [(0, (2, 125))] [] (zwr M4 125 2 ((M4 125 2) + 1)) Q))))))) : zCt G (h + 1) sl 0 0 y_Md_qGoesOnTest [(2, 125)] M Q := by
  refine zCt.of (by decide +kernel) (Nat.le_of_ble_eq_true rfl) ?_
  refine x_aload_n (zdm d_Md_qGoesOnTest_0 0 rfl) rfl (n := 0) rfl ?_
  refine x_getf (zdm d_Md_qGoesOnTest_0 1 rfl) f_Md_237 rfl rfl ?_
  refine x_ifne (tgt := 76) (zdm d_Md_qGoesOnTest_0 2 rfl) (by decide) (fun c => ?_) (fun c => ?_)
  · have H := H.1 c
    exact H
  · have H := H.2 c
    refine x_aload_n (zdm d_Md_qGoesOnTest_0 3 rfl) rfl (n := 0) rfl ?_
    refine x_callVi (n := 0) (ci := 11) (zdm d_Md_qGoesOnTest_0 4 rfl) k_Md_249 (As := []) rfl rfl rfl ⟨_, _, rfl⟩ (Nat.le_of_ble_eq_true rfl) trivial H (fun r1 M2 hr H => ?_)
    refine x_bipush (zdm d_Md_qGoesOnTest_0 5 rfl) (by decide) ?_
    refine x_icmpne (tgt := 76) (zdm d_Md_qGoesOnTest_0 6 rfl) (by decide) (fun c => ?_) (fun c => ?_)
    · have H := H.1 c
      exact H
    · have H := H.2 c
      refine x_aload_n (zdm d_Md_qGoesOnTest_0 7 rfl) rfl (n := 0) rfl ?_
      refine x_callVi (n := 0) (ci := 11) (zdm d_Md_qGoesOnTest_0 8 rfl) k_Md_602 (As := []) rfl rfl rfl ⟨_, _, rfl⟩ (Nat.le_of_ble_eq_true rfl) trivial H (fun r3 M4 hr H => ?_)
      have b5 : r3 = 0 ∨ r3 = 1 := hr
      refine x_ifeq (tgt := 76) (zdm d_Md_qGoesOnTest_0 9 rfl) (by decide) (fun c => ?_) (fun c => ?_)
      · have H := H.1 c
        exact H
      · have H := H.2 c
        refine x_aload_n (zdm d_Md_qGoesOnTest_0 10 rfl) rfl (n := 0) rfl ?_
        refine x_dup (zdm d_Md_qGoesOnTest_0 11 rfl) z2n1 ?_
        refine x_getf (zdm d_Md_qGoesOnTest_0 12 rfl) f_Md_243 rfl rfl ?_
        refine x_iconst (zdm d_Md_qGoesOnTest_0 13 rfl) (zIl rfl) ?_
        obtain ⟨g6, H⟩ := H
        refine x_iadd (zdm d_Md_qGoesOnTest_0 14 rfl) g6 ?_
        refine x_putf (zdm d_Md_qGoesOnTest_0 15 rfl) f_Md_243 rfl ⟨rfl, trivial⟩ (Or.inl rfl) ?_
        exact H
set_option maxRecDepth 20000 in
set_option maxHeartbeats 4000000 in
theorem E_Md_qClip {G : zG} {h sl : Nat} (hsl : 2 ≤ sl) {l0 : Int} {M : zM} {Q : Int → zM → Prop} (H : (l0 ≤ 1000000 → ((-1000000) ≤ l0 → Q l0 M) ∧ (¬ (-1000000) ≤ l0 → Q (-1000000) M)) ∧ (¬ l0 ≤ 1000000 → Q 1000000 M)) : zCt G h sl 0 0 y_Md_qClip [(1, l0)] M Q := by
  refine zCt.of (by decide +kernel) (Nat.le_of_ble_eq_true rfl) ?_
  refine x_lload_n (zdm d_Md_qClip_0 0 rfl) rfl (n := 0) rfl ?_
  refine x_ldc2 (zdm d_Md_qClip_0 1 rfl) (n := 1000000) (zLl rfl) w_Md_418 ?_
  refine x_lcmp_le (tgt := 14) (zdm d_Md_qClip_0 2 rfl) (zdm d_Md_qClip_0 3 rfl) (by decide) (fun c => ?_) (fun c => ?_)
  · have H := H.1 c
    refine x_lload_n (zdm d_Md_qClip_0 6 rfl) rfl (n := 0) rfl ?_
    refine x_ldc2 (zdm d_Md_qClip_0 7 rfl) (n := (-1000000)) (zLl rfl) w_Md_421 ?_
    refine x_lcmp_ge (tgt := 28) (zdm d_Md_qClip_0 8 rfl) (zdm d_Md_qClip_0 9 rfl) (by decide) (fun c => ?_) (fun c => ?_)
    · have H := H.1 c
      refine x_lload_n (zdm d_Md_qClip_0 12 rfl) rfl (n := 0) rfl ?_
      exact x_lreturn (zdm d_Md_qClip_0 13 rfl) rfl H
    · have H := H.2 c
      refine x_ldc2 (zdm d_Md_qClip_0 10 rfl) (n := (-1000000)) (zLl rfl) w_Md_421 ?_
      refine x_goto (tgt := 29) (zdm d_Md_qClip_0 11 rfl) (by decide) ?_
      exact x_lreturn (zdm d_Md_qClip_0 13 rfl) rfl H
  · have H := H.2 c
    refine x_ldc2 (zdm d_Md_qClip_0 4 rfl) (n := 1000000) (zLl rfl) w_Md_418 ?_
    refine x_goto (tgt := 29) (zdm d_Md_qClip_0 5 rfl) (by decide) ?_
    exact x_lreturn (zdm d_Md_qClip_0 13 rfl) rfl H
set_option maxRecDepth 20000 in
set_option maxHeartbeats 4000000 in
theorem B_Md_qFloor_32 {G : zG} {h sl : Nat} (hsl : 2 ≤ sl) {u : Nat × Nat × Nat × Nat} {l2 l4 s0 : Int} {M : zM} {Q : Int → zM → Prop} (H : (0 ≤ l2 → (s0 = 0 → Q l4 M) ∧ (¬ s0 = 0 → (zL (l4 - 1)) ∧ (Q (l4 - 1) M))) ∧ (¬ 0 ≤ l2 → (s0 = 1 → Q l4 M) ∧ (¬ s0 = 1 → (zL (l4 - 1)) ∧ (Q (l4 - 1) M)))) : zX G (y_Md_qFloor, h, sl) u 32 [(2, (1, l2)), (4, (1, l4))] [(0, s0)] M Q := by
  refine x_lload_n (zdm d_Md_qFloor_0 23 rfl) rfl (n := 0) rfl ?_
  refine x_lconst (zdm d_Md_qFloor_0 24 rfl) (x := 0) rfl ?_
  refine x_lcmp_ge (tgt := 42) (zdm d_Md_qFloor_0 25 rfl) (zdm d_Md_qFloor_0 26 rfl) (by decide) (fun c => ?_) (fun c => ?_)
  · have H := H.1 c
    refine x_iconst (zdm d_Md_qFloor_0 29 rfl) (zIl rfl) ?_
    refine x_icmpeq (tgt := 53) (zdm d_Md_qFloor_0 30 rfl) (by decide) (fun c => ?_) (fun c => ?_)
    · have H := H.1 c
      refine x_lload (zdm d_Md_qFloor_0 35 rfl) (n := 1) rfl ?_
      exact x_lreturn (zdm d_Md_qFloor_0 36 rfl) rfl H
    · have H := H.2 c
      refine x_lload (zdm d_Md_qFloor_0 31 rfl) (n := 1) rfl ?_
      refine x_lconst (zdm d_Md_qFloor_0 32 rfl) (x := 1) rfl ?_
      obtain ⟨g1, H⟩ := H
      refine x_lsub (zdm d_Md_qFloor_0 33 rfl) g1 ?_
      refine x_goto (tgt := 55) (zdm d_Md_qFloor_0 34 rfl) (by decide) ?_
      exact x_lreturn (zdm d_Md_qFloor_0 36 rfl) rfl H
  · have H := H.2 c
    refine x_iconst (zdm d_Md_qFloor_0 27 rfl) (zIl rfl) ?_
    refine x_goto (tgt := 43) (zdm d_Md_qFloor_0 28 rfl) (by decide) ?_
    refine x_icmpeq (tgt := 53) (zdm d_Md_qFloor_0 30 rfl) (by decide) (fun c => ?_) (fun c => ?_)
    · have H := H.1 c
      refine x_lload (zdm d_Md_qFloor_0 35 rfl) (n := 1) rfl ?_
      exact x_lreturn (zdm d_Md_qFloor_0 36 rfl) rfl H
    · have H := H.2 c
      refine x_lload (zdm d_Md_qFloor_0 31 rfl) (n := 1) rfl ?_
      refine x_lconst (zdm d_Md_qFloor_0 32 rfl) (x := 1) rfl ?_
      obtain ⟨g2, H⟩ := H
      refine x_lsub (zdm d_Md_qFloor_0 33 rfl) g2 ?_
      refine x_goto (tgt := 55) (zdm d_Md_qFloor_0 34 rfl) (by decide) ?_
      exact x_lreturn (zdm d_Md_qFloor_0 36 rfl) rfl H
set_option maxRecDepth 20000 in
set_option maxHeartbeats 4000000 in
theorem E_Md_qFloor {G : zG} {h sl : Nat} (hsl : 2 ≤ sl) {l0 l2 : Int} {M : zM} {Q : Int → zM → Prop} (H : (¬ l2 = 0 → (l2 ≠ 0) ∧ ((zL (Int.tdiv l0 l2)) ∧ (((Int.tmod l0 l2) = 0 → Q (Int.tdiv l0 l2) M) ∧ (¬ (Int.tmod l0 l2) = 0 → (0 ≤ l0 → zX G (y_Md_qFloor, h, sl) (0, 0, 0, 0) 32 [(2, (1, l2)), (4, (1, (Int.tdiv l0 l2)))] [(0, 0)] M Q) ∧ (¬ 0 ≤ l0 → zX G (y_Md_qFloor, h, sl) (0, 0, 0, 0) 32 [(2, (1, l2)), (4, (1, (Int.tdiv l0 l2)))] [(0, 1)] M Q))))) ∧ (¬ (¬ l2 = 0) → Q 0 M)) : zCt G h sl 0 0 y_Md_qFloor [(1, l0), (1, l2)] M Q := by
  refine zCt.of (by decide +kernel) (Nat.le_of_ble_eq_true rfl) ?_
  refine x_lload_n (zdm d_Md_qFloor_0 0 rfl) rfl (n := 1) rfl ?_
  refine x_lconst (zdm d_Md_qFloor_0 1 rfl) (x := 0) rfl ?_
  refine x_lcmp_ne (tgt := 8) (zdm d_Md_qFloor_0 2 rfl) (zdm d_Md_qFloor_0 3 rfl) (by decide) (fun c => ?_) (fun c => ?_)
  · have H := H.1 c
    refine x_lload_n (zdm d_Md_qFloor_0 6 rfl) rfl (n := 0) rfl ?_
    refine x_lload_n (zdm d_Md_qFloor_0 7 rfl) rfl (n := 1) rfl ?_
    obtain ⟨g1, H⟩ := H
    obtain ⟨g2, H⟩ := H
    refine x_ldiv (zdm d_Md_qFloor_0 8 rfl) g1 g2 ?_
    refine x_lstore (zdm d_Md_qFloor_0 9 rfl) (zlt rfl) rfl ?_
    refine x_lload_n (zdm d_Md_qFloor_0 10 rfl) rfl (n := 1) rfl ?_
    refine x_lload_n (zdm d_Md_qFloor_0 11 rfl) rfl (n := 2) rfl ?_
    refine x_lrem (zdm d_Md_qFloor_0 12 rfl) g1 ?_
    refine x_lconst (zdm d_Md_qFloor_0 13 rfl) (x := 0) rfl ?_
    refine x_lcmp_eq (tgt := 53) (zdm d_Md_qFloor_0 14 rfl) (zdm d_Md_qFloor_0 15 rfl) (by decide) (fun c => ?_) (fun c => ?_)
    · have H := H.1 c
      refine x_lload (zdm d_Md_qFloor_0 35 rfl) (n := 0) rfl ?_
      exact x_lreturn (zdm d_Md_qFloor_0 36 rfl) rfl H
    · have H := H.2 c
      refine x_lload_n (zdm d_Md_qFloor_0 16 rfl) rfl (n := 1) rfl ?_
      refine x_lconst (zdm d_Md_qFloor_0 17 rfl) (x := 0) rfl ?_
      refine x_lcmp_ge (tgt := 31) (zdm d_Md_qFloor_0 18 rfl) (zdm d_Md_qFloor_0 19 rfl) (by decide) (fun c => ?_) (fun c => ?_)
      · have H := H.1 c
        refine x_iconst (zdm d_Md_qFloor_0 22 rfl) (zIl rfl) ?_
        exact zX.sub [2, 0] rfl H
      · have H := H.2 c
        refine x_iconst (zdm d_Md_qFloor_0 20 rfl) (zIl rfl) ?_
        refine x_goto (tgt := 32) (zdm d_Md_qFloor_0 21 rfl) (by decide) ?_
        exact zX.sub [2, 0] rfl H
  · have H := H.2 c
    refine x_lconst (zdm d_Md_qFloor_0 4 rfl) (x := 0) rfl ?_
    exact x_lreturn (zdm d_Md_qFloor_0 5 rfl) rfl H
set_option maxRecDepth 20000 in
set_option maxHeartbeats 4000000 in
theorem E_Md_qPuts {G : zG} {h sl : Nat} (hsl : 2 ≤ sl) {l1 : Int} {M : zM} {Q : Int → zM → Prop} (H : (0 ≤ (M 125 96) ∧ (M 125 96) < 1700) ∧ ((zI (((zwr M 195 (M 125 96) l1) 125 96) + 1)) ∧ (Q 0 (zwr (zwr M 195 (M 125 96) l1) 125 96 (((zwr M 195 (M 125 96) l1) 125 96) + 1))))) : zCt G h sl 0 0 y_Md_qPuts [(2, 125), (1, l1)] M Q := by
  refine zCt.of (by decide +kernel) (Nat.le_of_ble_eq_true rfl) ?_
  refine x_aload_n (zdm d_Md_qPuts_0 0 rfl) rfl (n := 0) rfl ?_
  refine x_getG (zdm d_Md_qPuts_0 1 rfl) f_Md_228 rfl rfl (by decide) hsl rfl ?_
  refine x_aload_n (zdm d_Md_qPuts_0 2 rfl) rfl (n := 0) rfl ?_
  refine x_getf (zdm d_Md_qPuts_0 3 rfl) f_Md_397 rfl rfl ?_
  refine x_lload_n (zdm d_Md_qPuts_0 4 rfl) rfl (n := 1) rfl ?_
  obtain ⟨g1, H⟩ := H
  refine x_last (zdm d_Md_qPuts_0 5 rfl) rfl g1 ?_
  refine x_aload_n (zdm d_Md_qPuts_0 6 rfl) rfl (n := 0) rfl ?_
  refine x_dup (zdm d_Md_qPuts_0 7 rfl) z2n1 ?_
  refine x_getf (zdm d_Md_qPuts_0 8 rfl) f_Md_397 rfl rfl ?_
  refine x_iconst (zdm d_Md_qPuts_0 9 rfl) (zIl rfl) ?_
  obtain ⟨g2, H⟩ := H
  refine x_iadd (zdm d_Md_qPuts_0 10 rfl) g2 ?_
  refine x_putf (zdm d_Md_qPuts_0 11 rfl) f_Md_397 rfl ⟨rfl, trivial⟩ (Or.inl rfl) ?_
  exact x_return (zdm d_Md_qPuts_0 12 rfl) rfl H
set_option maxRecDepth 20000 in
set_option maxHeartbeats 4000000 in
theorem B_Md_qJoins_238 {G : zG} {h sl : Nat} (hsl : 2 ≤ sl) {u : Nat × Nat × Nat × Nat} {s0 : Int} {M : zM} {Q : Int → zM → Prop} (H : zCt G h sl 0 0 y_Md_qPuts [(2, 125), (1, s0)] M (fun r1 M2 => Q 0 M2)) : zX G (y_Md_qJoins, h + 1, sl) u 238 [] [(1, s0), (2, 125)] M Q := by
  refine x_callVv (n := 1) (ci := 11) (zdm d_Md_qJoins_1 39 rfl) k_Md_400 (As := [(1, s0)]) rfl rfl rfl ⟨_, _, rfl⟩ (Nat.le_of_ble_eq_true rfl) rfl H (fun r1 M2 hr H => ?_)
  refine x_goto (tgt := 273) (zdm d_Md_qJoins_1 40 rfl) (by decide) ?_
  exact x_return (zdm d_Md_qJoins_1 58 rfl) rfl H
set_option maxRecDepth 20000 in
set_option maxHeartbeats 4000000 in
theorem B_Md_qJoins_219 {G : zG} {h sl : Nat} (hsl : 2 ≤ sl) {u : Nat × Nat × Nat × Nat} {s0 : Int} {M : zM} {Q : Int → zM → Prop} (H : zCt G h sl 0 0 y_Md_qPuts [(2, 125), (1, s0)] M (fun r1 M2 => Q 0 M2)) : zX G (y_Md_qJoins, h + 1, sl) u 219 [] [(1, s0), (2, 125)] M Q := by
  refine x_callVv (n := 1) (ci := 11) (zdm d_Md_qJoins_1 29 rfl) k_Md_400 (As := [(1, s0)]) rfl rfl rfl ⟨_, _, rfl⟩ (Nat.le_of_ble_eq_true rfl) rfl H (fun r1 M2 hr H => ?_)
  refine x_goto (tgt := 273) (zdm d_Md_qJoins_1 30 rfl) (by decide) ?_
  exact x_return (zdm d_Md_qJoins_1 58 rfl) rfl H
set_option maxRecDepth 20000 in
set_option maxHeartbeats 4000000 in
theorem B_Md_qJoins_200 {G : zG} {h sl : Nat} (hsl : 2 ≤ sl) {u : Nat × Nat × Nat × Nat} {s0 : Int} {M : zM} {Q : Int → zM → Prop} (H : zCt G h sl 0 0 y_Md_qPuts [(2, 125), (1, s0)] M (fun r1 M2 => Q 0 M2)) : zX G (y_Md_qJoins, h + 1, sl) u 200 [] [(1, s0), (2, 125)] M Q := by
  refine x_callVv (n := 1) (ci := 11) (zdm d_Md_qJoins_1 19 rfl) k_Md_400 (As := [(1, s0)]) rfl rfl rfl ⟨_, _, rfl⟩ (Nat.le_of_ble_eq_true rfl) rfl H (fun r1 M2 hr H => ?_)
  refine x_goto (tgt := 273) (zdm d_Md_qJoins_1 20 rfl) (by decide) ?_
  exact x_return (zdm d_Md_qJoins_1 58 rfl) rfl H
set_option maxRecDepth 20000 in
set_option maxHeartbeats 4000000 in
theorem B_Md_qJoins_181 {G : zG} {h sl : Nat} (hsl : 2 ≤ sl) {u : Nat × Nat × Nat × Nat} {s0 : Int} {M : zM} {Q : Int → zM → Prop} (H : zCt G h sl 0 0 y_Md_qPuts [(2, 125), (1, s0)] M (fun r1 M2 => Q 0 M2)) : zX G (y_Md_qJoins, h + 1, sl) u 181 [] [(1, s0), (2, 125)] M Q := by
  refine x_callVv (n := 1) (ci := 11) (zdm d_Md_qJoins_1 9 rfl) k_Md_400 (As := [(1, s0)]) rfl rfl rfl ⟨_, _, rfl⟩ (Nat.le_of_ble_eq_true rfl) rfl H (fun r1 M2 hr H => ?_)
  refine x_goto (tgt := 273) (zdm d_Md_qJoins_1 10 rfl) (by decide) ?_
  exact x_return (zdm d_Md_qJoins_1 58 rfl) rfl H
set_option maxRecDepth 20000 in
set_option maxHeartbeats 4000000 in
theorem B_Md_qJoins_161 {G : zG} {h sl : Nat} (hsl : 2 ≤ sl) {u : Nat × Nat × Nat × Nat} {s0 : Int} {M : zM} {Q : Int → zM → Prop} (H : zCt G h sl 0 0 y_Md_qPuts [(2, 125), (1, s0)] M (fun r1 M2 => Q 0 M2)) : zX G (y_Md_qJoins, h + 1, sl) u 161 [] [(1, s0), (2, 125)] M Q := by
  refine x_callVv (n := 1) (ci := 11) (zdm d_Md_qJoins_0 59 rfl) k_Md_400 (As := [(1, s0)]) rfl rfl rfl ⟨_, _, rfl⟩ (Nat.le_of_ble_eq_true rfl) rfl H (fun r1 M2 hr H => ?_)
  refine x_goto (tgt := 273) (zdm d_Md_qJoins_1 0 rfl) (by decide) ?_
  exact x_return (zdm d_Md_qJoins_1 58 rfl) rfl H
set_option maxRecDepth 20000 in
set_option maxHeartbeats 4000000 in
theorem E_Md_qJoins {G : zG} {h sl : Nat} (hsl : 2 ≤ sl) {l1 : Int} {M : zM} {Q : Int → zM → Prop} (H : (zI ((M 125 96) - 1)) ∧ ((0 ≤ ((M 125 96) - 1) ∧ ((M 125 96) - 1) < 1700) ∧ ((zI ((M 125 96) - 2)) ∧ ((0 ≤ ((M 125 96) - 2) ∧ ((M 125 96) - 2) < 1700) ∧ ((l1 = 1 → (zL ((M 195 ((M 125 96) - 2)) + (M 195 ((M 125 96) - 1)))) ∧ (zCt G h sl 0 0 y_Md_qClip [(1, ((M 195 ((M 125 96) - 2)) + (M 195 ((M 125 96) - 1))))] (zwr M 125 96 ((M 125 96) - 2)) (fun r6 M7 => zCt G h sl 0 0 y_Md_qPuts [(2, 125), (1, r6)] M7 (fun r8 M9 => Q 0 M9)))) ∧ (l1 = 2 → (zL ((M 195 ((M 125 96) - 2)) - (M 195 ((M 125 96) - 1)))) ∧ (zCt G h sl 0 0 y_Md_qClip [(1, ((M 195 ((M 125 96) - 2)) - (M 195 ((M 125 96) - 1))))] (zwr M 125 96 ((M 125 96) - 2)) (fun r11 M12 => zCt G h sl 0 0 y_Md_qPuts [(2, 125), (1, r11)] M12 (fun r13 M14 => Q 0 M14)))) ∧ (l1 = 3 → (zL ((M 195 ((M 125 96) - 2)) * (M 195 ((M 125 96) - 1)))) ∧ (zCt G h sl 0 0 y_Md_qClip [(1, ((M 195 ((M 125 96) - 2)) * (M 195 ((M 125 96) - 1))))] (zwr M 125 96 ((M 125 96) - 2)) (fun r16 M17 => zCt G h sl 0 0 y_Md_qPuts [(2, 125), (1, r16)] M17 (fun r18 M19 => Q 0 M19)))) ∧ (l1 = 4 → zCt G h sl 0 0 y_Md_qFloor [(1, (M 195 ((M 125 96) - 2))), (1, (M 195 ((M 125 96) - 1)))] (zwr M 125 96 ((M 125 96) - 2)) (fun r20 M21 => zCt G h sl 0 0 y_Md_qPuts [(2, 125), (1, r20)] M21 (fun r22 M23 => Q 0 M23))) ∧ (l1 = 5 → ((M 195 ((M 125 96) - 1)) ≤ (M 195 ((M 125 96) - 2)) → zX G (y_Md_qJoins, h + 1, sl) (0, 0, 0, 0) 161 [] [(1, (M 195 ((M 125 96) - 1))), (2, 125)] (zwr M 125 96 ((M 125 96) - 2)) Q) ∧ (¬ (M 195 ((M 125 96) - 1)) ≤ (M 195 ((M 125 96) - 2)) → zX G (y_Md_qJoins, h + 1, sl) (0, 0, 0, 0) 161 [] [(1, (M 195 ((M 125 96) - 2))), (2, 125)] (zwr M 125 96 ((M 125 96) - 2)) Q)) ∧ (l1 = 6 → ((M 195 ((M 125 96) - 2)) ≤ (M 195 ((M 125 96) - 1)) → zX G (y_Md_qJoins, h + 1, sl) (0, 0, 0, 0) 181 [] [(1, (M 195 ((M 125 96) - 1))), (2, 125)] (zwr M 125 96 ((M 125 96) - 2)) Q) ∧ (¬ (M 195 ((M 125 96) - 2)) ≤ (M 195 ((M 125 96) - 1)) → zX G (y_Md_qJoins, h + 1, sl) (0, 0, 0, 0) 181 [] [(1, (M 195 ((M 125 96) - 2))), (2, 125)] (zwr M 125 96 ((M 125 96) - 2)) Q)) ∧ (l1 = 7 → ((M 195 ((M 125 96) - 1)) ≤ (M 195 ((M 125 96) - 2)) → zX G (y_Md_qJoins, h + 1, sl) (0, 0, 0, 0) 200 [] [(1, 0), (2, 125)] (zwr M 125 96 ((M 125 96) - 2)) Q) ∧ (¬ (M 195 ((M 125 96) - 1)) ≤ (M 195 ((M 125 96) - 2)) → zX G (y_Md_qJoins, h + 1, sl) (0, 0, 0, 0) 200 [] [(1, 1), (2, 125)] (zwr M 125 96 ((M 125 96) - 2)) Q)) ∧ (l1 = 8 → ((M 195 ((M 125 96) - 2)) ≤ (M 195 ((M 125 96) - 1)) → zX G (y_Md_qJoins, h + 1, sl) (0, 0, 0, 0) 219 [] [(1, 0), (2, 125)] (zwr M 125 96 ((M 125 96) - 2)) Q) ∧ (¬ (M 195 ((M 125 96) - 2)) ≤ (M 195 ((M 125 96) - 1)) → zX G (y_Md_qJoins, h + 1, sl) (0, 0, 0, 0) 219 [] [(1, 1), (2, 125)] (zwr M 125 96 ((M 125 96) - 2)) Q)) ∧ (l1 = 9 → (¬ (M 195 ((M 125 96) - 2)) = (M 195 ((M 125 96) - 1)) → zX G (y_Md_qJoins, h + 1, sl) (0, 0, 0, 0) 238 [] [(1, 0), (2, 125)] (zwr M 125 96 ((M 125 96) - 2)) Q) ∧ (¬ (¬ (M 195 ((M 125 96) - 2)) = (M 195 ((M 125 96) - 1))) → zX G (y_Md_qJoins, h + 1, sl) (0, 0, 0, 0) 238 [] [(1, 1), (2, 125)] (zwr M 125 96 ((M 125 96) - 2)) Q)) ∧ (l1 = 10 → (zL ((M 195 ((M 125 96) - 2)) * (M 195 ((M 125 96) - 1)))) ∧ (zCt G h sl 0 0 y_Md_qPuts [(2, 125), (1, ((M 195 ((M 125 96) - 2)) * (M 195 ((M 125 96) - 1))))] (zwr M 125 96 ((M 125 96) - 2)) (fun r25 M26 => Q 0 M26))) ∧ ((l1 < 1 ∨ 10 < l1) → (zL ((M 195 ((M 125 96) - 2)) + (M 195 ((M 125 96) - 1)))) ∧ ((((M 195 ((M 125 96) - 2)) + (M 195 ((M 125 96) - 1))) ≤ 0 → zCt G h sl 0 0 y_Md_qPuts [(2, 125), (1, 0)] (zwr M 125 96 ((M 125 96) - 2)) (fun r28 M29 => Q 0 M29)) ∧ (¬ ((M 195 ((M 125 96) - 2)) + (M 195 ((M 125 96) - 1))) ≤ 0 → zCt G h sl 0 0 y_Md_qPuts [(2, 125), (1, 1)] (zwr M 125 96 ((M 125 96) - 2)) (fun r30 M31 => Q 0 M31))))))))) : zCt G (h + 1) sl 0 0 y_Md_qJoins [(2, 125), (0, l1)] M Q := by
  refine zCt.of (by decide +kernel) (Nat.le_of_ble_eq_true rfl) ?_
  refine x_aload_n (zdm d_Md_qJoins_0 0 rfl) rfl (n := 0) rfl ?_
  refine x_getG (zdm d_Md_qJoins_0 1 rfl) f_Md_228 rfl rfl (by decide) hsl rfl ?_
  refine x_aload_n (zdm d_Md_qJoins_0 2 rfl) rfl (n := 0) rfl ?_
  refine x_getf (zdm d_Md_qJoins_0 3 rfl) f_Md_397 rfl rfl ?_
  refine x_iconst (zdm d_Md_qJoins_0 4 rfl) (zIl rfl) ?_
  obtain ⟨g1, H⟩ := H
  refine x_isub (zdm d_Md_qJoins_0 5 rfl) g1 ?_
  obtain ⟨g2, H⟩ := H
  refine x_lald (zdm d_Md_qJoins_0 6 rfl) rfl g2 ?_
  refine x_lstore_n (zdm d_Md_qJoins_0 7 rfl) rfl (zlt rfl) rfl ?_
  refine x_aload_n (zdm d_Md_qJoins_0 8 rfl) rfl (n := 1) rfl ?_
  refine x_getG (zdm d_Md_qJoins_0 9 rfl) f_Md_228 rfl rfl (by decide) hsl rfl ?_
  refine x_aload_n (zdm d_Md_qJoins_0 10 rfl) rfl (n := 1) rfl ?_
  refine x_getf (zdm d_Md_qJoins_0 11 rfl) f_Md_397 rfl rfl ?_
  refine x_iconst (zdm d_Md_qJoins_0 12 rfl) (zIl rfl) ?_
  obtain ⟨g3, H⟩ := H
  refine x_isub (zdm d_Md_qJoins_0 13 rfl) g3 ?_
  obtain ⟨g4, H⟩ := H
  refine x_lald (zdm d_Md_qJoins_0 14 rfl) rfl g4 ?_
  refine x_lstore (zdm d_Md_qJoins_0 15 rfl) (zlt rfl) rfl ?_
  refine x_aload_n (zdm d_Md_qJoins_0 16 rfl) rfl (n := 2) rfl ?_
  refine x_dup (zdm d_Md_qJoins_0 17 rfl) z2n1 ?_
  refine x_getf (zdm d_Md_qJoins_0 18 rfl) f_Md_397 rfl rfl ?_
  refine x_iconst (zdm d_Md_qJoins_0 19 rfl) (zIl rfl) ?_
  refine x_isub (zdm d_Md_qJoins_0 20 rfl) g3 ?_
  refine x_putf (zdm d_Md_qJoins_0 21 rfl) f_Md_397 rfl ⟨rfl, trivial⟩ (Or.inl rfl) ?_
  refine x_iload_n (zdm d_Md_qJoins_0 22 rfl) rfl (n := 3) rfl ?_
  by_cases c0 : l1 = 1
  · refine x_tsw (tgt := 92) (zdm d_Md_qJoins_0 23 rfl) c0 (by decide) rfl (by decide) ?_
    have H := H.1 c0
    refine x_aload_n (zdm d_Md_qJoins_0 24 rfl) rfl (n := 2) rfl ?_
    refine x_lload (zdm d_Md_qJoins_0 25 rfl) (n := 0) rfl ?_
    refine x_lload_n (zdm d_Md_qJoins_0 26 rfl) rfl (n := 1) rfl ?_
    obtain ⟨g5, H⟩ := H
    refine x_ladd (zdm d_Md_qJoins_0 27 rfl) g5 ?_
    refine x_callSl (n := 1) (zdm d_Md_qJoins_0 28 rfl) k_Md_605 (As := [(1, ((M 195 ((M 125 96) - 2)) + (M 195 ((M 125 96) - 1))))]) rfl rfl (Nat.le_of_ble_eq_true rfl) rfl H (fun r6 M7 hr H => ?_)
    refine x_callVv (n := 1) (ci := 11) (zdm d_Md_qJoins_0 29 rfl) k_Md_400 (As := [(1, r6)]) rfl rfl rfl ⟨_, _, rfl⟩ (Nat.le_of_ble_eq_true rfl) rfl H (fun r8 M9 hr H => ?_)
    refine x_goto (tgt := 273) (zdm d_Md_qJoins_0 30 rfl) (by decide) ?_
    exact x_return (zdm d_Md_qJoins_1 58 rfl) rfl H
  · skip
    by_cases c1 : l1 = 2
    · refine x_tsw (tgt := 106) (zdm d_Md_qJoins_0 23 rfl) c1 (by decide) rfl (by decide) ?_
      have H := H.2.1 c1
      refine x_aload_n (zdm d_Md_qJoins_0 31 rfl) rfl (n := 2) rfl ?_
      refine x_lload (zdm d_Md_qJoins_0 32 rfl) (n := 0) rfl ?_
      refine x_lload_n (zdm d_Md_qJoins_0 33 rfl) rfl (n := 1) rfl ?_
      obtain ⟨g10, H⟩ := H
      refine x_lsub (zdm d_Md_qJoins_0 34 rfl) g10 ?_
      refine x_callSl (n := 1) (zdm d_Md_qJoins_0 35 rfl) k_Md_605 (As := [(1, ((M 195 ((M 125 96) - 2)) - (M 195 ((M 125 96) - 1))))]) rfl rfl (Nat.le_of_ble_eq_true rfl) rfl H (fun r11 M12 hr H => ?_)
      refine x_callVv (n := 1) (ci := 11) (zdm d_Md_qJoins_0 36 rfl) k_Md_400 (As := [(1, r11)]) rfl rfl rfl ⟨_, _, rfl⟩ (Nat.le_of_ble_eq_true rfl) rfl H (fun r13 M14 hr H => ?_)
      refine x_goto (tgt := 273) (zdm d_Md_qJoins_0 37 rfl) (by decide) ?_
      exact x_return (zdm d_Md_qJoins_1 58 rfl) rfl H
    · skip
      by_cases c2 : l1 = 3
      · refine x_tsw (tgt := 120) (zdm d_Md_qJoins_0 23 rfl) c2 (by decide) rfl (by decide) ?_
        have H := H.2.2.1 c2
        refine x_aload_n (zdm d_Md_qJoins_0 38 rfl) rfl (n := 2) rfl ?_
        refine x_lload (zdm d_Md_qJoins_0 39 rfl) (n := 0) rfl ?_
        refine x_lload_n (zdm d_Md_qJoins_0 40 rfl) rfl (n := 1) rfl ?_
        obtain ⟨g15, H⟩ := H
        refine x_lmul (zdm d_Md_qJoins_0 41 rfl) g15 ?_
        refine x_callSl (n := 1) (zdm d_Md_qJoins_0 42 rfl) k_Md_605 (As := [(1, ((M 195 ((M 125 96) - 2)) * (M 195 ((M 125 96) - 1))))]) rfl rfl (Nat.le_of_ble_eq_true rfl) rfl H (fun r16 M17 hr H => ?_)
        refine x_callVv (n := 1) (ci := 11) (zdm d_Md_qJoins_0 43 rfl) k_Md_400 (As := [(1, r16)]) rfl rfl rfl ⟨_, _, rfl⟩ (Nat.le_of_ble_eq_true rfl) rfl H (fun r18 M19 hr H => ?_)
        refine x_goto (tgt := 273) (zdm d_Md_qJoins_0 44 rfl) (by decide) ?_
        exact x_return (zdm d_Md_qJoins_1 58 rfl) rfl H
      · skip
        by_cases c3 : l1 = 4
        · refine x_tsw (tgt := 134) (zdm d_Md_qJoins_0 23 rfl) c3 (by decide) rfl (by decide) ?_
          have H := H.2.2.2.1 c3
          refine x_aload_n (zdm d_Md_qJoins_0 45 rfl) rfl (n := 2) rfl ?_
          refine x_lload (zdm d_Md_qJoins_0 46 rfl) (n := 0) rfl ?_
          refine x_lload_n (zdm d_Md_qJoins_0 47 rfl) rfl (n := 1) rfl ?_
          refine x_callSl (n := 2) (zdm d_Md_qJoins_0 48 rfl) k_Md_609 (As := [(1, (M 195 ((M 125 96) - 2))), (1, (M 195 ((M 125 96) - 1)))]) rfl rfl (Nat.le_of_ble_eq_true rfl) rfl H (fun r20 M21 hr H => ?_)
          refine x_callVv (n := 1) (ci := 11) (zdm d_Md_qJoins_0 49 rfl) k_Md_400 (As := [(1, r20)]) rfl rfl rfl ⟨_, _, rfl⟩ (Nat.le_of_ble_eq_true rfl) rfl H (fun r22 M23 hr H => ?_)
          refine x_goto (tgt := 273) (zdm d_Md_qJoins_0 50 rfl) (by decide) ?_
          exact x_return (zdm d_Md_qJoins_1 58 rfl) rfl H
        · skip
          by_cases c4 : l1 = 5
          · refine x_tsw (tgt := 147) (zdm d_Md_qJoins_0 23 rfl) c4 (by decide) rfl (by decide) ?_
            have H := H.2.2.2.2.1 c4
            refine x_aload_n (zdm d_Md_qJoins_0 51 rfl) rfl (n := 2) rfl ?_
            refine x_lload (zdm d_Md_qJoins_0 52 rfl) (n := 0) rfl ?_
            refine x_lload_n (zdm d_Md_qJoins_0 53 rfl) rfl (n := 1) rfl ?_
            refine x_lcmp_ge (tgt := 160) (zdm d_Md_qJoins_0 54 rfl) (zdm d_Md_qJoins_0 55 rfl) (by decide) (fun c => ?_) (fun c => ?_)
            · have H := H.1 c
              refine x_lload_n (zdm d_Md_qJoins_0 58 rfl) rfl (n := 1) rfl ?_
              exact zX.sub [] rfl H
            · have H := H.2 c
              refine x_lload (zdm d_Md_qJoins_0 56 rfl) (n := 0) rfl ?_
              refine x_goto (tgt := 161) (zdm d_Md_qJoins_0 57 rfl) (by decide) ?_
              exact zX.sub [] rfl H
          · skip
            by_cases c5 : l1 = 6
            · refine x_tsw (tgt := 167) (zdm d_Md_qJoins_0 23 rfl) c5 (by decide) rfl (by decide) ?_
              have H := H.2.2.2.2.2.1 c5
              refine x_aload_n (zdm d_Md_qJoins_1 1 rfl) rfl (n := 2) rfl ?_
              refine x_lload (zdm d_Md_qJoins_1 2 rfl) (n := 0) rfl ?_
              refine x_lload_n (zdm d_Md_qJoins_1 3 rfl) rfl (n := 1) rfl ?_
              refine x_lcmp_le (tgt := 180) (zdm d_Md_qJoins_1 4 rfl) (zdm d_Md_qJoins_1 5 rfl) (by decide) (fun c => ?_) (fun c => ?_)
              · have H := H.1 c
                refine x_lload_n (zdm d_Md_qJoins_1 8 rfl) rfl (n := 1) rfl ?_
                exact zX.sub [] rfl H
              · have H := H.2 c
                refine x_lload (zdm d_Md_qJoins_1 6 rfl) (n := 0) rfl ?_
                refine x_goto (tgt := 181) (zdm d_Md_qJoins_1 7 rfl) (by decide) ?_
                exact zX.sub [] rfl H
            · skip
              by_cases c6 : l1 = 7
              · refine x_tsw (tgt := 187) (zdm d_Md_qJoins_0 23 rfl) c6 (by decide) rfl (by decide) ?_
                have H := H.2.2.2.2.2.2.1 c6
                refine x_aload_n (zdm d_Md_qJoins_1 11 rfl) rfl (n := 2) rfl ?_
                refine x_lload (zdm d_Md_qJoins_1 12 rfl) (n := 0) rfl ?_
                refine x_lload_n (zdm d_Md_qJoins_1 13 rfl) rfl (n := 1) rfl ?_
                refine x_lcmp_ge (tgt := 199) (zdm d_Md_qJoins_1 14 rfl) (zdm d_Md_qJoins_1 15 rfl) (by decide) (fun c => ?_) (fun c => ?_)
                · have H := H.1 c
                  refine x_lconst (zdm d_Md_qJoins_1 18 rfl) (x := 0) rfl ?_
                  exact zX.sub [] rfl H
                · have H := H.2 c
                  refine x_lconst (zdm d_Md_qJoins_1 16 rfl) (x := 1) rfl ?_
                  refine x_goto (tgt := 200) (zdm d_Md_qJoins_1 17 rfl) (by decide) ?_
                  exact zX.sub [] rfl H
              · skip
                by_cases c7 : l1 = 8
                · refine x_tsw (tgt := 206) (zdm d_Md_qJoins_0 23 rfl) c7 (by decide) rfl (by decide) ?_
                  have H := H.2.2.2.2.2.2.2.1 c7
                  refine x_aload_n (zdm d_Md_qJoins_1 21 rfl) rfl (n := 2) rfl ?_
                  refine x_lload (zdm d_Md_qJoins_1 22 rfl) (n := 0) rfl ?_
                  refine x_lload_n (zdm d_Md_qJoins_1 23 rfl) rfl (n := 1) rfl ?_
                  refine x_lcmp_le (tgt := 218) (zdm d_Md_qJoins_1 24 rfl) (zdm d_Md_qJoins_1 25 rfl) (by decide) (fun c => ?_) (fun c => ?_)
                  · have H := H.1 c
                    refine x_lconst (zdm d_Md_qJoins_1 28 rfl) (x := 0) rfl ?_
                    exact zX.sub [] rfl H
                  · have H := H.2 c
                    refine x_lconst (zdm d_Md_qJoins_1 26 rfl) (x := 1) rfl ?_
                    refine x_goto (tgt := 219) (zdm d_Md_qJoins_1 27 rfl) (by decide) ?_
                    exact zX.sub [] rfl H
                · skip
                  by_cases c8 : l1 = 9
                  · refine x_tsw (tgt := 225) (zdm d_Md_qJoins_0 23 rfl) c8 (by decide) rfl (by decide) ?_
                    have H := H.2.2.2.2.2.2.2.2.1 c8
                    refine x_aload_n (zdm d_Md_qJoins_1 31 rfl) rfl (n := 2) rfl ?_
                    refine x_lload (zdm d_Md_qJoins_1 32 rfl) (n := 0) rfl ?_
                    refine x_lload_n (zdm d_Md_qJoins_1 33 rfl) rfl (n := 1) rfl ?_
                    refine x_lcmp_ne (tgt := 237) (zdm d_Md_qJoins_1 34 rfl) (zdm d_Md_qJoins_1 35 rfl) (by decide) (fun c => ?_) (fun c => ?_)
                    · have H := H.1 c
                      refine x_lconst (zdm d_Md_qJoins_1 38 rfl) (x := 0) rfl ?_
                      exact zX.sub [] rfl H
                    · have H := H.2 c
                      refine x_lconst (zdm d_Md_qJoins_1 36 rfl) (x := 1) rfl ?_
                      refine x_goto (tgt := 238) (zdm d_Md_qJoins_1 37 rfl) (by decide) ?_
                      exact zX.sub [] rfl H
                  · skip
                    by_cases c9 : l1 = 10
                    · refine x_tsw (tgt := 244) (zdm d_Md_qJoins_0 23 rfl) c9 (by decide) rfl (by decide) ?_
                      have H := H.2.2.2.2.2.2.2.2.2.1 c9
                      refine x_aload_n (zdm d_Md_qJoins_1 41 rfl) rfl (n := 2) rfl ?_
                      refine x_lload (zdm d_Md_qJoins_1 42 rfl) (n := 0) rfl ?_
                      refine x_lload_n (zdm d_Md_qJoins_1 43 rfl) rfl (n := 1) rfl ?_
                      obtain ⟨g24, H⟩ := H
                      refine x_lmul (zdm d_Md_qJoins_1 44 rfl) g24 ?_
                      refine x_callVv (n := 1) (ci := 11) (zdm d_Md_qJoins_1 45 rfl) k_Md_400 (As := [(1, ((M 195 ((M 125 96) - 2)) * (M 195 ((M 125 96) - 1))))]) rfl rfl rfl ⟨_, _, rfl⟩ (Nat.le_of_ble_eq_true rfl) rfl H (fun r25 M26 hr H => ?_)
                      refine x_goto (tgt := 273) (zdm d_Md_qJoins_1 46 rfl) (by decide) ?_
                      exact x_return (zdm d_Md_qJoins_1 58 rfl) rfl H
                    · skip
                      have cd : (l1 < 1 ∨ 10 < l1) := by omega
                      refine x_tswd (tgt := 255) (zdm d_Md_qJoins_0 23 rfl) cd (by decide) ?_
                      have H := H.2.2.2.2.2.2.2.2.2.2 cd
                      refine x_aload_n (zdm d_Md_qJoins_1 47 rfl) rfl (n := 2) rfl ?_
                      refine x_lload (zdm d_Md_qJoins_1 48 rfl) (n := 0) rfl ?_
                      refine x_lload_n (zdm d_Md_qJoins_1 49 rfl) rfl (n := 1) rfl ?_
                      obtain ⟨g27, H⟩ := H
                      refine x_ladd (zdm d_Md_qJoins_1 50 rfl) g27 ?_
                      refine x_lconst (zdm d_Md_qJoins_1 51 rfl) (x := 0) rfl ?_
                      refine x_lcmp_le (tgt := 269) (zdm d_Md_qJoins_1 52 rfl) (zdm d_Md_qJoins_1 53 rfl) (by decide) (fun c => ?_) (fun c => ?_)
                      · have H := H.1 c
                        refine x_lconst (zdm d_Md_qJoins_1 56 rfl) (x := 0) rfl ?_
                        refine x_callVv (n := 1) (ci := 11) (zdm d_Md_qJoins_1 57 rfl) k_Md_400 (As := [(1, 0)]) rfl rfl rfl ⟨_, _, rfl⟩ (Nat.le_of_ble_eq_true rfl) rfl H (fun r28 M29 hr H => ?_)
                        exact x_return (zdm d_Md_qJoins_1 58 rfl) rfl H
                      · have H := H.2 c
                        refine x_lconst (zdm d_Md_qJoins_1 54 rfl) (x := 1) rfl ?_
                        refine x_goto (tgt := 270) (zdm d_Md_qJoins_1 55 rfl) (by decide) ?_
                        refine x_callVv (n := 1) (ci := 11) (zdm d_Md_qJoins_1 57 rfl) k_Md_400 (As := [(1, 1)]) rfl rfl rfl ⟨_, _, rfl⟩ (Nat.le_of_ble_eq_true rfl) rfl H (fun r30 M31 hr H => ?_)
                        exact x_return (zdm d_Md_qJoins_1 58 rfl) rfl H
set_option maxRecDepth 20000 in
set_option maxHeartbeats 4000000 in
theorem E_Md_qPartOf {G : zG} {h sl : Nat} (hsl : 2 ≤ sl) {l1 l2 : Int} {M : zM} {Q : Int → zM → Prop} (H : (l1 < 8 → (l1 = 0 → Q (M 164 0) M) ∧ (l1 = 1 → Q (M 125 54) M) ∧ (l1 = 2 → Q (M 125 53) M) ∧ (l1 = 3 → zCt G h sl 0 0 y_Md_sortOf [(2, 125), (0, (M 125 53))] M (fun r1 M2 => Q r1 M2)) ∧ (l1 = 4 → zCt G h sl 0 0 y_Md_valueOf [(2, 125), (0, (M 125 53))] M (fun r3 M4 => Q r3 M4)) ∧ ((l1 < 0 ∨ 4 < l1) → zCt G h sl 0 0 y_Md_valueOf [(2, 125), (0, (M 125 53))] M (fun r5 M6 => zCt G h sl 0 0 y_Md_trueOf [(2, 125), (0, (M6 164 0)), (0, (M6 125 53))] M6 (fun r7 M8 => (zI (r5 - r7)) ∧ (Q (r5 - r7) M8))))) ∧ (¬ l1 < 8 → (zI (l1 - 8)) ∧ (zCt G h sl 0 0 y_Md_valueOf [(2, 125), (0, (l1 - 8))] M (fun r11 M12 => Q r11 M12)))) : zCt G (h + 1) sl 0 0 y_Md_qPartOf [(2, 125), (0, l1), (0, l2)] M Q := by
  refine zCt.of (by decide +kernel) (Nat.le_of_ble_eq_true rfl) ?_
  refine x_iload_n (zdm d_Md_qPartOf_0 0 rfl) rfl (n := 1) rfl ?_
  refine x_bipush (zdm d_Md_qPartOf_0 1 rfl) (by decide) ?_
  refine x_icmplt (tgt := 16) (zdm d_Md_qPartOf_0 2 rfl) (by decide) (fun c => ?_) (fun c => ?_)
  · have H := H.1 c
    refine x_iload_n (zdm d_Md_qPartOf_0 10 rfl) rfl (n := 1) rfl ?_
    by_cases c0 : l1 = 0
    · refine x_tsw (tgt := 52) (zdm d_Md_qPartOf_0 11 rfl) c0 (by decide) rfl (by decide) ?_
      have H := H.1 c0
      refine x_aload_n (zdm d_Md_qPartOf_0 12 rfl) rfl (n := 0) rfl ?_
      refine x_getG (zdm d_Md_qPartOf_0 13 rfl) f_Md_130 rfl rfl (by decide) hsl rfl ?_
      refine x_iconst (zdm d_Md_qPartOf_0 14 rfl) (zIl rfl) ?_
      refine x_iald (zdm d_Md_qPartOf_0 15 rfl) rfl ⟨by decide, by decide⟩ ?_
      refine x_i2l (zdm d_Md_qPartOf_0 16 rfl) ?_
      exact x_lreturn (zdm d_Md_qPartOf_0 17 rfl) rfl H
    · skip
      by_cases c1 : l1 = 1
      · refine x_tsw (tgt := 60) (zdm d_Md_qPartOf_0 11 rfl) c1 (by decide) rfl (by decide) ?_
        have H := H.2.1 c1
        refine x_aload_n (zdm d_Md_qPartOf_0 18 rfl) rfl (n := 0) rfl ?_
        refine x_getf (zdm d_Md_qPartOf_0 19 rfl) f_Md_411 rfl rfl ?_
        refine x_i2l (zdm d_Md_qPartOf_0 20 rfl) ?_
        exact x_lreturn (zdm d_Md_qPartOf_0 21 rfl) rfl H
      · skip
        by_cases c2 : l1 = 2
        · refine x_tsw (tgt := 66) (zdm d_Md_qPartOf_0 11 rfl) c2 (by decide) rfl (by decide) ?_
          have H := H.2.2.1 c2
          refine x_aload_n (zdm d_Md_qPartOf_0 22 rfl) rfl (n := 0) rfl ?_
          refine x_getf (zdm d_Md_qPartOf_0 23 rfl) f_Md_613 rfl rfl ?_
          refine x_i2l (zdm d_Md_qPartOf_0 24 rfl) ?_
          exact x_lreturn (zdm d_Md_qPartOf_0 25 rfl) rfl H
        · skip
          by_cases c3 : l1 = 3
          · refine x_tsw (tgt := 72) (zdm d_Md_qPartOf_0 11 rfl) c3 (by decide) rfl (by decide) ?_
            have H := H.2.2.2.1 c3
            refine x_aload_n (zdm d_Md_qPartOf_0 26 rfl) rfl (n := 0) rfl ?_
            refine x_aload_n (zdm d_Md_qPartOf_0 27 rfl) rfl (n := 0) rfl ?_
            refine x_getf (zdm d_Md_qPartOf_0 28 rfl) f_Md_613 rfl rfl ?_
            refine x_callVi (n := 1) (ci := 11) (zdm d_Md_qPartOf_0 29 rfl) k_Md_424 (As := [(0, (M 125 53))]) rfl rfl rfl ⟨_, _, rfl⟩ (Nat.le_of_ble_eq_true rfl) trivial H (fun r1 M2 hr H => ?_)
            refine x_i2l (zdm d_Md_qPartOf_0 30 rfl) ?_
            exact x_lreturn (zdm d_Md_qPartOf_0 31 rfl) rfl H
          · skip
            by_cases c4 : l1 = 4
            · refine x_tsw (tgt := 82) (zdm d_Md_qPartOf_0 11 rfl) c4 (by decide) rfl (by decide) ?_
              have H := H.2.2.2.2.1 c4
              refine x_aload_n (zdm d_Md_qPartOf_0 32 rfl) rfl (n := 0) rfl ?_
              refine x_aload_n (zdm d_Md_qPartOf_0 33 rfl) rfl (n := 0) rfl ?_
              refine x_getf (zdm d_Md_qPartOf_0 34 rfl) f_Md_613 rfl rfl ?_
              refine x_callVi (n := 1) (ci := 11) (zdm d_Md_qPartOf_0 35 rfl) k_Md_430 (As := [(0, (M 125 53))]) rfl rfl rfl ⟨_, _, rfl⟩ (Nat.le_of_ble_eq_true rfl) trivial H (fun r3 M4 hr H => ?_)
              refine x_i2l (zdm d_Md_qPartOf_0 36 rfl) ?_
              exact x_lreturn (zdm d_Md_qPartOf_0 37 rfl) rfl H
            · skip
              have cd : (l1 < 0 ∨ 4 < l1) := by omega
              refine x_tswd (tgt := 92) (zdm d_Md_qPartOf_0 11 rfl) cd (by decide) ?_
              have H := H.2.2.2.2.2 cd
              refine x_aload_n (zdm d_Md_qPartOf_0 38 rfl) rfl (n := 0) rfl ?_
              refine x_aload_n (zdm d_Md_qPartOf_0 39 rfl) rfl (n := 0) rfl ?_
              refine x_getf (zdm d_Md_qPartOf_0 40 rfl) f_Md_613 rfl rfl ?_
              refine x_callVi (n := 1) (ci := 11) (zdm d_Md_qPartOf_0 41 rfl) k_Md_430 (As := [(0, (M 125 53))]) rfl rfl rfl ⟨_, _, rfl⟩ (Nat.le_of_ble_eq_true rfl) trivial H (fun r5 M6 hr H => ?_)
              refine x_aload_n (zdm d_Md_qPartOf_0 42 rfl) rfl (n := 0) rfl ?_
              refine x_aload_n (zdm d_Md_qPartOf_0 43 rfl) rfl (n := 0) rfl ?_
              refine x_getG (zdm d_Md_qPartOf_0 44 rfl) f_Md_130 rfl rfl (by decide) hsl rfl ?_
              refine x_iconst (zdm d_Md_qPartOf_0 45 rfl) (zIl rfl) ?_
              refine x_iald (zdm d_Md_qPartOf_0 46 rfl) rfl ⟨by decide, by decide⟩ ?_
              refine x_aload_n (zdm d_Md_qPartOf_0 47 rfl) rfl (n := 0) rfl ?_
              refine x_getf (zdm d_Md_qPartOf_0 48 rfl) f_Md_613 rfl rfl ?_
              refine x_callVi (n := 2) (ci := 11) (zdm d_Md_qPartOf_0 49 rfl) k_Md_449 (As := [(0, (M6 164 0)), (0, (M6 125 53))]) rfl rfl rfl ⟨_, _, rfl⟩ (Nat.le_of_ble_eq_true rfl) trivial H (fun r7 M8 hr H => ?_)
              obtain ⟨g9, H⟩ := H
              refine x_isub (zdm d_Md_qPartOf_0 50 rfl) g9 ?_
              refine x_i2l (zdm d_Md_qPartOf_0 51 rfl) ?_
              exact x_lreturn (zdm d_Md_qPartOf_0 52 rfl) rfl H
  · have H := H.2 c
    refine x_aload_n (zdm d_Md_qPartOf_0 3 rfl) rfl (n := 0) rfl ?_
    refine x_iload_n (zdm d_Md_qPartOf_0 4 rfl) rfl (n := 1) rfl ?_
    refine x_bipush (zdm d_Md_qPartOf_0 5 rfl) (by decide) ?_
    obtain ⟨g10, H⟩ := H
    refine x_isub (zdm d_Md_qPartOf_0 6 rfl) g10 ?_
    refine x_callVi (n := 1) (ci := 11) (zdm d_Md_qPartOf_0 7 rfl) k_Md_430 (As := [(0, (l1 - 8))]) rfl rfl rfl ⟨_, _, rfl⟩ (Nat.le_of_ble_eq_true rfl) trivial H (fun r11 M12 hr H => ?_)
    refine x_i2l (zdm d_Md_qPartOf_0 8 rfl) ?_
    exact x_lreturn (zdm d_Md_qPartOf_0 9 rfl) rfl H
set_option maxRecDepth 20000 in
set_option maxHeartbeats 4000000 in
theorem E_Md_qOf {G : zG} {h sl : Nat} (hsl : 2 ≤ sl) {l1 l2 l4 : Int} {M : zM} {Q : Int → zM → Prop} (H : (l1 = 0 → zCt G h sl 0 0 y_Md_isAhead [(2, 125), (1, l2), (0, 0), (0, 200)] M (fun r1 M2 => (r1 = 0 → Q 0 M2) ∧ (¬ r1 = 0 → (zI (8 * (zl2i l2))) ∧ ((zI ((8 * (zl2i l2)) + l4)) ∧ ((0 ≤ ((8 * (zl2i l2)) + l4) ∧ ((8 * (zl2i l2)) + l4) < 1608) ∧ (Q (M2 168 ((8 * (zl2i l2)) + l4)) M2)))))) ∧ ((¬ l1 = 0) → zCt G h sl 0 0 y_Md_isColumn [(2, 125), (1, l2)] M (fun r7 M8 => (r7 = 0 → Q 0 M8) ∧ (¬ r7 = 0 → zCt G h sl 0 0 y_Md_valueOf [(2, 125), (0, (zl2i l2))] M8 (fun r10 M11 => Q r10 M11))))) : zCt G (h + 1) sl 0 0 y_Md_qOf [(2, 125), (0, l1), (1, l2), (0, l4)] M Q := by
  refine zCt.of (by decide +kernel) (Nat.le_of_ble_eq_true rfl) ?_
  refine x_iload_n (zdm d_Md_qOf_0 0 rfl) rfl (n := 1) rfl ?_
  by_cases c0 : l1 = 0
  · refine x_lsw (tgt := 20) (zdm d_Md_qOf_0 1 rfl) rfl (by rw [c0]) (by decide) ?_
    have H := H.1 c0
    refine x_aload_n (zdm d_Md_qOf_0 2 rfl) rfl (n := 0) rfl ?_
    refine x_lload_n (zdm d_Md_qOf_0 3 rfl) rfl (n := 2) rfl ?_
    refine x_iconst (zdm d_Md_qOf_0 4 rfl) (zIl rfl) ?_
    refine x_sipush (zdm d_Md_qOf_0 5 rfl) (by decide) ?_
    refine x_callVi (n := 3) (ci := 11) (zdm d_Md_qOf_0 6 rfl) k_Md_489 (As := [(1, l2), (0, 0), (0, 200)]) rfl rfl rfl ⟨_, _, rfl⟩ (Nat.le_of_ble_eq_true rfl) trivial H (fun r1 M2 hr H => ?_)
    have b3 : r1 = 0 ∨ r1 = 1 := hr
    refine x_ifeq (tgt := 49) (zdm d_Md_qOf_0 7 rfl) (by decide) (fun c => ?_) (fun c => ?_)
    · have H := H.1 c
      refine x_lconst (zdm d_Md_qOf_0 19 rfl) (x := 0) rfl ?_
      exact x_lreturn (zdm d_Md_qOf_0 20 rfl) rfl H
    · have H := H.2 c
      refine x_aload_n (zdm d_Md_qOf_0 8 rfl) rfl (n := 0) rfl ?_
      refine x_getG (zdm d_Md_qOf_0 9 rfl) f_Md_142 rfl rfl (by decide) hsl rfl ?_
      refine x_bipush (zdm d_Md_qOf_0 10 rfl) (by decide) ?_
      refine x_lload_n (zdm d_Md_qOf_0 11 rfl) rfl (n := 2) rfl ?_
      refine x_l2i (zdm d_Md_qOf_0 12 rfl) ?_
      obtain ⟨g4, H⟩ := H
      refine x_imul (zdm d_Md_qOf_0 13 rfl) g4 ?_
      refine x_iload (zdm d_Md_qOf_0 14 rfl) (n := 3) rfl ?_
      obtain ⟨g5, H⟩ := H
      refine x_iadd (zdm d_Md_qOf_0 15 rfl) g5 ?_
      obtain ⟨g6, H⟩ := H
      refine x_iald (zdm d_Md_qOf_0 16 rfl) rfl g6 ?_
      refine x_i2l (zdm d_Md_qOf_0 17 rfl) ?_
      refine x_goto (tgt := 50) (zdm d_Md_qOf_0 18 rfl) (by decide) ?_
      exact x_lreturn (zdm d_Md_qOf_0 20 rfl) rfl H
  · skip
    have c0n : ¬ (0 : Int) = l1 := fun e => c0 e.symm
    refine x_lsw (off := 50) (tgt := 51) (zdm d_Md_qOf_0 1 rfl) rfl (by simp [Op.lookupswitch.offset, c0n]) (by decide) ?_
    have H := H.2 c0
    refine x_aload_n (zdm d_Md_qOf_0 21 rfl) rfl (n := 0) rfl ?_
    refine x_lload_n (zdm d_Md_qOf_0 22 rfl) rfl (n := 2) rfl ?_
    refine x_callVi (n := 1) (ci := 11) (zdm d_Md_qOf_0 23 rfl) k_Md_466 (As := [(1, l2)]) rfl rfl rfl ⟨_, _, rfl⟩ (Nat.le_of_ble_eq_true rfl) trivial H (fun r7 M8 hr H => ?_)
    have b9 : r7 = 0 ∨ r7 = 1 := hr
    refine x_ifeq (tgt := 69) (zdm d_Md_qOf_0 24 rfl) (by decide) (fun c => ?_) (fun c => ?_)
    · have H := H.1 c
      refine x_lconst (zdm d_Md_qOf_0 31 rfl) (x := 0) rfl ?_
      exact x_lreturn (zdm d_Md_qOf_0 32 rfl) rfl H
    · have H := H.2 c
      refine x_aload_n (zdm d_Md_qOf_0 25 rfl) rfl (n := 0) rfl ?_
      refine x_lload_n (zdm d_Md_qOf_0 26 rfl) rfl (n := 2) rfl ?_
      refine x_l2i (zdm d_Md_qOf_0 27 rfl) ?_
      refine x_callVi (n := 1) (ci := 11) (zdm d_Md_qOf_0 28 rfl) k_Md_430 (As := [(0, (zl2i l2))]) rfl rfl rfl ⟨_, _, rfl⟩ (Nat.le_of_ble_eq_true rfl) trivial H (fun r10 M11 hr H => ?_)
      refine x_i2l (zdm d_Md_qOf_0 29 rfl) ?_
      refine x_goto (tgt := 70) (zdm d_Md_qOf_0 30 rfl) (by decide) ?_
      exact x_lreturn (zdm d_Md_qOf_0 32 rfl) rfl H
set_option maxRecDepth 20000 in
set_option maxHeartbeats 4000000 in
theorem B_Md_qTold_7 {G : zG} {h sl : Nat} (hsl : 2 ≤ sl) {u : Nat × Nat × Nat × Nat} {l1 l2 : Int} {M : zM} {Q : Int → zM → Prop} (H : ((M 125 90) ≤ l2 → Q (M 195 0) M) ∧ (¬ (M 125 90) ≤ l2 → (0 ≤ l2 ∧ l2 < 1700) ∧ (((M 193 l2) < 1000 → ((M 193 l2) < 60 → ((M 193 l2) < 40 → (¬ (M 193 l2) = 13 → (¬ (M 193 l2) = 12 → zCt G h sl 0 0 y_Md_qJoins [(2, 125), (0, (M 193 l2))] M (fun r2 M3 => (zI (l2 + 1)) ∧ (zX G (y_Md_qTold, h + 1, sl) u 7 [(0, (2, 125)), (1, (0, l1)), (2, (0, (l2 + 1)))] [] M3 Q))) ∧ (¬ (¬ (M 193 l2) = 12) → (zI ((M 125 96) - 1)) ∧ ((0 ≤ ((M 125 96) - 1) ∧ ((M 125 96) - 1) < 1700) ∧ ((zL (1 - (M 195 ((M 125 96) - 1)))) ∧ ((zI (l2 + 1)) ∧ (zX G (y_Md_qTold, h + 1, sl) u 7 [(0, (2, 125)), (1, (0, l1)), (2, (0, (l2 + 1)))] [] (zwr M 195 ((M 125 96) - 1) (1 - (M 195 ((M 125 96) - 1)))) Q)))))) ∧ (¬ (¬ (M 193 l2) = 13) → zCt G h sl 0 0 y_Md_qPuts [(2, 125), (1, 1)] M (fun r9 M10 => (zI (l2 + 1)) ∧ (zX G (y_Md_qTold, h + 1, sl) u 7 [(0, (2, 125)), (1, (0, l1)), (2, (0, (l2 + 1)))] [] M10 Q)))) ∧ (¬ (M 193 l2) < 40 → (zI ((M 193 l2) - 40)) ∧ (zCt G h sl 0 0 y_Md_qPartOf [(2, 125), (0, ((M 193 l2) - 40)), (0, l1)] M (fun r13 M14 => zCt G h sl 0 0 y_Md_qClip [(1, r13)] M14 (fun r15 M16 => zCt G h sl 0 0 y_Md_qPuts [(2, 125), (1, r15)] M16 (fun r17 M18 => (zI (l2 + 1)) ∧ (zX G (y_Md_qTold, h + 1, sl) u 7 [(0, (2, 125)), (1, (0, l1)), (2, (0, (l2 + 1)))] [] M18 Q))))))) ∧ (¬ (M 193 l2) < 60 → (zI ((M 125 96) - 1)) ∧ ((zI ((M 193 l2) - 60)) ∧ ((0 ≤ ((M 125 96) - 1) ∧ ((M 125 96) - 1) < 1700) ∧ (zCt G h sl 0 0 y_Md_qOf [(2, 125), (0, ((M 193 l2) - 60)), (1, (M 195 ((M 125 96) - 1))), (0, l1)] M (fun r23 M24 => zCt G h sl 0 0 y_Md_qClip [(1, r23)] M24 (fun r25 M26 => (zI (l2 + 1)) ∧ (zX G (y_Md_qTold, h + 1, sl) u 7 [(0, (2, 125)), (1, (0, l1)), (2, (0, (l2 + 1)))] [] (zwr M26 195 ((M 125 96) - 1) r25) Q)))))))) ∧ (¬ (M 193 l2) < 1000 → (zI ((M 193 l2) - 1000)) ∧ (zCt G h sl 0 0 y_Md_qPuts [(2, 125), (1, ((M 193 l2) - 1000))] M (fun r29 M30 => (zI (l2 + 1)) ∧ (zX G (y_Md_qTold, h + 1, sl) u 7 [(0, (2, 125)), (1, (0, l1)), (2, (0, (l2 + 1)))] [] M30 Q))))))) : zX G (y_Md_qTold, h + 1, sl) u 7 [(0, (2, 125)), (1, (0, l1)), (2, (0, l2))] [] M Q := by
  refine x_iload_n (zdm d_Md_qTold_0 5 rfl) rfl (n := 2) rfl ?_
  refine x_aload_n (zdm d_Md_qTold_0 6 rfl) rfl (n := 0) rfl ?_
  refine x_getf (zdm d_Md_qTold_0 7 rfl) f_Md_316 rfl rfl ?_
  refine x_icmpge (tgt := 168) (zdm d_Md_qTold_0 8 rfl) (by decide) (fun c => ?_) (fun c => ?_)
  · have H := H.1 c
    refine x_aload_n (zdm d_Md_qTold_1 34 rfl) rfl (n := 0) rfl ?_
    refine x_getG (zdm d_Md_qTold_1 35 rfl) f_Md_228 rfl rfl (by decide) hsl rfl ?_
    refine x_iconst (zdm d_Md_qTold_1 36 rfl) (zIl rfl) ?_
    refine x_lald (zdm d_Md_qTold_1 37 rfl) rfl ⟨by decide, by decide⟩ ?_
    exact x_lreturn (zdm d_Md_qTold_1 38 rfl) rfl H
  · have H := H.2 c
    refine x_aload_n (zdm d_Md_qTold_0 9 rfl) rfl (n := 0) rfl ?_
    refine x_getG (zdm d_Md_qTold_0 10 rfl) f_Md_222 rfl rfl (by decide) hsl rfl ?_
    refine x_iload_n (zdm d_Md_qTold_0 11 rfl) rfl (n := 2) rfl ?_
    obtain ⟨g1, H⟩ := H
    refine x_iald (zdm d_Md_qTold_0 12 rfl) rfl g1 ?_
    refine x_istore_n (zdm d_Md_qTold_0 13 rfl) rfl (zlt rfl) rfl ?_
    refine x_iload_n (zdm d_Md_qTold_0 14 rfl) rfl (n := 0) rfl ?_
    refine x_sipush (zdm d_Md_qTold_0 15 rfl) (by decide) ?_
    refine x_icmplt (tgt := 42) (zdm d_Md_qTold_0 16 rfl) (by decide) (fun c => ?_) (fun c => ?_)
    · have H := H.1 c
      refine x_iload_n (zdm d_Md_qTold_0 24 rfl) rfl (n := 0) rfl ?_
      refine x_bipush (zdm d_Md_qTold_0 25 rfl) (by decide) ?_
      refine x_icmplt (tgt := 85) (zdm d_Md_qTold_0 26 rfl) (by decide) (fun c => ?_) (fun c => ?_)
      · have H := H.1 c
        refine x_iload_n (zdm d_Md_qTold_0 49 rfl) rfl (n := 0) rfl ?_
        refine x_bipush (zdm d_Md_qTold_0 50 rfl) (by decide) ?_
        refine x_icmplt (tgt := 110) (zdm d_Md_qTold_0 51 rfl) (by decide) (fun c => ?_) (fun c => ?_)
        · have H := H.1 c
          refine x_iload_n (zdm d_Md_qTold_1 2 rfl) rfl (n := 0) rfl ?_
          refine x_bipush (zdm d_Md_qTold_1 3 rfl) (by decide) ?_
          refine x_icmpne (tgt := 124) (zdm d_Md_qTold_1 4 rfl) (by decide) (fun c => ?_) (fun c => ?_)
          · have H := H.1 c
            refine x_iload_n (zdm d_Md_qTold_1 9 rfl) rfl (n := 0) rfl ?_
            refine x_bipush (zdm d_Md_qTold_1 10 rfl) (by decide) ?_
            refine x_icmpne (tgt := 157) (zdm d_Md_qTold_1 11 rfl) (by decide) (fun c => ?_) (fun c => ?_)
            · have H := H.1 c
              refine x_aload_n (zdm d_Md_qTold_1 29 rfl) rfl (n := 1) rfl ?_
              refine x_iload_n (zdm d_Md_qTold_1 30 rfl) rfl (n := 0) rfl ?_
              refine x_callVv (n := 1) (ci := 11) (zdm d_Md_qTold_1 31 rfl) k_Md_408 (As := [(0, (M 193 l2))]) rfl rfl rfl ⟨_, _, rfl⟩ (Nat.le_of_ble_eq_true rfl) rfl H (fun r2 M3 hr H => ?_)
              obtain ⟨g4, H⟩ := H
              refine x_iinc (zdm d_Md_qTold_1 32 rfl) (n := 3) rfl g4 (zlt rfl) rfl ?_
              refine x_goto (tgt := 7) (zdm d_Md_qTold_1 33 rfl) (by decide) ?_
              exact zX.sub [2, 3, 0] rfl H
            · have H := H.2 c
              refine x_aload_n (zdm d_Md_qTold_1 12 rfl) rfl (n := 1) rfl ?_
              refine x_getG (zdm d_Md_qTold_1 13 rfl) f_Md_228 rfl rfl (by decide) hsl rfl ?_
              refine x_aload_n (zdm d_Md_qTold_1 14 rfl) rfl (n := 1) rfl ?_
              refine x_getf (zdm d_Md_qTold_1 15 rfl) f_Md_397 rfl rfl ?_
              refine x_iconst (zdm d_Md_qTold_1 16 rfl) (zIl rfl) ?_
              obtain ⟨g5, H⟩ := H
              refine x_isub (zdm d_Md_qTold_1 17 rfl) g5 ?_
              refine x_lconst (zdm d_Md_qTold_1 18 rfl) (x := 1) rfl ?_
              refine x_aload_n (zdm d_Md_qTold_1 19 rfl) rfl (n := 1) rfl ?_
              refine x_getG (zdm d_Md_qTold_1 20 rfl) f_Md_228 rfl rfl (by decide) hsl rfl ?_
              refine x_aload_n (zdm d_Md_qTold_1 21 rfl) rfl (n := 1) rfl ?_
              refine x_getf (zdm d_Md_qTold_1 22 rfl) f_Md_397 rfl rfl ?_
              refine x_iconst (zdm d_Md_qTold_1 23 rfl) (zIl rfl) ?_
              refine x_isub (zdm d_Md_qTold_1 24 rfl) g5 ?_
              obtain ⟨g6, H⟩ := H
              refine x_lald (zdm d_Md_qTold_1 25 rfl) rfl g6 ?_
              obtain ⟨g7, H⟩ := H
              refine x_lsub (zdm d_Md_qTold_1 26 rfl) g7 ?_
              refine x_last (zdm d_Md_qTold_1 27 rfl) rfl g6 ?_
              refine x_goto (tgt := 162) (zdm d_Md_qTold_1 28 rfl) (by decide) ?_
              obtain ⟨g8, H⟩ := H
              refine x_iinc (zdm d_Md_qTold_1 32 rfl) (n := 3) rfl g8 (zlt rfl) rfl ?_
              refine x_goto (tgt := 7) (zdm d_Md_qTold_1 33 rfl) (by decide) ?_
              exact zX.sub [2, 3, 0] rfl H
          · have H := H.2 c
            refine x_aload_n (zdm d_Md_qTold_1 5 rfl) rfl (n := 1) rfl ?_
            refine x_lconst (zdm d_Md_qTold_1 6 rfl) (x := 1) rfl ?_
            refine x_callVv (n := 1) (ci := 11) (zdm d_Md_qTold_1 7 rfl) k_Md_400 (As := [(1, 1)]) rfl rfl rfl ⟨_, _, rfl⟩ (Nat.le_of_ble_eq_true rfl) rfl H (fun r9 M10 hr H => ?_)
            refine x_goto (tgt := 162) (zdm d_Md_qTold_1 8 rfl) (by decide) ?_
            obtain ⟨g11, H⟩ := H
            refine x_iinc (zdm d_Md_qTold_1 32 rfl) (n := 3) rfl g11 (zlt rfl) rfl ?_
            refine x_goto (tgt := 7) (zdm d_Md_qTold_1 33 rfl) (by decide) ?_
            exact zX.sub [2, 3, 0] rfl H
        · have H := H.2 c
          refine x_aload_n (zdm d_Md_qTold_0 52 rfl) rfl (n := 1) rfl ?_
          refine x_aload_n (zdm d_Md_qTold_0 53 rfl) rfl (n := 1) rfl ?_
          refine x_iload_n (zdm d_Md_qTold_0 54 rfl) rfl (n := 0) rfl ?_
          refine x_bipush (zdm d_Md_qTold_0 55 rfl) (by decide) ?_
          obtain ⟨g12, H⟩ := H
          refine x_isub (zdm d_Md_qTold_0 56 rfl) g12 ?_
          refine x_iload_n (zdm d_Md_qTold_0 57 rfl) rfl (n := 2) rfl ?_
          refine x_callVl (n := 2) (ci := 11) (zdm d_Md_qTold_0 58 rfl) k_Md_404 (As := [(0, ((M 193 l2) - 40)), (0, l1)]) rfl rfl rfl ⟨_, _, rfl⟩ (Nat.le_of_ble_eq_true rfl) rfl H (fun r13 M14 hr H => ?_)
          refine x_callSl (n := 1) (zdm d_Md_qTold_0 59 rfl) k_Md_605 (As := [(1, r13)]) rfl rfl (Nat.le_of_ble_eq_true rfl) rfl H (fun r15 M16 hr H => ?_)
          refine x_callVv (n := 1) (ci := 11) (zdm d_Md_qTold_1 0 rfl) k_Md_400 (As := [(1, r15)]) rfl rfl rfl ⟨_, _, rfl⟩ (Nat.le_of_ble_eq_true rfl) rfl H (fun r17 M18 hr H => ?_)
          refine x_goto (tgt := 162) (zdm d_Md_qTold_1 1 rfl) (by decide) ?_
          obtain ⟨g19, H⟩ := H
          refine x_iinc (zdm d_Md_qTold_1 32 rfl) (n := 3) rfl g19 (zlt rfl) rfl ?_
          refine x_goto (tgt := 7) (zdm d_Md_qTold_1 33 rfl) (by decide) ?_
          exact zX.sub [2, 3, 0] rfl H
      · have H := H.2 c
        refine x_aload_n (zdm d_Md_qTold_0 27 rfl) rfl (n := 1) rfl ?_
        refine x_getG (zdm d_Md_qTold_0 28 rfl) f_Md_228 rfl rfl (by decide) hsl rfl ?_
        refine x_aload_n (zdm d_Md_qTold_0 29 rfl) rfl (n := 1) rfl ?_
        refine x_getf (zdm d_Md_qTold_0 30 rfl) f_Md_397 rfl rfl ?_
        refine x_iconst (zdm d_Md_qTold_0 31 rfl) (zIl rfl) ?_
        obtain ⟨g20, H⟩ := H
        refine x_isub (zdm d_Md_qTold_0 32 rfl) g20 ?_
        refine x_aload_n (zdm d_Md_qTold_0 33 rfl) rfl (n := 1) rfl ?_
        refine x_iload_n (zdm d_Md_qTold_0 34 rfl) rfl (n := 0) rfl ?_
        refine x_bipush (zdm d_Md_qTold_0 35 rfl) (by decide) ?_
        obtain ⟨g21, H⟩ := H
        refine x_isub (zdm d_Md_qTold_0 36 rfl) g21 ?_
        refine x_aload_n (zdm d_Md_qTold_0 37 rfl) rfl (n := 1) rfl ?_
        refine x_getG (zdm d_Md_qTold_0 38 rfl) f_Md_228 rfl rfl (by decide) hsl rfl ?_
        refine x_aload_n (zdm d_Md_qTold_0 39 rfl) rfl (n := 1) rfl ?_
        refine x_getf (zdm d_Md_qTold_0 40 rfl) f_Md_397 rfl rfl ?_
        refine x_iconst (zdm d_Md_qTold_0 41 rfl) (zIl rfl) ?_
        refine x_isub (zdm d_Md_qTold_0 42 rfl) g20 ?_
        obtain ⟨g22, H⟩ := H
        refine x_lald (zdm d_Md_qTold_0 43 rfl) rfl g22 ?_
        refine x_iload_n (zdm d_Md_qTold_0 44 rfl) rfl (n := 2) rfl ?_
        refine x_callVl (n := 3) (ci := 11) (zdm d_Md_qTold_0 45 rfl) k_Md_616 (As := [(0, ((M 193 l2) - 60)), (1, (M 195 ((M 125 96) - 1))), (0, l1)]) rfl rfl rfl ⟨_, _, rfl⟩ (Nat.le_of_ble_eq_true rfl) rfl H (fun r23 M24 hr H => ?_)
        refine x_callSl (n := 1) (zdm d_Md_qTold_0 46 rfl) k_Md_605 (As := [(1, r23)]) rfl rfl (Nat.le_of_ble_eq_true rfl) rfl H (fun r25 M26 hr H => ?_)
        refine x_last (zdm d_Md_qTold_0 47 rfl) rfl g22 ?_
        refine x_goto (tgt := 162) (zdm d_Md_qTold_0 48 rfl) (by decide) ?_
        obtain ⟨g27, H⟩ := H
        refine x_iinc (zdm d_Md_qTold_1 32 rfl) (n := 3) rfl g27 (zlt rfl) rfl ?_
        refine x_goto (tgt := 7) (zdm d_Md_qTold_1 33 rfl) (by decide) ?_
        exact zX.sub [2, 3, 0] rfl H
    · have H := H.2 c
      refine x_aload_n (zdm d_Md_qTold_0 17 rfl) rfl (n := 1) rfl ?_
      refine x_iload_n (zdm d_Md_qTold_0 18 rfl) rfl (n := 0) rfl ?_
      refine x_sipush (zdm d_Md_qTold_0 19 rfl) (by decide) ?_
      obtain ⟨g28, H⟩ := H
      refine x_isub (zdm d_Md_qTold_0 20 rfl) g28 ?_
      refine x_i2l (zdm d_Md_qTold_0 21 rfl) ?_
      refine x_callVv (n := 1) (ci := 11) (zdm d_Md_qTold_0 22 rfl) k_Md_400 (As := [(1, ((M 193 l2) - 1000))]) rfl rfl rfl ⟨_, _, rfl⟩ (Nat.le_of_ble_eq_true rfl) rfl H (fun r29 M30 hr H => ?_)
      refine x_goto (tgt := 162) (zdm d_Md_qTold_0 23 rfl) (by decide) ?_
      obtain ⟨g31, H⟩ := H
      refine x_iinc (zdm d_Md_qTold_1 32 rfl) (n := 3) rfl g31 (zlt rfl) rfl ?_
      refine x_goto (tgt := 7) (zdm d_Md_qTold_1 33 rfl) (by decide) ?_
      exact zX.sub [2, 3, 0] rfl H
set_option maxRecDepth 20000 in
set_option maxHeartbeats 4000000 in
theorem E_Md_qTold {G : zG} {h sl : Nat} (hsl : 2 ≤ sl) {l1 : Int} {M : zM} {Q : Int → zM → Prop} (H : zX G (y_Md_qTold, h + 1, sl) (0, 0, 0, 0) 7 [(0, (2, 125)), (1, (0, l1)), (2, (0, 0))] [] (zwr M 125 96 0) Q) : zCt G (h + 1) sl 0 0 y_Md_qTold [(2, 125), (0, l1)] M Q := by
  refine zCt.of (by decide +kernel) (Nat.le_of_ble_eq_true rfl) ?_
  refine x_aload_n (zdm d_Md_qTold_0 0 rfl) rfl (n := 0) rfl ?_
  refine x_iconst (zdm d_Md_qTold_0 1 rfl) (zIl rfl) ?_
  refine x_putf (zdm d_Md_qTold_0 2 rfl) f_Md_397 rfl ⟨rfl, trivial⟩ (Or.inl rfl) ?_
  refine x_iconst (zdm d_Md_qTold_0 3 rfl) (zIl rfl) ?_
  refine x_istore_n (zdm d_Md_qTold_0 4 rfl) rfl (zlt rfl) rfl ?_
  exact zX.sub [1, 2, 0] rfl H
set_option maxRecDepth 20000 in
set_option maxHeartbeats 4000000 in
theorem B_Md_qKind_76 {G : zG} {h sl : Nat} (hsl : 2 ≤ sl) {u : Nat × Nat × Nat × Nat} {s0 : Int} {M : zM} {Q : Int → zM → Prop} (H : (¬ s0 = 5 → Q s0 M) ∧ (¬ (¬ s0 = 5) → zCt G h sl 0 0 y_Md_asks [(2, 125), (2, 178)] M (fun r1 M2 => Q s0 M2))) : zX G (y_Md_qKind, h + 1, sl) u 76 [(0, (2, 125))] [(0, s0)] M Q := by
  refine x_istore_n (zdm d_Md_qKind_0 36 rfl) rfl (zlt rfl) rfl ?_
  refine x_iload_n (zdm d_Md_qKind_0 37 rfl) rfl (n := 0) rfl ?_
  refine x_iconst (zdm d_Md_qKind_0 38 rfl) (zIl rfl) ?_
  refine x_icmpne (tgt := 90) (zdm d_Md_qKind_0 39 rfl) (by decide) (fun c => ?_) (fun c => ?_)
  · have H := H.1 c
    refine x_iload_n (zdm d_Md_qKind_0 44 rfl) rfl (n := 0) rfl ?_
    exact x_iret (zdm d_Md_qKind_0 45 rfl) rfl H
  · have H := H.2 c
    refine x_aload_n (zdm d_Md_qKind_0 40 rfl) rfl (n := 1) rfl ?_
    refine x_aload_n (zdm d_Md_qKind_0 41 rfl) rfl (n := 1) rfl ?_
    refine x_getG (zdm d_Md_qKind_0 42 rfl) f_Md_177 rfl rfl (by decide) hsl rfl ?_
    refine x_callVv (n := 1) (ci := 11) (zdm d_Md_qKind_0 43 rfl) k_Md_302 (As := [(2, 178)]) rfl rfl rfl ⟨_, _, rfl⟩ (Nat.le_of_ble_eq_true rfl) rfl H (fun r1 M2 hr H => ?_)
    refine x_iload_n (zdm d_Md_qKind_0 44 rfl) rfl (n := 0) rfl ?_
    exact x_iret (zdm d_Md_qKind_0 45 rfl) rfl H
set_option maxRecDepth 20000 in
set_option maxHeartbeats 4000000 in
theorem E_Md_qKind {G : zG} {h sl : Nat} (hsl : 2 ≤ sl) {M : zM} {Q : Int → zM → Prop} (H : zCt G h sl 0 0 y_Md_takes [(2, 125), (2, 173)] M (fun r1 M2 => (r1 = 0 → zCt G h sl 0 0 y_Md_takes [(2, 125), (2, 174)] M2 (fun r4 M5 => (r4 = 0 → zCt G h sl 0 0 y_Md_takes [(2, 125), (2, 175)] M5 (fun r7 M8 => (r7 = 0 → zCt G h sl 0 0 y_Md_takes [(2, 125), (2, 176)] M8 (fun r10 M11 => (r10 = 0 → zCt G h sl 0 0 y_Md_takes [(2, 125), (2, 177)] M11 (fun r13 M14 => (r13 = 0 → zX G (y_Md_qKind, h + 1, sl) (0, 0, 0, 0) 76 [(0, (2, 125))] [(0, 5)] M14 Q) ∧ (¬ r13 = 0 → zX G (y_Md_qKind, h + 1, sl) (0, 0, 0, 0) 76 [(0, (2, 125))] [(0, 4)] M14 Q))) ∧ (¬ r10 = 0 → zX G (y_Md_qKind, h + 1, sl) (0, 0, 0, 0) 76 [(0, (2, 125))] [(0, 3)] M11 Q))) ∧ (¬ r7 = 0 → zX G (y_Md_qKind, h + 1, sl) (0, 0, 0, 0) 76 [(0, (2, 125))] [(0, 2)] M8 Q))) ∧ (¬ r4 = 0 → zX G (y_Md_qKind, h + 1, sl) (0, 0, 0, 0) 76 [(0, (2, 125))] [(0, 1)] M5 Q))) ∧ (¬ r1 = 0 → zX G (y_Md_qKind, h + 1, sl) (0, 0, 0, 0) 76 [(0, (2, 125))] [(0, 0)] M2 Q))) : zCt G (h + 1) sl 0 0 y_Md_qKind [(2, 125)] M Q := by
  refine zCt.of (by decide +kernel) (Nat.le_of_ble_eq_true rfl) ?_
  refine x_aload_n (zdm d_Md_qKind_0 0 rfl) rfl (n := 0) rfl ?_
  refine x_aload_n (zdm d_Md_qKind_0 1 rfl) rfl (n := 0) rfl ?_
  refine x_getG (zdm d_Md_qKind_0 2 rfl) f_Md_162 rfl rfl (by decide) hsl rfl ?_
  refine x_callVi (n := 1) (ci := 11) (zdm d_Md_qKind_0 3 rfl) k_Md_264 (As := [(2, 173)]) rfl rfl rfl ⟨_, _, rfl⟩ (Nat.le_of_ble_eq_true rfl) trivial H (fun r1 M2 hr H => ?_)
  have b3 : r1 = 0 ∨ r1 = 1 := hr
  refine x_ifeq (tgt := 15) (zdm d_Md_qKind_0 4 rfl) (by decide) (fun c => ?_) (fun c => ?_)
  · have H := H.1 c
    refine x_aload_n (zdm d_Md_qKind_0 7 rfl) rfl (n := 0) rfl ?_
    refine x_aload_n (zdm d_Md_qKind_0 8 rfl) rfl (n := 0) rfl ?_
    refine x_getG (zdm d_Md_qKind_0 9 rfl) f_Md_165 rfl rfl (by decide) hsl rfl ?_
    refine x_callVi (n := 1) (ci := 11) (zdm d_Md_qKind_0 10 rfl) k_Md_264 (As := [(2, 174)]) rfl rfl rfl ⟨_, _, rfl⟩ (Nat.le_of_ble_eq_true rfl) trivial H (fun r4 M5 hr H => ?_)
    have b6 : r4 = 0 ∨ r4 = 1 := hr
    refine x_ifeq (tgt := 30) (zdm d_Md_qKind_0 11 rfl) (by decide) (fun c => ?_) (fun c => ?_)
    · have H := H.1 c
      refine x_aload_n (zdm d_Md_qKind_0 14 rfl) rfl (n := 0) rfl ?_
      refine x_aload_n (zdm d_Md_qKind_0 15 rfl) rfl (n := 0) rfl ?_
      refine x_getG (zdm d_Md_qKind_0 16 rfl) f_Md_168 rfl rfl (by decide) hsl rfl ?_
      refine x_callVi (n := 1) (ci := 11) (zdm d_Md_qKind_0 17 rfl) k_Md_264 (As := [(2, 175)]) rfl rfl rfl ⟨_, _, rfl⟩ (Nat.le_of_ble_eq_true rfl) trivial H (fun r7 M8 hr H => ?_)
      have b9 : r7 = 0 ∨ r7 = 1 := hr
      refine x_ifeq (tgt := 45) (zdm d_Md_qKind_0 18 rfl) (by decide) (fun c => ?_) (fun c => ?_)
      · have H := H.1 c
        refine x_aload_n (zdm d_Md_qKind_0 21 rfl) rfl (n := 0) rfl ?_
        refine x_aload_n (zdm d_Md_qKind_0 22 rfl) rfl (n := 0) rfl ?_
        refine x_getG (zdm d_Md_qKind_0 23 rfl) f_Md_171 rfl rfl (by decide) hsl rfl ?_
        refine x_callVi (n := 1) (ci := 11) (zdm d_Md_qKind_0 24 rfl) k_Md_264 (As := [(2, 176)]) rfl rfl rfl ⟨_, _, rfl⟩ (Nat.le_of_ble_eq_true rfl) trivial H (fun r10 M11 hr H => ?_)
        have b12 : r10 = 0 ∨ r10 = 1 := hr
        refine x_ifeq (tgt := 60) (zdm d_Md_qKind_0 25 rfl) (by decide) (fun c => ?_) (fun c => ?_)
        · have H := H.1 c
          refine x_aload_n (zdm d_Md_qKind_0 28 rfl) rfl (n := 0) rfl ?_
          refine x_aload_n (zdm d_Md_qKind_0 29 rfl) rfl (n := 0) rfl ?_
          refine x_getG (zdm d_Md_qKind_0 30 rfl) f_Md_174 rfl rfl (by decide) hsl rfl ?_
          refine x_callVi (n := 1) (ci := 11) (zdm d_Md_qKind_0 31 rfl) k_Md_264 (As := [(2, 177)]) rfl rfl rfl ⟨_, _, rfl⟩ (Nat.le_of_ble_eq_true rfl) trivial H (fun r13 M14 hr H => ?_)
          have b15 : r13 = 0 ∨ r13 = 1 := hr
          refine x_ifeq (tgt := 75) (zdm d_Md_qKind_0 32 rfl) (by decide) (fun c => ?_) (fun c => ?_)
          · have H := H.1 c
            refine x_iconst (zdm d_Md_qKind_0 35 rfl) (zIl rfl) ?_
            exact H
          · have H := H.2 c
            refine x_iconst (zdm d_Md_qKind_0 33 rfl) (zIl rfl) ?_
            refine x_goto (tgt := 76) (zdm d_Md_qKind_0 34 rfl) (by decide) ?_
            exact H
        · have H := H.2 c
          refine x_iconst (zdm d_Md_qKind_0 26 rfl) (zIl rfl) ?_
          refine x_goto (tgt := 76) (zdm d_Md_qKind_0 27 rfl) (by decide) ?_
          exact H
      · have H := H.2 c
        refine x_iconst (zdm d_Md_qKind_0 19 rfl) (zIl rfl) ?_
        refine x_goto (tgt := 76) (zdm d_Md_qKind_0 20 rfl) (by decide) ?_
        exact H
    · have H := H.2 c
      refine x_iconst (zdm d_Md_qKind_0 12 rfl) (zIl rfl) ?_
      refine x_goto (tgt := 76) (zdm d_Md_qKind_0 13 rfl) (by decide) ?_
      exact H
  · have H := H.2 c
    refine x_iconst (zdm d_Md_qKind_0 5 rfl) (zIl rfl) ?_
    refine x_goto (tgt := 76) (zdm d_Md_qKind_0 6 rfl) (by decide) ?_
    exact H
set_option maxRecDepth 20000 in
set_option maxHeartbeats 4000000 in
theorem B_Md_qTakes_90 {G : zG} {h sl : Nat} (hsl : 2 ≤ sl) {u : Nat × Nat × Nat × Nat} {l1 l2 : Int} {M : zM} {Q : Int → zM → Prop} (H : (l1 ≤ 3 → Q 0 (zwr M 125 98 0)) ∧ (¬ l1 ≤ 3 → (¬ (M 125 98) = 0 → Q 0 (zwr (zwr M 125 97 l2) 125 98 0)) ∧ (¬ (¬ (M 125 98) = 0) → (¬ l1 = 4 → ((M 125 97) ≤ l2 → Q 0 (zwr M 125 98 0)) ∧ (¬ (M 125 97) ≤ l2 → Q 0 (zwr (zwr M 125 97 l2) 125 98 0))) ∧ (¬ (¬ l1 = 4) → (l2 ≤ (M 125 97) → Q 0 (zwr M 125 98 0)) ∧ (¬ l2 ≤ (M 125 97) → Q 0 (zwr (zwr M 125 97 l2) 125 98 0)))))) : zX G (y_Md_qTakes, h, sl) u 90 [(0, (2, 125)), (1, (0, l1)), (2, (1, l2))] [] M Q := by
  refine x_iload_n (zdm d_Md_qTakes_0 49 rfl) rfl (n := 1) rfl ?_
  refine x_iconst (zdm d_Md_qTakes_0 50 rfl) (zIl rfl) ?_
  refine x_icmple (tgt := 133) (zdm d_Md_qTakes_0 51 rfl) (by decide) (fun c => ?_) (fun c => ?_)
  · have H := H.1 c
    refine x_aload_n (zdm d_Md_qTakes_1 12 rfl) rfl (n := 0) rfl ?_
    refine x_iconst (zdm d_Md_qTakes_1 13 rfl) (zIl rfl) ?_
    refine x_putf (zdm d_Md_qTakes_1 14 rfl) f_Md_625 rfl ⟨rfl, (Or.inl rfl)⟩ (Or.inl rfl) ?_
    exact x_return (zdm d_Md_qTakes_1 15 rfl) rfl H
  · have H := H.2 c
    refine x_aload_n (zdm d_Md_qTakes_0 52 rfl) rfl (n := 0) rfl ?_
    refine x_getf (zdm d_Md_qTakes_0 53 rfl) f_Md_625 rfl rfl ?_
    refine x_ifne (tgt := 128) (zdm d_Md_qTakes_0 54 rfl) (by decide) (fun c => ?_) (fun c => ?_)
    · have H := H.1 c
      refine x_aload_n (zdm d_Md_qTakes_1 9 rfl) rfl (n := 0) rfl ?_
      refine x_lload_n (zdm d_Md_qTakes_1 10 rfl) rfl (n := 2) rfl ?_
      refine x_putf (zdm d_Md_qTakes_1 11 rfl) f_Md_620 rfl ⟨rfl, trivial⟩ (Or.inl rfl) ?_
      refine x_aload_n (zdm d_Md_qTakes_1 12 rfl) rfl (n := 0) rfl ?_
      refine x_iconst (zdm d_Md_qTakes_1 13 rfl) (zIl rfl) ?_
      refine x_putf (zdm d_Md_qTakes_1 14 rfl) f_Md_625 rfl ⟨rfl, (Or.inl rfl)⟩ (Or.inl rfl) ?_
      exact x_return (zdm d_Md_qTakes_1 15 rfl) rfl H
    · have H := H.2 c
      refine x_iload_n (zdm d_Md_qTakes_0 55 rfl) rfl (n := 1) rfl ?_
      refine x_iconst (zdm d_Md_qTakes_0 56 rfl) (zIl rfl) ?_
      refine x_icmpne (tgt := 119) (zdm d_Md_qTakes_0 57 rfl) (by decide) (fun c => ?_) (fun c => ?_)
      · have H := H.1 c
        refine x_lload_n (zdm d_Md_qTakes_1 4 rfl) rfl (n := 2) rfl ?_
        refine x_aload_n (zdm d_Md_qTakes_1 5 rfl) rfl (n := 0) rfl ?_
        refine x_getf (zdm d_Md_qTakes_1 6 rfl) f_Md_620 rfl rfl ?_
        refine x_lcmp_ge (tgt := 133) (zdm d_Md_qTakes_1 7 rfl) (zdm d_Md_qTakes_1 8 rfl) (by decide) (fun c => ?_) (fun c => ?_)
        · have H := H.1 c
          refine x_aload_n (zdm d_Md_qTakes_1 12 rfl) rfl (n := 0) rfl ?_
          refine x_iconst (zdm d_Md_qTakes_1 13 rfl) (zIl rfl) ?_
          refine x_putf (zdm d_Md_qTakes_1 14 rfl) f_Md_625 rfl ⟨rfl, (Or.inl rfl)⟩ (Or.inl rfl) ?_
          exact x_return (zdm d_Md_qTakes_1 15 rfl) rfl H
        · have H := H.2 c
          refine x_aload_n (zdm d_Md_qTakes_1 9 rfl) rfl (n := 0) rfl ?_
          refine x_lload_n (zdm d_Md_qTakes_1 10 rfl) rfl (n := 2) rfl ?_
          refine x_putf (zdm d_Md_qTakes_1 11 rfl) f_Md_620 rfl ⟨rfl, trivial⟩ (Or.inl rfl) ?_
          refine x_aload_n (zdm d_Md_qTakes_1 12 rfl) rfl (n := 0) rfl ?_
          refine x_iconst (zdm d_Md_qTakes_1 13 rfl) (zIl rfl) ?_
          refine x_putf (zdm d_Md_qTakes_1 14 rfl) f_Md_625 rfl ⟨rfl, (Or.inl rfl)⟩ (Or.inl rfl) ?_
          exact x_return (zdm d_Md_qTakes_1 15 rfl) rfl H
      · have H := H.2 c
        refine x_lload_n (zdm d_Md_qTakes_0 58 rfl) rfl (n := 2) rfl ?_
        refine x_aload_n (zdm d_Md_qTakes_0 59 rfl) rfl (n := 0) rfl ?_
        refine x_getf (zdm d_Md_qTakes_1 0 rfl) f_Md_620 rfl rfl ?_
        refine x_lcmp_le (tgt := 133) (zdm d_Md_qTakes_1 1 rfl) (zdm d_Md_qTakes_1 2 rfl) (by decide) (fun c => ?_) (fun c => ?_)
        · have H := H.1 c
          refine x_aload_n (zdm d_Md_qTakes_1 12 rfl) rfl (n := 0) rfl ?_
          refine x_iconst (zdm d_Md_qTakes_1 13 rfl) (zIl rfl) ?_
          refine x_putf (zdm d_Md_qTakes_1 14 rfl) f_Md_625 rfl ⟨rfl, (Or.inl rfl)⟩ (Or.inl rfl) ?_
          exact x_return (zdm d_Md_qTakes_1 15 rfl) rfl H
        · have H := H.2 c
          refine x_goto (tgt := 128) (zdm d_Md_qTakes_1 3 rfl) (by decide) ?_
          refine x_aload_n (zdm d_Md_qTakes_1 9 rfl) rfl (n := 0) rfl ?_
          refine x_lload_n (zdm d_Md_qTakes_1 10 rfl) rfl (n := 2) rfl ?_
          refine x_putf (zdm d_Md_qTakes_1 11 rfl) f_Md_620 rfl ⟨rfl, trivial⟩ (Or.inl rfl) ?_
          refine x_aload_n (zdm d_Md_qTakes_1 12 rfl) rfl (n := 0) rfl ?_
          refine x_iconst (zdm d_Md_qTakes_1 13 rfl) (zIl rfl) ?_
          refine x_putf (zdm d_Md_qTakes_1 14 rfl) f_Md_625 rfl ⟨rfl, (Or.inl rfl)⟩ (Or.inl rfl) ?_
          exact x_return (zdm d_Md_qTakes_1 15 rfl) rfl H
set_option maxRecDepth 20000 in
set_option maxHeartbeats 4000000 in
theorem B_Md_qTakes_75 {G : zG} {h sl : Nat} (hsl : 2 ≤ sl) {u : Nat × Nat × Nat × Nat} {l1 l2 : Int} {M : zM} {Q : Int → zM → Prop} (H : (¬ l1 = 3 → zX G (y_Md_qTakes, h, sl) u 90 [(0, (2, 125)), (1, (0, l1)), (2, (1, l2))] [] M Q) ∧ (¬ (¬ l1 = 3) → (zL ((M 125 97) + l2)) ∧ (zX G (y_Md_qTakes, h, sl) u 90 [(0, (2, 125)), (1, (0, l1)), (2, (1, l2))] [] (zwr M 125 97 ((M 125 97) + l2)) Q))) : zX G (y_Md_qTakes, h, sl) u 75 [(0, (2, 125)), (1, (0, l1)), (2, (1, l2))] [] M Q := by
  refine x_iload_n (zdm d_Md_qTakes_0 40 rfl) rfl (n := 1) rfl ?_
  refine x_iconst (zdm d_Md_qTakes_0 41 rfl) (zIl rfl) ?_
  refine x_icmpne (tgt := 90) (zdm d_Md_qTakes_0 42 rfl) (by decide) (fun c => ?_) (fun c => ?_)
  · have H := H.1 c
    exact H
  · have H := H.2 c
    refine x_aload_n (zdm d_Md_qTakes_0 43 rfl) rfl (n := 0) rfl ?_
    refine x_dup (zdm d_Md_qTakes_0 44 rfl) z2n1 ?_
    refine x_getf (zdm d_Md_qTakes_0 45 rfl) f_Md_620 rfl rfl ?_
    refine x_lload_n (zdm d_Md_qTakes_0 46 rfl) rfl (n := 2) rfl ?_
    obtain ⟨g1, H⟩ := H
    refine x_ladd (zdm d_Md_qTakes_0 47 rfl) g1 ?_
    refine x_putf (zdm d_Md_qTakes_0 48 rfl) f_Md_620 rfl ⟨rfl, trivial⟩ (Or.inl rfl) ?_
    exact H
set_option maxRecDepth 20000 in
set_option maxHeartbeats 4000000 in
theorem B_Md_qTakes_55 {G : zG} {h sl : Nat} (hsl : 2 ≤ sl) {u : Nat × Nat × Nat × Nat} {l1 l2 l5 : Int} {M : zM} {Q : Int → zM → Prop} (H : (¬ l1 = 2 → zX G (y_Md_qTakes, h, sl) u 75 [(0, (2, 125)), (1, (0, l1)), (2, (1, l2))] [] M Q) ∧ (¬ (¬ l1 = 2) → (l5 = 0 → zX G (y_Md_qTakes, h, sl) u 75 [(0, (2, 125)), (1, (0, l1)), (2, (1, l2))] [] M Q) ∧ (¬ l5 = 0 → (zL ((M 125 97) + 1)) ∧ (zX G (y_Md_qTakes, h, sl) u 75 [(0, (2, 125)), (1, (0, l1)), (2, (1, l2))] [] (zwr M 125 97 ((M 125 97) + 1)) Q)))) : zX G (y_Md_qTakes, h, sl) u 55 [(0, (2, 125)), (1, (0, l1)), (2, (1, l2)), (5, (0, l5))] [] M Q := by
  refine x_iload_n (zdm d_Md_qTakes_0 29 rfl) rfl (n := 1) rfl ?_
  refine x_iconst (zdm d_Md_qTakes_0 30 rfl) (zIl rfl) ?_
  refine x_icmpne (tgt := 75) (zdm d_Md_qTakes_0 31 rfl) (by decide) (fun c => ?_) (fun c => ?_)
  · have H := H.1 c
    exact zX.sub [0, 1, 2] rfl H
  · have H := H.2 c
    refine x_iload (zdm d_Md_qTakes_0 32 rfl) (n := 3) rfl ?_
    refine x_ifeq (tgt := 75) (zdm d_Md_qTakes_0 33 rfl) (by decide) (fun c => ?_) (fun c => ?_)
    · have H := H.1 c
      exact zX.sub [0, 1, 2] rfl H
    · have H := H.2 c
      refine x_aload_n (zdm d_Md_qTakes_0 34 rfl) rfl (n := 0) rfl ?_
      refine x_dup (zdm d_Md_qTakes_0 35 rfl) z2n1 ?_
      refine x_getf (zdm d_Md_qTakes_0 36 rfl) f_Md_620 rfl rfl ?_
      refine x_lconst (zdm d_Md_qTakes_0 37 rfl) (x := 1) rfl ?_
      obtain ⟨g1, H⟩ := H
      refine x_ladd (zdm d_Md_qTakes_0 38 rfl) g1 ?_
      refine x_putf (zdm d_Md_qTakes_0 39 rfl) f_Md_620 rfl ⟨rfl, trivial⟩ (Or.inl rfl) ?_
      exact zX.sub [0, 1, 2] rfl H
set_option maxRecDepth 20000 in
set_option maxHeartbeats 4000000 in
theorem B_Md_qTakes_38 {G : zG} {h sl : Nat} (hsl : 2 ≤ sl) {u : Nat × Nat × Nat × Nat} {l1 l2 l4 l5 : Int} {M : zM} {Q : Int → zM → Prop} (H : (¬ l1 = 1 → zX G (y_Md_qTakes, h, sl) u 55 [(0, (2, 125)), (1, (0, l1)), (2, (1, l2)), (5, (0, l5))] [] M Q) ∧ (¬ (¬ l1 = 1) → (l5 = 0 → zX G (y_Md_qTakes, h, sl) u 55 [(0, (2, 125)), (1, (0, l1)), (2, (1, l2)), (5, (0, l5))] [] M Q) ∧ (¬ l5 = 0 → zX G (y_Md_qTakes, h, sl) u 55 [(0, (2, 125)), (1, (0, l1)), (2, (1, l2)), (5, (0, l5))] [] (zwr M 125 97 l4) Q))) : zX G (y_Md_qTakes, h, sl) u 38 [(0, (2, 125)), (1, (0, l1)), (2, (1, l2)), (4, (0, l4)), (5, (0, l5))] [] M Q := by
  refine x_iload_n (zdm d_Md_qTakes_0 20 rfl) rfl (n := 1) rfl ?_
  refine x_iconst (zdm d_Md_qTakes_0 21 rfl) (zIl rfl) ?_
  refine x_icmpne (tgt := 55) (zdm d_Md_qTakes_0 22 rfl) (by decide) (fun c => ?_) (fun c => ?_)
  · have H := H.1 c
    exact zX.sub [0, 1, 2, 4] rfl H
  · have H := H.2 c
    refine x_iload (zdm d_Md_qTakes_0 23 rfl) (n := 4) rfl ?_
    refine x_ifeq (tgt := 55) (zdm d_Md_qTakes_0 24 rfl) (by decide) (fun c => ?_) (fun c => ?_)
    · have H := H.1 c
      exact zX.sub [0, 1, 2, 4] rfl H
    · have H := H.2 c
      refine x_aload_n (zdm d_Md_qTakes_0 25 rfl) rfl (n := 0) rfl ?_
      refine x_iload (zdm d_Md_qTakes_0 26 rfl) (n := 3) rfl ?_
      refine x_i2l (zdm d_Md_qTakes_0 27 rfl) ?_
      refine x_putf (zdm d_Md_qTakes_0 28 rfl) f_Md_620 rfl ⟨rfl, trivial⟩ (Or.inl rfl) ?_
      exact zX.sub [0, 1, 2, 4] rfl H
set_option maxRecDepth 20000 in
set_option maxHeartbeats 4000000 in
theorem B_Md_qTakes_16 {G : zG} {h sl : Nat} (hsl : 2 ≤ sl) {u : Nat × Nat × Nat × Nat} {l1 l2 l4 s0 : Int} {M : zM} {Q : Int → zM → Prop} (H : (¬ l1 = 0 → zX G (y_Md_qTakes, h, sl) u 38 [(0, (2, 125)), (1, (0, l1)), (2, (1, l2)), (4, (0, l4)), (5, (0, s0))] [] M Q) ∧ (¬ (¬ l1 = 0) → (s0 = 0 → zX G (y_Md_qTakes, h, sl) u 38 [(0, (2, 125)), (1, (0, l1)), (2, (1, l2)), (4, (0, l4)), (5, (0, s0))] [] M Q) ∧ (¬ s0 = 0 → ((M 125 97) = (-1) → zX G (y_Md_qTakes, h, sl) u 55 [(0, (2, 125)), (1, (0, l1)), (2, (1, l2)), (5, (0, s0))] [] (zwr M 125 97 l4) Q) ∧ (¬ (M 125 97) = (-1) → zX G (y_Md_qTakes, h, sl) u 38 [(0, (2, 125)), (1, (0, l1)), (2, (1, l2)), (4, (0, l4)), (5, (0, s0))] [] M Q)))) : zX G (y_Md_qTakes, h, sl) u 16 [(0, (2, 125)), (1, (0, l1)), (2, (1, l2)), (4, (0, l4))] [(0, s0)] M Q := by
  refine x_istore (zdm d_Md_qTakes_0 10 rfl) (zlt rfl) rfl ?_
  refine x_iload_n (zdm d_Md_qTakes_0 11 rfl) rfl (n := 2) rfl ?_
  refine x_ifne (tgt := 38) (zdm d_Md_qTakes_0 12 rfl) (by decide) (fun c => ?_) (fun c => ?_)
  · have H := H.1 c
    exact zX.sub [1, 2, 3, 4, 0] rfl H
  · have H := H.2 c
    refine x_iload (zdm d_Md_qTakes_0 13 rfl) (n := 0) rfl ?_
    refine x_ifeq (tgt := 38) (zdm d_Md_qTakes_0 14 rfl) (by decide) (fun c => ?_) (fun c => ?_)
    · have H := H.1 c
      exact zX.sub [1, 2, 3, 4, 0] rfl H
    · have H := H.2 c
      refine x_aload_n (zdm d_Md_qTakes_0 15 rfl) rfl (n := 1) rfl ?_
      refine x_getf (zdm d_Md_qTakes_0 16 rfl) f_Md_620 rfl rfl ?_
      refine x_ldc2 (zdm d_Md_qTakes_0 17 rfl) (n := (-1)) (zLl rfl) w_Md_623 ?_
      refine x_lcmp_eq (tgt := 48) (zdm d_Md_qTakes_0 18 rfl) (zdm d_Md_qTakes_0 19 rfl) (by decide) (fun c => ?_) (fun c => ?_)
      · have H := H.1 c
        refine x_aload_n (zdm d_Md_qTakes_0 25 rfl) rfl (n := 1) rfl ?_
        refine x_iload (zdm d_Md_qTakes_0 26 rfl) (n := 4) rfl ?_
        refine x_i2l (zdm d_Md_qTakes_0 27 rfl) ?_
        refine x_putf (zdm d_Md_qTakes_0 28 rfl) f_Md_620 rfl ⟨rfl, trivial⟩ (Or.inl rfl) ?_
        exact zX.sub [1, 2, 3, 0] rfl H
      · have H := H.2 c
        exact zX.sub [1, 2, 3, 4, 0] rfl H
set_option maxRecDepth 20000 in
set_option maxHeartbeats 4000000 in
theorem E_Md_qTakes {G : zG} {h sl : Nat} (hsl : 2 ≤ sl) {l1 l2 l4 : Int} {M : zM} {Q : Int → zM → Prop} (H : (3 ≤ l1 → zX G (y_Md_qTakes, h, sl) (0, 0, 0, 0) 16 [(0, (2, 125)), (1, (0, l1)), (2, (1, l2)), (4, (0, l4))] [(0, 0)] M Q) ∧ (¬ 3 ≤ l1 → (¬ l2 = 1 → zX G (y_Md_qTakes, h, sl) (0, 0, 0, 0) 16 [(0, (2, 125)), (1, (0, l1)), (2, (1, l2)), (4, (0, l4))] [(0, 0)] M Q) ∧ (¬ (¬ l2 = 1) → zX G (y_Md_qTakes, h, sl) (0, 0, 0, 0) 16 [(0, (2, 125)), (1, (0, l1)), (2, (1, l2)), (4, (0, l4))] [(0, 1)] M Q))) : zCt G h sl 0 0 y_Md_qTakes [(2, 125), (0, l1), (1, l2), (0, l4)] M Q := by
  refine zCt.of (by decide +kernel) (Nat.le_of_ble_eq_true rfl) ?_
  refine x_iload_n (zdm d_Md_qTakes_0 0 rfl) rfl (n := 1) rfl ?_
  refine x_iconst (zdm d_Md_qTakes_0 1 rfl) (zIl rfl) ?_
  refine x_icmpge (tgt := 15) (zdm d_Md_qTakes_0 2 rfl) (by decide) (fun c => ?_) (fun c => ?_)
  · have H := H.1 c
    refine x_iconst (zdm d_Md_qTakes_0 9 rfl) (zIl rfl) ?_
    exact H
  · have H := H.2 c
    refine x_lload_n (zdm d_Md_qTakes_0 3 rfl) rfl (n := 2) rfl ?_
    refine x_lconst (zdm d_Md_qTakes_0 4 rfl) (x := 1) rfl ?_
    refine x_lcmp_ne (tgt := 15) (zdm d_Md_qTakes_0 5 rfl) (zdm d_Md_qTakes_0 6 rfl) (by decide) (fun c => ?_) (fun c => ?_)
    · have H := H.1 c
      refine x_iconst (zdm d_Md_qTakes_0 9 rfl) (zIl rfl) ?_
      exact H
    · have H := H.2 c
      refine x_iconst (zdm d_Md_qTakes_0 7 rfl) (zIl rfl) ?_
      refine x_goto (tgt := 16) (zdm d_Md_qTakes_0 8 rfl) (by decide) ?_
      exact H
