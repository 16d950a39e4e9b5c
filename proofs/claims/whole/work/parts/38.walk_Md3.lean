set_option maxRecDepth 20000 in
set_option maxHeartbeats 4000000 in
theorem B_Md_areTrueFor_2 {G : zG} {h sl : Nat} (hsl : 2 ≤ sl) {u : Nat × Nat × Nat × Nat} {l1 l2 : Int} {M : zM} {Q : Int → zM → Prop} (H : (l1 ≤ l2 → Q 1 M) ∧ (¬ l1 ≤ l2 → zCt G h sl 0 0 y_Md_lineGoes [(2, 125)] M (fun r1 M2 => zCt G h sl 0 0 y_Md_wrongMany [(2, 125)] M2 (fun r3 M4 => (r3 ≤ 0 → (zI (l2 + 1)) ∧ (zX G (y_Md_areTrueFor, h + 1, sl) u 2 [(0, (2, 125)), (1, (0, l1)), (2, (0, (l2 + 1)))] [] M4 Q)) ∧ (¬ r3 ≤ 0 → Q 0 M4))))) : zX G (y_Md_areTrueFor, h + 1, sl) u 2 [(0, (2, 125)), (1, (0, l1)), (2, (0, l2))] [] M Q := by
  refine x_iload_n (zdm d_Md_areTrueFor_0 2 rfl) rfl (n := 2) rfl ?_
  refine x_iload_n (zdm d_Md_areTrueFor_0 3 rfl) rfl (n := 1) rfl ?_
  refine x_icmpge (tgt := 26) (zdm d_Md_areTrueFor_0 4 rfl) (by decide) (fun c => ?_) (fun c => ?_)
  · have H := H.1 c
    refine x_iconst (zdm d_Md_areTrueFor_0 14 rfl) (zIl rfl) ?_
    exact x_ireturn (zdm d_Md_areTrueFor_0 15 rfl) (ty := .boolean) rfl (by decide) (Or.inr rfl) H
  · have H := H.2 c
    refine x_aload_n (zdm d_Md_areTrueFor_0 5 rfl) rfl (n := 0) rfl ?_
    refine x_callVv (n := 0) (ci := 11) (zdm d_Md_areTrueFor_0 6 rfl) k_Md_446 (As := []) rfl rfl rfl ⟨_, _, rfl⟩ (Nat.le_of_ble_eq_true rfl) rfl H (fun r1 M2 hr H => ?_)
    refine x_aload_n (zdm d_Md_areTrueFor_0 7 rfl) rfl (n := 0) rfl ?_
    refine x_callVi (n := 0) (ci := 11) (zdm d_Md_areTrueFor_0 8 rfl) k_Md_452 (As := []) rfl rfl rfl ⟨_, _, rfl⟩ (Nat.le_of_ble_eq_true rfl) trivial H (fun r3 M4 hr H => ?_)
    refine x_ifle (tgt := 20) (zdm d_Md_areTrueFor_0 9 rfl) (by decide) (fun c => ?_) (fun c => ?_)
    · have H := H.1 c
      obtain ⟨g5, H⟩ := H
      refine x_iinc (zdm d_Md_areTrueFor_0 12 rfl) (n := 2) rfl g5 (zlt rfl) rfl ?_
      refine x_goto (tgt := 2) (zdm d_Md_areTrueFor_0 13 rfl) (by decide) ?_
      exact zX.sub [1, 2, 0] rfl H
    · have H := H.2 c
      refine x_iconst (zdm d_Md_areTrueFor_0 10 rfl) (zIl rfl) ?_
      exact x_ireturn (zdm d_Md_areTrueFor_0 11 rfl) (ty := .boolean) rfl (by decide) (Or.inl rfl) H
set_option maxRecDepth 20000 in
set_option maxHeartbeats 4000000 in
theorem E_Md_areTrueFor {G : zG} {h sl : Nat} (hsl : 2 ≤ sl) {l1 : Int} {M : zM} {Q : Int → zM → Prop} (H : zX G (y_Md_areTrueFor, h + 1, sl) (0, 0, 0, 0) 2 [(0, (2, 125)), (1, (0, l1)), (2, (0, 0))] [] M Q) : zCt G (h + 1) sl 0 0 y_Md_areTrueFor [(2, 125), (0, l1)] M Q := by
  refine zCt.of (by decide +kernel) (Nat.le_of_ble_eq_true rfl) ?_
  refine x_iconst (zdm d_Md_areTrueFor_0 0 rfl) (zIl rfl) ?_
  refine x_istore_n (zdm d_Md_areTrueFor_0 1 rfl) rfl (zlt rfl) rfl ?_
  exact zX.sub [1, 2, 0] rfl H
set_option maxRecDepth 20000 in
set_option maxHeartbeats 4000000 in
theorem B_Md_heal_133 {G : zG} {h sl : Nat} (hsl : 2 ≤ sl) {u : Nat × Nat × Nat × Nat} {l1 l2 l3 : Int} {M : zM} {Q : Int → zM → Prop} (H : zCt G h sl 0 0 y_Md_triesAnew [(2, 125)] M (fun r1 M2 => (zI (l3 + 1)) ∧ (zX G (y_Md_heal, h + 1, sl) u 22 [(0, (2, 125)), (1, (0, l1)), (2, (0, l2)), (3, (0, (l3 + 1)))] [] M2 Q))) : zX G (y_Md_heal, h + 1, sl) u 133 [(0, (2, 125)), (1, (0, l1)), (2, (0, l2)), (3, (0, l3))] [] M Q := by
  refine x_aload_n (zdm d_Md_heal_1 12 rfl) rfl (n := 0) rfl ?_
  refine x_callVv (n := 0) (ci := 11) (zdm d_Md_heal_1 13 rfl) k_Md_458 (As := []) rfl rfl rfl ⟨_, _, rfl⟩ (Nat.le_of_ble_eq_true rfl) rfl H (fun r1 M2 hr H => ?_)
  obtain ⟨g3, H⟩ := H
  refine x_iinc (zdm d_Md_heal_1 14 rfl) (n := 3) rfl g3 (zlt rfl) rfl ?_
  refine x_goto (tgt := 22) (zdm d_Md_heal_1 15 rfl) (by decide) ?_
  exact zX.sub [1, 2, 3, 0] rfl H
set_option maxRecDepth 20000 in
set_option maxHeartbeats 4000000 in
theorem B_Md_heal_118 {G : zG} {h sl : Nat} (hsl : 2 ≤ sl) {u : Nat × Nat × Nat × Nat} {l1 l2 l3 l4 : Int} {M : zM} {Q : Int → zM → Prop} (H : (l4 = 0 → zX G (y_Md_heal, h + 1, sl) u 133 [(0, (2, 125)), (1, (0, l1)), (2, (0, l2)), (3, (0, l3))] [] M Q) ∧ (¬ l4 = 0 → zCt G h sl 0 0 y_Md_areTrueFor [(2, 125), (0, l1)] M (fun r1 M2 => (r1 = 0 → zX G (y_Md_heal, h + 1, sl) u 133 [(0, (2, 125)), (1, (0, l1)), (2, (0, l2)), (3, (0, l3))] [] M2 Q) ∧ (¬ r1 = 0 → zX G (y_Md_heal, h + 1, sl) u 133 [(0, (2, 125)), (1, (0, l1)), (2, (0, l3)), (3, (0, l3))] [] M2 Q)))) : zX G (y_Md_heal, h + 1, sl) u 118 [(0, (2, 125)), (1, (0, l1)), (2, (0, l2)), (3, (0, l3)), (4, (0, l4))] [] M Q := by
  refine x_iload (zdm d_Md_heal_1 4 rfl) (n := 4) rfl ?_
  refine x_ifeq (tgt := 133) (zdm d_Md_heal_1 5 rfl) (by decide) (fun c => ?_) (fun c => ?_)
  · have H := H.1 c
    exact zX.sub [0, 1, 2, 3] rfl H
  · have H := H.2 c
    refine x_aload_n (zdm d_Md_heal_1 6 rfl) rfl (n := 0) rfl ?_
    refine x_iload_n (zdm d_Md_heal_1 7 rfl) rfl (n := 1) rfl ?_
    refine x_callVi (n := 1) (ci := 11) (zdm d_Md_heal_1 8 rfl) k_Md_506 (As := [(0, l1)]) rfl rfl rfl ⟨_, _, rfl⟩ (Nat.le_of_ble_eq_true rfl) trivial H (fun r1 M2 hr H => ?_)
    have b3 : r1 = 0 ∨ r1 = 1 := hr
    refine x_ifeq (tgt := 133) (zdm d_Md_heal_1 9 rfl) (by decide) (fun c => ?_) (fun c => ?_)
    · have H := H.1 c
      exact zX.sub [0, 1, 2, 3] rfl H
    · have H := H.2 c
      refine x_iload_n (zdm d_Md_heal_1 10 rfl) rfl (n := 3) rfl ?_
      refine x_istore_n (zdm d_Md_heal_1 11 rfl) rfl (zlt rfl) rfl ?_
      exact zX.sub [1, 2, 0, 3] rfl H
set_option maxRecDepth 20000 in
set_option maxHeartbeats 4000000 in
theorem B_Md_heal_99 {G : zG} {h sl : Nat} (hsl : 2 ≤ sl) {u : Nat × Nat × Nat × Nat} {l1 l2 l3 l5 s0 : Int} {M : zM} {Q : Int → zM → Prop} (H : (s0 = 0 → (zI (l5 + 1)) ∧ (zX G (y_Md_heal, h + 1, sl) u 58 [(0, (2, 125)), (1, (0, l1)), (2, (0, l2)), (3, (0, l3)), (4, (0, s0)), (5, (0, (l5 + 1)))] [] M Q)) ∧ (¬ s0 = 0 → zCt G h sl 0 0 y_Md_setsRight [(2, 125), (0, l5)] M (fun r2 M3 => (zI (l5 + 1)) ∧ (zX G (y_Md_heal, h + 1, sl) u 58 [(0, (2, 125)), (1, (0, l1)), (2, (0, l2)), (3, (0, l3)), (4, (0, s0)), (5, (0, (l5 + 1)))] [] M3 Q)))) : zX G (y_Md_heal, h + 1, sl) u 99 [(0, (2, 125)), (1, (0, l1)), (2, (0, l2)), (3, (0, l3)), (5, (0, l5))] [(0, s0)] M Q := by
  refine x_istore (zdm d_Md_heal_0 56 rfl) (zlt rfl) rfl ?_
  refine x_iload (zdm d_Md_heal_0 57 rfl) (n := 0) rfl ?_
  refine x_ifeq (tgt := 112) (zdm d_Md_heal_0 58 rfl) (by decide) (fun c => ?_) (fun c => ?_)
  · have H := H.1 c
    obtain ⟨g1, H⟩ := H
    refine x_iinc (zdm d_Md_heal_1 2 rfl) (n := 5) rfl g1 (zlt rfl) rfl ?_
    refine x_goto (tgt := 58) (zdm d_Md_heal_1 3 rfl) (by decide) ?_
    exact zX.sub [2, 3, 4, 5, 1, 0] rfl H
  · have H := H.2 c
    refine x_aload_n (zdm d_Md_heal_0 59 rfl) rfl (n := 1) rfl ?_
    refine x_iload (zdm d_Md_heal_1 0 rfl) (n := 5) rfl ?_
    refine x_callVv (n := 1) (ci := 11) (zdm d_Md_heal_1 1 rfl) k_Md_503 (As := [(0, l5)]) rfl rfl rfl ⟨_, _, rfl⟩ (Nat.le_of_ble_eq_true rfl) rfl H (fun r2 M3 hr H => ?_)
    obtain ⟨g4, H⟩ := H
    refine x_iinc (zdm d_Md_heal_1 2 rfl) (n := 5) rfl g4 (zlt rfl) rfl ?_
    refine x_goto (tgt := 58) (zdm d_Md_heal_1 3 rfl) (by decide) ?_
    exact zX.sub [2, 3, 4, 5, 1, 0] rfl H
set_option maxRecDepth 20000 in
set_option maxHeartbeats 4000000 in
theorem B_Md_heal_58 {G : zG} {h sl : Nat} (hsl : 2 ≤ sl) {u : Nat × Nat × Nat × Nat} {l1 l2 l3 l4 l5 : Int} {M : zM} {Q : Int → zM → Prop} (H : zCt G h sl 0 0 y_Md_columnMany [(2, 125)] M (fun r1 M2 => (r1 ≤ l5 → zX G (y_Md_heal, h + 1, sl) u 118 [(0, (2, 125)), (1, (0, l1)), (2, (0, l2)), (3, (0, l3)), (4, (0, l4))] [] M2 Q) ∧ (¬ r1 ≤ l5 → (l4 = 0 → zX G (y_Md_heal, h + 1, sl) u 118 [(0, (2, 125)), (1, (0, l1)), (2, (0, l2)), (3, (0, l3)), (4, (0, l4))] [] M2 Q) ∧ (¬ l4 = 0 → (¬ (zand (zshr l3 l5) 1) = 0 → zCt G h sl 0 0 y_Md_sortOf [(2, 125), (0, l5)] M2 (fun r3 M4 => (r3 = 3 → zX G (y_Md_heal, h + 1, sl) u 99 [(0, (2, 125)), (1, (0, l1)), (2, (0, l2)), (3, (0, l3)), (5, (0, l5))] [(0, 0)] M4 Q) ∧ (¬ r3 = 3 → zX G (y_Md_heal, h + 1, sl) u 99 [(0, (2, 125)), (1, (0, l1)), (2, (0, l2)), (3, (0, l3)), (5, (0, l5))] [(0, 1)] M4 Q))) ∧ (¬ (¬ (zand (zshr l3 l5) 1) = 0) → (zI (l5 + 1)) ∧ (zX G (y_Md_heal, h + 1, sl) u 58 [(0, (2, 125)), (1, (0, l1)), (2, (0, l2)), (3, (0, l3)), (4, (0, l4)), (5, (0, (l5 + 1)))] [] M2 Q)))))) : zX G (y_Md_heal, h + 1, sl) u 58 [(0, (2, 125)), (1, (0, l1)), (2, (0, l2)), (3, (0, l3)), (4, (0, l4)), (5, (0, l5))] [] M Q := by
  refine x_iload (zdm d_Md_heal_0 35 rfl) (n := 5) rfl ?_
  refine x_aload_n (zdm d_Md_heal_0 36 rfl) rfl (n := 0) rfl ?_
  refine x_callVi (n := 0) (ci := 11) (zdm d_Md_heal_0 37 rfl) k_Md_391 (As := []) rfl rfl rfl ⟨_, _, rfl⟩ (Nat.le_of_ble_eq_true rfl) trivial H (fun r1 M2 hr H => ?_)
  refine x_icmpge (tgt := 118) (zdm d_Md_heal_0 38 rfl) (by decide) (fun c => ?_) (fun c => ?_)
  · have H := H.1 c
    exact zX.sub [0, 1, 2, 3, 4] rfl H
  · have H := H.2 c
    refine x_iload (zdm d_Md_heal_0 39 rfl) (n := 4) rfl ?_
    refine x_ifeq (tgt := 118) (zdm d_Md_heal_0 40 rfl) (by decide) (fun c => ?_) (fun c => ?_)
    · have H := H.1 c
      exact zX.sub [0, 1, 2, 3, 4] rfl H
    · have H := H.2 c
      refine x_iload_n (zdm d_Md_heal_0 41 rfl) rfl (n := 3) rfl ?_
      refine x_iload (zdm d_Md_heal_0 42 rfl) (n := 5) rfl ?_
      refine x_ishr (zdm d_Md_heal_0 43 rfl) ?_
      refine x_iconst (zdm d_Md_heal_0 44 rfl) (zIl rfl) ?_
      refine x_iand (zdm d_Md_heal_0 45 rfl) ?_
      refine x_ifne (tgt := 84) (zdm d_Md_heal_0 46 rfl) (by decide) (fun c => ?_) (fun c => ?_)
      · have H := H.1 c
        refine x_aload_n (zdm d_Md_heal_0 48 rfl) rfl (n := 0) rfl ?_
        refine x_iload (zdm d_Md_heal_0 49 rfl) (n := 5) rfl ?_
        refine x_callVi (n := 1) (ci := 11) (zdm d_Md_heal_0 50 rfl) k_Md_424 (As := [(0, l5)]) rfl rfl rfl ⟨_, _, rfl⟩ (Nat.le_of_ble_eq_true rfl) trivial H (fun r3 M4 hr H => ?_)
        refine x_iconst (zdm d_Md_heal_0 51 rfl) (zIl rfl) ?_
        refine x_icmpeq (tgt := 98) (zdm d_Md_heal_0 52 rfl) (by decide) (fun c => ?_) (fun c => ?_)
        · have H := H.1 c
          refine x_iconst (zdm d_Md_heal_0 55 rfl) (zIl rfl) ?_
          exact zX.sub [0, 1, 2, 3, 5] rfl H
        · have H := H.2 c
          refine x_iconst (zdm d_Md_heal_0 53 rfl) (zIl rfl) ?_
          refine x_goto (tgt := 99) (zdm d_Md_heal_0 54 rfl) (by decide) ?_
          exact zX.sub [0, 1, 2, 3, 5] rfl H
      · have H := H.2 c
        refine x_goto (tgt := 112) (zdm d_Md_heal_0 47 rfl) (by decide) ?_
        obtain ⟨g5, H⟩ := H
        refine x_iinc (zdm d_Md_heal_1 2 rfl) (n := 5) rfl g5 (zlt rfl) rfl ?_
        refine x_goto (tgt := 58) (zdm d_Md_heal_1 3 rfl) (by decide) ?_
        exact zX.sub [1, 2, 3, 4, 5, 0] rfl H
set_option maxRecDepth 20000 in
set_option maxHeartbeats 4000000 in
theorem B_Md_heal_22 {G : zG} {h sl : Nat} (hsl : 2 ≤ sl) {u : Nat × Nat × Nat × Nat} {l1 l2 l3 : Int} {M : zM} {Q : Int → zM → Prop} (H : zCt G h sl 0 0 y_Md_columnMany [(2, 125)] M (fun r1 M2 => ((zshl 1 r1) ≤ l3 → zCt G h sl 0 0 y_Md_takesBack [(2, 125)] M2 (fun r3 M4 => Q l2 M4)) ∧ (¬ (zshl 1 r1) ≤ l3 → (l2 = (-1) → zX G (y_Md_heal, h + 1, sl) u 58 [(0, (2, 125)), (1, (0, l1)), (2, (0, l2)), (3, (0, l3)), (4, (0, 1)), (5, (0, 0))] [] M2 Q) ∧ (¬ l2 = (-1) → zCt G h sl 0 0 y_Md_bits [(0, l3)] M2 (fun r5 M6 => zCt G h sl 0 0 y_Md_bits [(0, l2)] M6 (fun r7 M8 => (r7 ≤ r5 → zX G (y_Md_heal, h + 1, sl) u 58 [(0, (2, 125)), (1, (0, l1)), (2, (0, l2)), (3, (0, l3)), (4, (0, 0)), (5, (0, 0))] [] M8 Q) ∧ (¬ r7 ≤ r5 → zX G (y_Md_heal, h + 1, sl) u 58 [(0, (2, 125)), (1, (0, l1)), (2, (0, l2)), (3, (0, l3)), (4, (0, 1)), (5, (0, 0))] [] M8 Q))))))) : zX G (y_Md_heal, h + 1, sl) u 22 [(0, (2, 125)), (1, (0, l1)), (2, (0, l2)), (3, (0, l3))] [] M Q := by
  refine x_iload_n (zdm d_Md_heal_0 15 rfl) rfl (n := 3) rfl ?_
  refine x_iconst (zdm d_Md_heal_0 16 rfl) (zIl rfl) ?_
  refine x_aload_n (zdm d_Md_heal_0 17 rfl) rfl (n := 0) rfl ?_
  refine x_callVi (n := 0) (ci := 11) (zdm d_Md_heal_0 18 rfl) k_Md_391 (As := []) rfl rfl rfl ⟨_, _, rfl⟩ (Nat.le_of_ble_eq_true rfl) trivial H (fun r1 M2 hr H => ?_)
  refine x_ishl (zdm d_Md_heal_0 19 rfl) ?_
  refine x_icmpge (tgt := 143) (zdm d_Md_heal_0 20 rfl) (by decide) (fun c => ?_) (fun c => ?_)
  · have H := H.1 c
    refine x_aload_n (zdm d_Md_heal_1 16 rfl) rfl (n := 0) rfl ?_
    refine x_callVv (n := 0) (ci := 11) (zdm d_Md_heal_1 17 rfl) k_Md_486 (As := []) rfl rfl rfl ⟨_, _, rfl⟩ (Nat.le_of_ble_eq_true rfl) rfl H (fun r3 M4 hr H => ?_)
    refine x_iload_n (zdm d_Md_heal_1 18 rfl) rfl (n := 2) rfl ?_
    exact x_iret (zdm d_Md_heal_1 19 rfl) rfl H
  · have H := H.2 c
    refine x_iload_n (zdm d_Md_heal_0 21 rfl) rfl (n := 2) rfl ?_
    refine x_iconst (zdm d_Md_heal_0 22 rfl) (zIl rfl) ?_
    refine x_icmpeq (tgt := 48) (zdm d_Md_heal_0 23 rfl) (by decide) (fun c => ?_) (fun c => ?_)
    · have H := H.1 c
      refine x_iconst (zdm d_Md_heal_0 29 rfl) (zIl rfl) ?_
      refine x_goto (tgt := 53) (zdm d_Md_heal_0 30 rfl) (by decide) ?_
      refine x_istore (zdm d_Md_heal_0 32 rfl) (zlt rfl) rfl ?_
      refine x_iconst (zdm d_Md_heal_0 33 rfl) (zIl rfl) ?_
      refine x_istore (zdm d_Md_heal_0 34 rfl) (zlt rfl) rfl ?_
      exact zX.sub [2, 3, 4, 5, 1, 0] rfl H
    · have H := H.2 c
      refine x_iload_n (zdm d_Md_heal_0 24 rfl) rfl (n := 3) rfl ?_
      refine x_callSi (n := 1) (zdm d_Md_heal_0 25 rfl) k_Md_500 (As := [(0, l3)]) rfl rfl (Nat.le_of_ble_eq_true rfl) trivial H (fun r5 M6 hr H => ?_)
      refine x_iload_n (zdm d_Md_heal_0 26 rfl) rfl (n := 2) rfl ?_
      refine x_callSi (n := 1) (zdm d_Md_heal_0 27 rfl) k_Md_500 (As := [(0, l2)]) rfl rfl (Nat.le_of_ble_eq_true rfl) trivial H (fun r7 M8 hr H => ?_)
      refine x_icmpge (tgt := 52) (zdm d_Md_heal_0 28 rfl) (by decide) (fun c => ?_) (fun c => ?_)
      · have H := H.1 c
        refine x_iconst (zdm d_Md_heal_0 31 rfl) (zIl rfl) ?_
        refine x_istore (zdm d_Md_heal_0 32 rfl) (zlt rfl) rfl ?_
        refine x_iconst (zdm d_Md_heal_0 33 rfl) (zIl rfl) ?_
        refine x_istore (zdm d_Md_heal_0 34 rfl) (zlt rfl) rfl ?_
        exact zX.sub [2, 3, 4, 5, 1, 0] rfl H
      · have H := H.2 c
        refine x_iconst (zdm d_Md_heal_0 29 rfl) (zIl rfl) ?_
        refine x_goto (tgt := 53) (zdm d_Md_heal_0 30 rfl) (by decide) ?_
        refine x_istore (zdm d_Md_heal_0 32 rfl) (zlt rfl) rfl ?_
        refine x_iconst (zdm d_Md_heal_0 33 rfl) (zIl rfl) ?_
        refine x_istore (zdm d_Md_heal_0 34 rfl) (zlt rfl) rfl ?_
        exact zX.sub [2, 3, 4, 5, 1, 0] rfl H
set_option maxRecDepth 20000 in
set_option maxHeartbeats 4000000 in
theorem E_Md_heal {G : zG} {h sl : Nat} (hsl : 2 ≤ sl) {l1 : Int} {M : zM} {Q : Int → zM → Prop} (H : zCt G h sl 0 0 y_Md_isAhead [(2, 125), (1, l1), (0, 1), (0, 60)] M (fun r1 M2 => (¬ r1 = 0 → zCt G h sl 0 0 y_Md_putsAside [(2, 125)] M2 (fun r4 M5 => zX G (y_Md_heal, h + 1, sl) (0, 0, 0, 0) 22 [(0, (2, 125)), (1, (0, l1)), (2, (0, (-1))), (3, (0, 0))] [] M5 Q)) ∧ (¬ (¬ r1 = 0) → Q (-1) M2))) : zCt G (h + 1) sl 0 0 y_Md_heal [(2, 125), (0, l1)] M Q := by
  refine zCt.of (by decide +kernel) (Nat.le_of_ble_eq_true rfl) ?_
  refine x_aload_n (zdm d_Md_heal_0 0 rfl) rfl (n := 0) rfl ?_
  refine x_iload_n (zdm d_Md_heal_0 1 rfl) rfl (n := 1) rfl ?_
  refine x_i2l (zdm d_Md_heal_0 2 rfl) ?_
  refine x_iconst (zdm d_Md_heal_0 3 rfl) (zIl rfl) ?_
  refine x_bipush (zdm d_Md_heal_0 4 rfl) (by decide) ?_
  refine x_callVi (n := 3) (ci := 11) (zdm d_Md_heal_0 5 rfl) k_Md_489 (As := [(1, l1), (0, 1), (0, 60)]) rfl rfl rfl ⟨_, _, rfl⟩ (Nat.le_of_ble_eq_true rfl) trivial H (fun r1 M2 hr H => ?_)
  have b3 : r1 = 0 ∨ r1 = 1 := hr
  refine x_ifne (tgt := 14) (zdm d_Md_heal_0 6 rfl) (by decide) (fun c => ?_) (fun c => ?_)
  · have H := H.1 c
    refine x_iconst (zdm d_Md_heal_0 9 rfl) (zIl rfl) ?_
    refine x_istore_n (zdm d_Md_heal_0 10 rfl) rfl (zlt rfl) rfl ?_
    refine x_aload_n (zdm d_Md_heal_0 11 rfl) rfl (n := 1) rfl ?_
    refine x_callVv (n := 0) (ci := 11) (zdm d_Md_heal_0 12 rfl) k_Md_483 (As := []) rfl rfl rfl ⟨_, _, rfl⟩ (Nat.le_of_ble_eq_true rfl) rfl H (fun r4 M5 hr H => ?_)
    refine x_iconst (zdm d_Md_heal_0 13 rfl) (zIl rfl) ?_
    refine x_istore_n (zdm d_Md_heal_0 14 rfl) rfl (zlt rfl) rfl ?_
    exact zX.sub [2, 3, 1, 0] rfl H
  · have H := H.2 c
    refine x_iconst (zdm d_Md_heal_0 7 rfl) (zIl rfl) ?_
    exact x_iret (zdm d_Md_heal_0 8 rfl) rfl H
set_option maxRecDepth 20000 in
set_option maxHeartbeats 4000000 in
theorem E_Md_isSlipped {G : zG} {h sl : Nat} (hsl : 2 ≤ sl) {l1 l2 : Int} {M : zM} {Q : Int → zM → Prop} (H : zCt G h sl 0 0 y_Md_sortOf [(2, 125), (0, l1)] M (fun r1 M2 => (¬ r1 = 3 → zCt G h sl 0 0 y_Md_leastOf [(2, 125), (0, l1)] M2 (fun r3 M4 => (zI (1 + l1)) ∧ (zCt G h sl 0 0 y_Md_valueOf [(2, 125), (0, l1)] M4 (fun r6 M7 => (zI (r6 - r3)) ∧ ((zI ((r6 - r3) + l2)) ∧ (zCt G h sl 0 0 y_Md_mostOf [(2, 125), (0, l1)] M7 (fun r10 M11 => (zI (r10 - r3)) ∧ ((zI ((r10 - r3) + 1)) ∧ (zCt G h sl 0 0 y_Md_around [(1, ((r6 - r3) + l2)), (0, ((r10 - r3) + 1))] M11 (fun r14 M15 => (zI (r3 + r14)) ∧ ((0 ≤ (1 + l1) ∧ (1 + l1) < 98) ∧ (Q 1 (zwr M15 164 (1 + l1) (r3 + r14)))))))))))))) ∧ (¬ (¬ r1 = 3) → Q 0 M2))) : zCt G (h + 1) sl 0 0 y_Md_isSlipped [(2, 125), (0, l1), (0, l2)] M Q := by
  refine zCt.of (by decide +kernel) (Nat.le_of_ble_eq_true rfl) ?_
  refine x_aload_n (zdm d_Md_isSlipped_0 0 rfl) rfl (n := 0) rfl ?_
  refine x_iload_n (zdm d_Md_isSlipped_0 1 rfl) rfl (n := 1) rfl ?_
  refine x_callVi (n := 1) (ci := 11) (zdm d_Md_isSlipped_0 2 rfl) k_Md_424 (As := [(0, l1)]) rfl rfl rfl ⟨_, _, rfl⟩ (Nat.le_of_ble_eq_true rfl) trivial H (fun r1 M2 hr H => ?_)
  refine x_iconst (zdm d_Md_isSlipped_0 3 rfl) (zIl rfl) ?_
  refine x_icmpne (tgt := 11) (zdm d_Md_isSlipped_0 4 rfl) (by decide) (fun c => ?_) (fun c => ?_)
  · have H := H.1 c
    refine x_aload_n (zdm d_Md_isSlipped_0 7 rfl) rfl (n := 0) rfl ?_
    refine x_iload_n (zdm d_Md_isSlipped_0 8 rfl) rfl (n := 1) rfl ?_
    refine x_callVi (n := 1) (ci := 11) (zdm d_Md_isSlipped_0 9 rfl) k_Md_472 (As := [(0, l1)]) rfl rfl rfl ⟨_, _, rfl⟩ (Nat.le_of_ble_eq_true rfl) trivial H (fun r3 M4 hr H => ?_)
    refine x_istore_n (zdm d_Md_isSlipped_0 10 rfl) rfl (zlt rfl) rfl ?_
    refine x_aload_n (zdm d_Md_isSlipped_0 11 rfl) rfl (n := 1) rfl ?_
    refine x_getG (zdm d_Md_isSlipped_0 12 rfl) f_Md_130 rfl rfl (by decide) hsl rfl ?_
    refine x_iconst (zdm d_Md_isSlipped_0 13 rfl) (zIl rfl) ?_
    refine x_iload_n (zdm d_Md_isSlipped_0 14 rfl) rfl (n := 2) rfl ?_
    obtain ⟨g5, H⟩ := H
    refine x_iadd (zdm d_Md_isSlipped_0 15 rfl) g5 ?_
    refine x_iload_n (zdm d_Md_isSlipped_0 16 rfl) rfl (n := 0) rfl ?_
    refine x_aload_n (zdm d_Md_isSlipped_0 17 rfl) rfl (n := 1) rfl ?_
    refine x_iload_n (zdm d_Md_isSlipped_0 18 rfl) rfl (n := 2) rfl ?_
    refine x_callVi (n := 1) (ci := 11) (zdm d_Md_isSlipped_0 19 rfl) k_Md_430 (As := [(0, l1)]) rfl rfl rfl ⟨_, _, rfl⟩ (Nat.le_of_ble_eq_true rfl) trivial H (fun r6 M7 hr H => ?_)
    refine x_iload_n (zdm d_Md_isSlipped_0 20 rfl) rfl (n := 0) rfl ?_
    obtain ⟨g8, H⟩ := H
    refine x_isub (zdm d_Md_isSlipped_0 21 rfl) g8 ?_
    refine x_iload_n (zdm d_Md_isSlipped_0 22 rfl) rfl (n := 3) rfl ?_
    obtain ⟨g9, H⟩ := H
    refine x_iadd (zdm d_Md_isSlipped_0 23 rfl) g9 ?_
    refine x_i2l (zdm d_Md_isSlipped_0 24 rfl) ?_
    refine x_aload_n (zdm d_Md_isSlipped_0 25 rfl) rfl (n := 1) rfl ?_
    refine x_iload_n (zdm d_Md_isSlipped_0 26 rfl) rfl (n := 2) rfl ?_
    refine x_callVi (n := 1) (ci := 11) (zdm d_Md_isSlipped_0 27 rfl) k_Md_475 (As := [(0, l1)]) rfl rfl rfl ⟨_, _, rfl⟩ (Nat.le_of_ble_eq_true rfl) trivial H (fun r10 M11 hr H => ?_)
    refine x_iload_n (zdm d_Md_isSlipped_0 28 rfl) rfl (n := 0) rfl ?_
    obtain ⟨g12, H⟩ := H
    refine x_isub (zdm d_Md_isSlipped_0 29 rfl) g12 ?_
    refine x_iconst (zdm d_Md_isSlipped_0 30 rfl) (zIl rfl) ?_
    obtain ⟨g13, H⟩ := H
    refine x_iadd (zdm d_Md_isSlipped_0 31 rfl) g13 ?_
    refine x_callSi (n := 2) (zdm d_Md_isSlipped_0 32 rfl) k_Md_439 (As := [(1, ((r6 - r3) + l2)), (0, ((r10 - r3) + 1))]) rfl rfl (Nat.le_of_ble_eq_true rfl) trivial H (fun r14 M15 hr H => ?_)
    obtain ⟨g16, H⟩ := H
    refine x_iadd (zdm d_Md_isSlipped_0 33 rfl) g16 ?_
    obtain ⟨g17, H⟩ := H
    refine x_iast (zdm d_Md_isSlipped_0 34 rfl) rfl g17 ?_
    refine x_iconst (zdm d_Md_isSlipped_0 35 rfl) (zIl rfl) ?_
    exact x_ireturn (zdm d_Md_isSlipped_0 36 rfl) (ty := .boolean) rfl (by decide) (Or.inr rfl) H
  · have H := H.2 c
    refine x_iconst (zdm d_Md_isSlipped_0 5 rfl) (zIl rfl) ?_
    exact x_ireturn (zdm d_Md_isSlipped_0 6 rfl) (ty := .boolean) rfl (by decide) (Or.inl rfl) H
set_option maxRecDepth 20000 in
set_option maxHeartbeats 4000000 in
theorem B_Md_odds_121 {G : zG} {h sl : Nat} (hsl : 2 ≤ sl) {u : Nat × Nat × Nat × Nat} {l1 l2 l3 l4 l5 : Int} {M : zM} {Q : Int → zM → Prop} (H : (10 ≤ l5 → zCt G h sl 0 0 y_Md_takesBack [(2, 125)] M (fun r1 M2 => Q l4 M2)) ∧ (¬ 10 ≤ l5 → (zI (1 + l1)) ∧ ((0 ≤ (1 + l1) ∧ (1 + l1) < 98) ∧ (zCt G h sl 0 0 y_Md_isSlipped [(2, 125), (0, l1), (0, l5)] (zwr M 164 (1 + l1) l2) (fun r5 M6 => zCt G h sl 0 0 y_Md_valueOf [(2, 125), (0, l1)] M6 (fun r8 M9 => (¬ r8 = l3 → (zI (l5 + 1)) ∧ (zX G (y_Md_odds, h + 1, sl) u 121 [(0, (2, 125)), (1, (0, l1)), (2, (0, l2)), (3, (0, l3)), (4, (0, l4)), (5, (0, (l5 + 1)))] [] M9 Q)) ∧ (¬ (¬ r8 = l3) → (zI (l4 + (M9 158 3))) ∧ ((zI (l5 + 1)) ∧ (zX G (y_Md_odds, h + 1, sl) u 121 [(0, (2, 125)), (1, (0, l1)), (2, (0, l2)), (3, (0, l3)), (4, (0, (l4 + (M9 158 3)))), (5, (0, (l5 + 1)))] [] M9 Q))))))))) : zX G (y_Md_odds, h + 1, sl) u 121 [(0, (2, 125)), (1, (0, l1)), (2, (0, l2)), (3, (0, l3)), (4, (0, l4)), (5, (0, l5))] [] M Q := by
  refine x_iload (zdm d_Md_odds_1 14 rfl) (n := 5) rfl ?_
  refine x_bipush (zdm d_Md_odds_1 15 rfl) (by decide) ?_
  refine x_icmpge (tgt := 171) (zdm d_Md_odds_1 16 rfl) (by decide) (fun c => ?_) (fun c => ?_)
  · have H := H.1 c
    refine x_aload_n (zdm d_Md_odds_1 43 rfl) rfl (n := 0) rfl ?_
    refine x_callVv (n := 0) (ci := 11) (zdm d_Md_odds_1 44 rfl) k_Md_486 (As := []) rfl rfl rfl ⟨_, _, rfl⟩ (Nat.le_of_ble_eq_true rfl) rfl H (fun r1 M2 hr H => ?_)
    refine x_iload (zdm d_Md_odds_1 45 rfl) (n := 4) rfl ?_
    exact x_iret (zdm d_Md_odds_1 46 rfl) rfl H
  · have H := H.2 c
    refine x_aload_n (zdm d_Md_odds_1 17 rfl) rfl (n := 0) rfl ?_
    refine x_getG (zdm d_Md_odds_1 18 rfl) f_Md_130 rfl rfl (by decide) hsl rfl ?_
    refine x_iconst (zdm d_Md_odds_1 19 rfl) (zIl rfl) ?_
    refine x_iload_n (zdm d_Md_odds_1 20 rfl) rfl (n := 1) rfl ?_
    obtain ⟨g3, H⟩ := H
    refine x_iadd (zdm d_Md_odds_1 21 rfl) g3 ?_
    refine x_iload_n (zdm d_Md_odds_1 22 rfl) rfl (n := 2) rfl ?_
    obtain ⟨g4, H⟩ := H
    refine x_iast (zdm d_Md_odds_1 23 rfl) rfl g4 ?_
    refine x_aload_n (zdm d_Md_odds_1 24 rfl) rfl (n := 0) rfl ?_
    refine x_iload_n (zdm d_Md_odds_1 25 rfl) rfl (n := 1) rfl ?_
    refine x_iload (zdm d_Md_odds_1 26 rfl) (n := 5) rfl ?_
    refine x_callVi (n := 2) (ci := 11) (zdm d_Md_odds_1 27 rfl) k_Md_509 (As := [(0, l1), (0, l5)]) rfl rfl rfl ⟨_, _, rfl⟩ (Nat.le_of_ble_eq_true rfl) trivial H (fun r5 M6 hr H => ?_)
    have b7 : r5 = 0 ∨ r5 = 1 := hr
    refine x_pop (zdm d_Md_odds_1 28 rfl) z0n1 ?_
    refine x_aload_n (zdm d_Md_odds_1 29 rfl) rfl (n := 0) rfl ?_
    refine x_iload_n (zdm d_Md_odds_1 30 rfl) rfl (n := 1) rfl ?_
    refine x_callVi (n := 1) (ci := 11) (zdm d_Md_odds_1 31 rfl) k_Md_430 (As := [(0, l1)]) rfl rfl rfl ⟨_, _, rfl⟩ (Nat.le_of_ble_eq_true rfl) trivial H (fun r8 M9 hr H => ?_)
    refine x_iload_n (zdm d_Md_odds_1 32 rfl) rfl (n := 3) rfl ?_
    refine x_icmpne (tgt := 165) (zdm d_Md_odds_1 33 rfl) (by decide) (fun c => ?_) (fun c => ?_)
    · have H := H.1 c
      obtain ⟨g10, H⟩ := H
      refine x_iinc (zdm d_Md_odds_1 41 rfl) (n := 5) rfl g10 (zlt rfl) rfl ?_
      refine x_goto (tgt := 121) (zdm d_Md_odds_1 42 rfl) (by decide) ?_
      exact zX.sub [1, 2, 3, 4, 5, 0] rfl H
    · have H := H.2 c
      refine x_iload (zdm d_Md_odds_1 34 rfl) (n := 4) rfl ?_
      refine x_aload_n (zdm d_Md_odds_1 35 rfl) rfl (n := 0) rfl ?_
      refine x_getG (zdm d_Md_odds_1 36 rfl) f_Md_111 rfl rfl (by decide) hsl rfl ?_
      refine x_iconst (zdm d_Md_odds_1 37 rfl) (zIl rfl) ?_
      refine x_iald (zdm d_Md_odds_1 38 rfl) rfl ⟨by decide, by decide⟩ ?_
      obtain ⟨g11, H⟩ := H
      refine x_iadd (zdm d_Md_odds_1 39 rfl) g11 ?_
      refine x_istore (zdm d_Md_odds_1 40 rfl) (zlt rfl) rfl ?_
      obtain ⟨g12, H⟩ := H
      refine x_iinc (zdm d_Md_odds_1 41 rfl) (n := 5) rfl g12 (zlt rfl) rfl ?_
      refine x_goto (tgt := 121) (zdm d_Md_odds_1 42 rfl) (by decide) ?_
      exact zX.sub [2, 3, 4, 5, 1, 0] rfl H
set_option maxRecDepth 20000 in
set_option maxHeartbeats 4000000 in
theorem B_Md_odds_14 {G : zG} {h sl : Nat} (hsl : 2 ≤ sl) {u : Nat × Nat × Nat × Nat} {l1 : Int} {M : zM} {Q : Int → zM → Prop} (H : zCt G h sl 0 0 y_Md_columnMany [(2, 125)] M (fun r1 M2 => (r1 = 0 → Q (-1) M2) ∧ (¬ r1 = 0 → zCt G h sl 0 0 y_Md_isAhead [(2, 125), (1, 1), (0, 1), (0, 1)] M2 (fun r3 M4 => (¬ r3 = 0 → (¬ l1 = (-1) → zCt G h sl 0 0 y_Md_putsAside [(2, 125)] M4 (fun r6 M7 => zCt G h sl 0 0 y_Md_lineGoes [(2, 125)] M7 (fun r8 M9 => zCt G h sl 0 0 y_Md_valueOf [(2, 125), (0, l1)] M9 (fun r10 M11 => zCt G h sl 0 0 y_Md_trueOf [(2, 125), (0, (M11 164 0)), (0, l1)] M11 (fun r12 M13 => (¬ r10 = r12 → zX G (y_Md_odds, h + 1, sl) u 121 [(0, (2, 125)), (1, (0, l1)), (2, (0, r10)), (3, (0, r12)), (4, (0, 0)), (5, (0, 1))] [] M13 Q) ∧ (¬ (¬ r10 = r12) → (zI (100 - (M13 158 3))) ∧ ((zI (9 * (100 - (M13 158 3)))) ∧ (zCt G h sl 0 0 y_Md_columnMany [(2, 125)] M13 (fun r16 M17 => (zI ((9 * (100 - (M13 158 3))) * r16)) ∧ ((zI (9 * (M17 158 3))) ∧ (zCt G h sl 0 0 y_Md_columnMany [(2, 125)] M17 (fun r20 M21 => (zI (r20 - 1)) ∧ ((zI ((9 * (M17 158 3)) * (r20 - 1))) ∧ ((zI (((9 * (100 - (M13 158 3))) * r16) + ((9 * (M17 158 3)) * (r20 - 1)))) ∧ (zX G (y_Md_odds, h + 1, sl) u 121 [(0, (2, 125)), (1, (0, l1)), (2, (0, r10)), (3, (0, r12)), (4, (0, (((9 * (100 - (M13 158 3))) * r16) + ((9 * (M17 158 3)) * (r20 - 1))))), (5, (0, 1))] [] M21 Q))))))))))))))) ∧ (¬ (¬ l1 = (-1)) → zCt G h sl 0 0 y_Md_columnMany [(2, 125)] M4 (fun r25 M26 => (zI (900 * r25)) ∧ (Q (900 * r25) M26)))) ∧ (¬ (¬ r3 = 0) → Q (-1) M4))))) : zX G (y_Md_odds, h + 1, sl) u 14 [(0, (2, 125)), (1, (0, l1))] [] M Q := by
  refine x_aload_n (zdm d_Md_odds_0 8 rfl) rfl (n := 0) rfl ?_
  refine x_callVi (n := 0) (ci := 11) (zdm d_Md_odds_0 9 rfl) k_Md_391 (As := []) rfl rfl rfl ⟨_, _, rfl⟩ (Nat.le_of_ble_eq_true rfl) trivial H (fun r1 M2 hr H => ?_)
  refine x_ifeq (tgt := 31) (zdm d_Md_odds_0 10 rfl) (by decide) (fun c => ?_) (fun c => ?_)
  · have H := H.1 c
    refine x_iconst (zdm d_Md_odds_0 17 rfl) (zIl rfl) ?_
    exact x_iret (zdm d_Md_odds_0 18 rfl) rfl H
  · have H := H.2 c
    refine x_aload_n (zdm d_Md_odds_0 11 rfl) rfl (n := 0) rfl ?_
    refine x_lconst (zdm d_Md_odds_0 12 rfl) (x := 1) rfl ?_
    refine x_iconst (zdm d_Md_odds_0 13 rfl) (zIl rfl) ?_
    refine x_iconst (zdm d_Md_odds_0 14 rfl) (zIl rfl) ?_
    refine x_callVi (n := 3) (ci := 11) (zdm d_Md_odds_0 15 rfl) k_Md_489 (As := [(1, 1), (0, 1), (0, 1)]) rfl rfl rfl ⟨_, _, rfl⟩ (Nat.le_of_ble_eq_true rfl) trivial H (fun r3 M4 hr H => ?_)
    have b5 : r3 = 0 ∨ r3 = 1 := hr
    refine x_ifne (tgt := 33) (zdm d_Md_odds_0 16 rfl) (by decide) (fun c => ?_) (fun c => ?_)
    · have H := H.1 c
      refine x_iload_n (zdm d_Md_odds_0 19 rfl) rfl (n := 1) rfl ?_
      refine x_iconst (zdm d_Md_odds_0 20 rfl) (zIl rfl) ?_
      refine x_icmpne (tgt := 47) (zdm d_Md_odds_0 21 rfl) (by decide) (fun c => ?_) (fun c => ?_)
      · have H := H.1 c
        refine x_aload_n (zdm d_Md_odds_0 27 rfl) rfl (n := 0) rfl ?_
        refine x_callVv (n := 0) (ci := 11) (zdm d_Md_odds_0 28 rfl) k_Md_483 (As := []) rfl rfl rfl ⟨_, _, rfl⟩ (Nat.le_of_ble_eq_true rfl) rfl H (fun r6 M7 hr H => ?_)
        refine x_aload_n (zdm d_Md_odds_0 29 rfl) rfl (n := 0) rfl ?_
        refine x_callVv (n := 0) (ci := 11) (zdm d_Md_odds_0 30 rfl) k_Md_446 (As := []) rfl rfl rfl ⟨_, _, rfl⟩ (Nat.le_of_ble_eq_true rfl) rfl H (fun r8 M9 hr H => ?_)
        refine x_aload_n (zdm d_Md_odds_0 31 rfl) rfl (n := 0) rfl ?_
        refine x_iload_n (zdm d_Md_odds_0 32 rfl) rfl (n := 1) rfl ?_
        refine x_callVi (n := 1) (ci := 11) (zdm d_Md_odds_0 33 rfl) k_Md_430 (As := [(0, l1)]) rfl rfl rfl ⟨_, _, rfl⟩ (Nat.le_of_ble_eq_true rfl) trivial H (fun r10 M11 hr H => ?_)
        refine x_istore_n (zdm d_Md_odds_0 34 rfl) rfl (zlt rfl) rfl ?_
        refine x_aload_n (zdm d_Md_odds_0 35 rfl) rfl (n := 1) rfl ?_
        refine x_aload_n (zdm d_Md_odds_0 36 rfl) rfl (n := 1) rfl ?_
        refine x_getG (zdm d_Md_odds_0 37 rfl) f_Md_130 rfl rfl (by decide) hsl rfl ?_
        refine x_iconst (zdm d_Md_odds_0 38 rfl) (zIl rfl) ?_
        refine x_iald (zdm d_Md_odds_0 39 rfl) rfl ⟨by decide, by decide⟩ ?_
        refine x_iload_n (zdm d_Md_odds_0 40 rfl) rfl (n := 2) rfl ?_
        refine x_callVi (n := 2) (ci := 11) (zdm d_Md_odds_0 41 rfl) k_Md_449 (As := [(0, (M11 164 0)), (0, l1)]) rfl rfl rfl ⟨_, _, rfl⟩ (Nat.le_of_ble_eq_true rfl) trivial H (fun r12 M13 hr H => ?_)
        refine x_istore_n (zdm d_Md_odds_0 42 rfl) rfl (zlt rfl) rfl ?_
        refine x_iload_n (zdm d_Md_odds_0 43 rfl) rfl (n := 1) rfl ?_
        refine x_iload_n (zdm d_Md_odds_0 44 rfl) rfl (n := 0) rfl ?_
        refine x_icmpne (tgt := 115) (zdm d_Md_odds_0 45 rfl) (by decide) (fun c => ?_) (fun c => ?_)
        · have H := H.1 c
          refine x_iconst (zdm d_Md_odds_1 10 rfl) (zIl rfl) ?_
          refine x_istore (zdm d_Md_odds_1 11 rfl) (zlt rfl) rfl ?_
          refine x_iconst (zdm d_Md_odds_1 12 rfl) (zIl rfl) ?_
          refine x_istore (zdm d_Md_odds_1 13 rfl) (zlt rfl) rfl ?_
          exact zX.sub [4, 5, 3, 2, 1, 0] rfl H
        · have H := H.2 c
          refine x_bipush (zdm d_Md_odds_0 46 rfl) (by decide) ?_
          refine x_bipush (zdm d_Md_odds_0 47 rfl) (by decide) ?_
          refine x_aload_n (zdm d_Md_odds_0 48 rfl) rfl (n := 2) rfl ?_
          refine x_getG (zdm d_Md_odds_0 49 rfl) f_Md_111 rfl rfl (by decide) hsl rfl ?_
          refine x_iconst (zdm d_Md_odds_0 50 rfl) (zIl rfl) ?_
          refine x_iald (zdm d_Md_odds_0 51 rfl) rfl ⟨by decide, by decide⟩ ?_
          obtain ⟨g14, H⟩ := H
          refine x_isub (zdm d_Md_odds_0 52 rfl) g14 ?_
          obtain ⟨g15, H⟩ := H
          refine x_imul (zdm d_Md_odds_0 53 rfl) g15 ?_
          refine x_aload_n (zdm d_Md_odds_0 54 rfl) rfl (n := 2) rfl ?_
          refine x_callVi (n := 0) (ci := 11) (zdm d_Md_odds_0 55 rfl) k_Md_391 (As := []) rfl rfl rfl ⟨_, _, rfl⟩ (Nat.le_of_ble_eq_true rfl) trivial H (fun r16 M17 hr H => ?_)
          obtain ⟨g18, H⟩ := H
          refine x_imul (zdm d_Md_odds_0 56 rfl) g18 ?_
          refine x_bipush (zdm d_Md_odds_0 57 rfl) (by decide) ?_
          refine x_aload_n (zdm d_Md_odds_0 58 rfl) rfl (n := 2) rfl ?_
          refine x_getG (zdm d_Md_odds_0 59 rfl) f_Md_111 rfl rfl (by decide) hsl rfl ?_
          refine x_iconst (zdm d_Md_odds_1 0 rfl) (zIl rfl) ?_
          refine x_iald (zdm d_Md_odds_1 1 rfl) rfl ⟨by decide, by decide⟩ ?_
          obtain ⟨g19, H⟩ := H
          refine x_imul (zdm d_Md_odds_1 2 rfl) g19 ?_
          refine x_aload_n (zdm d_Md_odds_1 3 rfl) rfl (n := 2) rfl ?_
          refine x_callVi (n := 0) (ci := 11) (zdm d_Md_odds_1 4 rfl) k_Md_391 (As := []) rfl rfl rfl ⟨_, _, rfl⟩ (Nat.le_of_ble_eq_true rfl) trivial H (fun r20 M21 hr H => ?_)
          refine x_iconst (zdm d_Md_odds_1 5 rfl) (zIl rfl) ?_
          obtain ⟨g22, H⟩ := H
          refine x_isub (zdm d_Md_odds_1 6 rfl) g22 ?_
          obtain ⟨g23, H⟩ := H
          refine x_imul (zdm d_Md_odds_1 7 rfl) g23 ?_
          obtain ⟨g24, H⟩ := H
          refine x_iadd (zdm d_Md_odds_1 8 rfl) g24 ?_
          refine x_goto (tgt := 116) (zdm d_Md_odds_1 9 rfl) (by decide) ?_
          refine x_istore (zdm d_Md_odds_1 11 rfl) (zlt rfl) rfl ?_
          refine x_iconst (zdm d_Md_odds_1 12 rfl) (zIl rfl) ?_
          refine x_istore (zdm d_Md_odds_1 13 rfl) (zlt rfl) rfl ?_
          exact zX.sub [4, 5, 3, 2, 1, 0] rfl H
      · have H := H.2 c
        refine x_sipush (zdm d_Md_odds_0 22 rfl) (by decide) ?_
        refine x_aload_n (zdm d_Md_odds_0 23 rfl) rfl (n := 0) rfl ?_
        refine x_callVi (n := 0) (ci := 11) (zdm d_Md_odds_0 24 rfl) k_Md_391 (As := []) rfl rfl rfl ⟨_, _, rfl⟩ (Nat.le_of_ble_eq_true rfl) trivial H (fun r25 M26 hr H => ?_)
        obtain ⟨g27, H⟩ := H
        refine x_imul (zdm d_Md_odds_0 25 rfl) g27 ?_
        exact x_iret (zdm d_Md_odds_0 26 rfl) rfl H
    · have H := H.2 c
      refine x_iconst (zdm d_Md_odds_0 17 rfl) (zIl rfl) ?_
      exact x_iret (zdm d_Md_odds_0 18 rfl) rfl H
set_option maxRecDepth 20000 in
set_option maxHeartbeats 4000000 in
theorem E_Md_odds {G : zG} {h sl : Nat} (hsl : 2 ≤ sl) {l1 : Int} {M : zM} {Q : Int → zM → Prop} (H : (l1 = (-1) → zX G (y_Md_odds, h + 1, sl) (0, 0, 0, 0) 14 [(0, (2, 125)), (1, (0, l1))] [] M Q) ∧ (¬ l1 = (-1) → zCt G h sl 0 0 y_Md_isColumn [(2, 125), (1, l1)] M (fun r1 M2 => (r1 = 0 → Q (-1) M2) ∧ (¬ r1 = 0 → zX G (y_Md_odds, h + 1, sl) (0, 0, 0, 0) 14 [(0, (2, 125)), (1, (0, l1))] [] M2 Q)))) : zCt G (h + 1) sl 0 0 y_Md_odds [(2, 125), (0, l1)] M Q := by
  refine zCt.of (by decide +kernel) (Nat.le_of_ble_eq_true rfl) ?_
  refine x_iload_n (zdm d_Md_odds_0 0 rfl) rfl (n := 1) rfl ?_
  refine x_iconst (zdm d_Md_odds_0 1 rfl) (zIl rfl) ?_
  refine x_icmpeq (tgt := 14) (zdm d_Md_odds_0 2 rfl) (by decide) (fun c => ?_) (fun c => ?_)
  · have H := H.1 c
    exact H
  · have H := H.2 c
    refine x_aload_n (zdm d_Md_odds_0 3 rfl) rfl (n := 0) rfl ?_
    refine x_iload_n (zdm d_Md_odds_0 4 rfl) rfl (n := 1) rfl ?_
    refine x_i2l (zdm d_Md_odds_0 5 rfl) ?_
    refine x_callVi (n := 1) (ci := 11) (zdm d_Md_odds_0 6 rfl) k_Md_466 (As := [(1, l1)]) rfl rfl rfl ⟨_, _, rfl⟩ (Nat.le_of_ble_eq_true rfl) trivial H (fun r1 M2 hr H => ?_)
    have b3 : r1 = 0 ∨ r1 = 1 := hr
    refine x_ifeq (tgt := 31) (zdm d_Md_odds_0 7 rfl) (by decide) (fun c => ?_) (fun c => ?_)
    · have H := H.1 c
      refine x_iconst (zdm d_Md_odds_0 17 rfl) (zIl rfl) ?_
      exact x_iret (zdm d_Md_odds_0 18 rfl) rfl H
    · have H := H.2 c
      exact H
set_option maxRecDepth 20000 in
set_option maxHeartbeats 4000000 in
theorem E_Md_canTell {G : zG} {h sl : Nat} (hsl : 2 ≤ sl) {l1 l2 : Int} {M : zM} {Q : Int → zM → Prop} (H : zCt G h sl 0 0 y_Md_isColumn [(2, 125), (1, l1)] M (fun r1 M2 => (r1 = 0 → Q 0 M2) ∧ (¬ r1 = 0 → zCt G h sl 0 0 y_Md_sortOf [(2, 125), (0, l1)] M2 (fun r4 M5 => (r4 = 3 → Q 0 M5) ∧ (¬ r4 = 3 → zCt G h sl 0 0 y_Md_leastOf [(2, 125), (0, l1)] M5 (fun r6 M7 => zCt G h sl 0 0 y_Md_mostOf [(2, 125), (0, l1)] M7 (fun r8 M9 => zCt G h sl 0 0 y_Md_isIn [(1, l2), (1, r6), (1, r8)] M9 (fun r10 M11 => (r10 = 0 → Q 0 M11) ∧ (¬ r10 = 0 → Q 1 M11))))))))) : zCt G (h + 1) sl 0 0 y_Md_canTell [(2, 125), (0, l1), (0, l2)] M Q := by
  refine zCt.of (by decide +kernel) (Nat.le_of_ble_eq_true rfl) ?_
  refine x_aload_n (zdm d_Md_canTell_0 0 rfl) rfl (n := 0) rfl ?_
  refine x_iload_n (zdm d_Md_canTell_0 1 rfl) rfl (n := 1) rfl ?_
  refine x_i2l (zdm d_Md_canTell_0 2 rfl) ?_
  refine x_callVi (n := 1) (ci := 11) (zdm d_Md_canTell_0 3 rfl) k_Md_466 (As := [(1, l1)]) rfl rfl rfl ⟨_, _, rfl⟩ (Nat.le_of_ble_eq_true rfl) trivial H (fun r1 M2 hr H => ?_)
  have b3 : r1 = 0 ∨ r1 = 1 := hr
  refine x_ifeq (tgt := 42) (zdm d_Md_canTell_0 4 rfl) (by decide) (fun c => ?_) (fun c => ?_)
  · have H := H.1 c
    refine x_iconst (zdm d_Md_canTell_0 24 rfl) (zIl rfl) ?_
    exact x_ireturn (zdm d_Md_canTell_0 25 rfl) (ty := .boolean) rfl (by decide) (Or.inl rfl) H
  · have H := H.2 c
    refine x_aload_n (zdm d_Md_canTell_0 5 rfl) rfl (n := 0) rfl ?_
    refine x_iload_n (zdm d_Md_canTell_0 6 rfl) rfl (n := 1) rfl ?_
    refine x_callVi (n := 1) (ci := 11) (zdm d_Md_canTell_0 7 rfl) k_Md_424 (As := [(0, l1)]) rfl rfl rfl ⟨_, _, rfl⟩ (Nat.le_of_ble_eq_true rfl) trivial H (fun r4 M5 hr H => ?_)
    refine x_iconst (zdm d_Md_canTell_0 8 rfl) (zIl rfl) ?_
    refine x_icmpeq (tgt := 42) (zdm d_Md_canTell_0 9 rfl) (by decide) (fun c => ?_) (fun c => ?_)
    · have H := H.1 c
      refine x_iconst (zdm d_Md_canTell_0 24 rfl) (zIl rfl) ?_
      exact x_ireturn (zdm d_Md_canTell_0 25 rfl) (ty := .boolean) rfl (by decide) (Or.inl rfl) H
    · have H := H.2 c
      refine x_iload_n (zdm d_Md_canTell_0 10 rfl) rfl (n := 2) rfl ?_
      refine x_i2l (zdm d_Md_canTell_0 11 rfl) ?_
      refine x_aload_n (zdm d_Md_canTell_0 12 rfl) rfl (n := 0) rfl ?_
      refine x_iload_n (zdm d_Md_canTell_0 13 rfl) rfl (n := 1) rfl ?_
      refine x_callVi (n := 1) (ci := 11) (zdm d_Md_canTell_0 14 rfl) k_Md_472 (As := [(0, l1)]) rfl rfl rfl ⟨_, _, rfl⟩ (Nat.le_of_ble_eq_true rfl) trivial H (fun r6 M7 hr H => ?_)
      refine x_i2l (zdm d_Md_canTell_0 15 rfl) ?_
      refine x_aload_n (zdm d_Md_canTell_0 16 rfl) rfl (n := 0) rfl ?_
      refine x_iload_n (zdm d_Md_canTell_0 17 rfl) rfl (n := 1) rfl ?_
      refine x_callVi (n := 1) (ci := 11) (zdm d_Md_canTell_0 18 rfl) k_Md_475 (As := [(0, l1)]) rfl rfl rfl ⟨_, _, rfl⟩ (Nat.le_of_ble_eq_true rfl) trivial H (fun r8 M9 hr H => ?_)
      refine x_i2l (zdm d_Md_canTell_0 19 rfl) ?_
      refine x_callSi (n := 3) (zdm d_Md_canTell_0 20 rfl) k_Md_280 (As := [(1, l2), (1, r6), (1, r8)]) rfl rfl (Nat.le_of_ble_eq_true rfl) trivial H (fun r10 M11 hr H => ?_)
      have b12 : r10 = 0 ∨ r10 = 1 := hr
      refine x_ifeq (tgt := 42) (zdm d_Md_canTell_0 21 rfl) (by decide) (fun c => ?_) (fun c => ?_)
      · have H := H.1 c
        refine x_iconst (zdm d_Md_canTell_0 24 rfl) (zIl rfl) ?_
        exact x_ireturn (zdm d_Md_canTell_0 25 rfl) (ty := .boolean) rfl (by decide) (Or.inl rfl) H
      · have H := H.2 c
        refine x_iconst (zdm d_Md_canTell_0 22 rfl) (zIl rfl) ?_
        refine x_goto (tgt := 43) (zdm d_Md_canTell_0 23 rfl) (by decide) ?_
        exact x_ireturn (zdm d_Md_canTell_0 25 rfl) (ty := .boolean) rfl (by decide) (Or.inr rfl) H
set_option maxRecDepth 20000 in
set_option maxHeartbeats 4000000 in
theorem B_Md_find_116 {G : zG} {h sl : Nat} (hsl : 2 ≤ sl) {u : Nat × Nat × Nat × Nat} {l1 l3 : Int} {M : zM} {Q : Int → zM → Prop} (H : (zI (Int.tdiv l1 4)) ∧ (((Int.tdiv l1 4) ≤ l3 → Q ((zwr M 125 62 (Int.tdiv l1 4)) 125 62) (zwr M 125 62 (Int.tdiv l1 4))) ∧ (¬ (Int.tdiv l1 4) ≤ l3 → (zI (3 * l3)) ∧ ((zI (4 * l3)) ∧ ((0 ≤ (4 * l3) ∧ (4 * l3) < 1600) ∧ ((0 ≤ (3 * l3) ∧ (3 * l3) < 36) ∧ ((zI ((3 * l3) + 1)) ∧ ((zI ((4 * l3) + 1)) ∧ ((0 ≤ ((4 * l3) + 1) ∧ ((4 * l3) + 1) < 1600) ∧ ((0 ≤ ((3 * l3) + 1) ∧ ((3 * l3) + 1) < 36) ∧ ((zI ((3 * l3) + 2)) ∧ ((zI ((4 * l3) + 2)) ∧ ((0 ≤ ((4 * l3) + 2) ∧ ((4 * l3) + 2) < 1600) ∧ ((zI (256 * ((zwr (zwr M 170 (3 * l3) (M 126 (4 * l3))) 170 ((3 * l3) + 1) ((zwr M 170 (3 * l3) (M 126 (4 * l3))) 126 ((4 * l3) + 1))) 126 ((4 * l3) + 2)))) ∧ ((zI ((4 * l3) + 3)) ∧ ((0 ≤ ((4 * l3) + 3) ∧ ((4 * l3) + 3) < 1600) ∧ ((zI ((256 * ((zwr (zwr M 170 (3 * l3) (M 126 (4 * l3))) 170 ((3 * l3) + 1) ((zwr M 170 (3 * l3) (M 126 (4 * l3))) 126 ((4 * l3) + 1))) 126 ((4 * l3) + 2))) + ((zwr (zwr M 170 (3 * l3) (M 126 (4 * l3))) 170 ((3 * l3) + 1) ((zwr M 170 (3 * l3) (M 126 (4 * l3))) 126 ((4 * l3) + 1))) 126 ((4 * l3) + 3)))) ∧ ((0 ≤ ((3 * l3) + 2) ∧ ((3 * l3) + 2) < 36) ∧ ((zI (l3 + 1)) ∧ (zX G (y_Md_find, h + 1, sl) u 116 [(0, (2, 125)), (1, (0, l1)), (3, (0, (l3 + 1)))] [] (zwr (zwr (zwr M 170 (3 * l3) (M 126 (4 * l3))) 170 ((3 * l3) + 1) ((zwr M 170 (3 * l3) (M 126 (4 * l3))) 126 ((4 * l3) + 1))) 170 ((3 * l3) + 2) ((256 * ((zwr (zwr M 170 (3 * l3) (M 126 (4 * l3))) 170 ((3 * l3) + 1) ((zwr M 170 (3 * l3) (M 126 (4 * l3))) 126 ((4 * l3) + 1))) 126 ((4 * l3) + 2))) + ((zwr (zwr M 170 (3 * l3) (M 126 (4 * l3))) 170 ((3 * l3) + 1) ((zwr M 170 (3 * l3) (M 126 (4 * l3))) 126 ((4 * l3) + 1))) 126 ((4 * l3) + 3)))) Q)))))))))))))))))))) : zX G (y_Md_find, h + 1, sl) u 116 [(0, (2, 125)), (1, (0, l1)), (3, (0, l3))] [] M Q := by
  refine x_iload_n (zdm d_Md_find_1 12 rfl) rfl (n := 2) rfl ?_
  refine x_iload_n (zdm d_Md_find_1 13 rfl) rfl (n := 1) rfl ?_
  refine x_iconst (zdm d_Md_find_1 14 rfl) (zIl rfl) ?_
  obtain ⟨g1, H⟩ := H
  refine x_idiv (zdm d_Md_find_1 15 rfl) (by decide) g1 ?_
  refine x_icmpge (tgt := 200) (zdm d_Md_find_1 16 rfl) (by decide) (fun c => ?_) (fun c => ?_)
  · have H := H.1 c
    refine x_aload_n (zdm d_Md_find_2 14 rfl) rfl (n := 0) rfl ?_
    refine x_iload_n (zdm d_Md_find_2 15 rfl) rfl (n := 1) rfl ?_
    refine x_iconst (zdm d_Md_find_2 16 rfl) (zIl rfl) ?_
    refine x_idiv (zdm d_Md_find_2 17 rfl) (by decide) g1 ?_
    refine x_putf (zdm d_Md_find_2 18 rfl) f_Md_388 rfl ⟨rfl, trivial⟩ (Or.inl rfl) ?_
    refine x_aload_n (zdm d_Md_find_2 19 rfl) rfl (n := 0) rfl ?_
    refine x_getf (zdm d_Md_find_2 20 rfl) f_Md_388 rfl rfl ?_
    exact x_iret (zdm d_Md_find_2 21 rfl) rfl H
  · have H := H.2 c
    refine x_aload_n (zdm d_Md_find_1 17 rfl) rfl (n := 0) rfl ?_
    refine x_getG (zdm d_Md_find_1 18 rfl) f_Md_149 rfl rfl (by decide) hsl rfl ?_
    refine x_iconst (zdm d_Md_find_1 19 rfl) (zIl rfl) ?_
    refine x_iload_n (zdm d_Md_find_1 20 rfl) rfl (n := 2) rfl ?_
    obtain ⟨g2, H⟩ := H
    refine x_imul (zdm d_Md_find_1 21 rfl) g2 ?_
    refine x_aload_n (zdm d_Md_find_1 22 rfl) rfl (n := 0) rfl ?_
    refine x_getG (zdm d_Md_find_1 23 rfl) f_Md_7 rfl rfl (by decide) hsl rfl ?_
    refine x_iconst (zdm d_Md_find_1 24 rfl) (zIl rfl) ?_
    refine x_iload_n (zdm d_Md_find_1 25 rfl) rfl (n := 2) rfl ?_
    obtain ⟨g3, H⟩ := H
    refine x_imul (zdm d_Md_find_1 26 rfl) g3 ?_
    obtain ⟨g4, H⟩ := H
    refine x_iald (zdm d_Md_find_1 27 rfl) rfl g4 ?_
    obtain ⟨g5, H⟩ := H
    refine x_iast (zdm d_Md_find_1 28 rfl) rfl g5 ?_
    refine x_aload_n (zdm d_Md_find_1 29 rfl) rfl (n := 0) rfl ?_
    refine x_getG (zdm d_Md_find_1 30 rfl) f_Md_149 rfl rfl (by decide) hsl rfl ?_
    refine x_iconst (zdm d_Md_find_1 31 rfl) (zIl rfl) ?_
    refine x_iload_n (zdm d_Md_find_1 32 rfl) rfl (n := 2) rfl ?_
    refine x_imul (zdm d_Md_find_1 33 rfl) g2 ?_
    refine x_iconst (zdm d_Md_find_1 34 rfl) (zIl rfl) ?_
    obtain ⟨g6, H⟩ := H
    refine x_iadd (zdm d_Md_find_1 35 rfl) g6 ?_
    refine x_aload_n (zdm d_Md_find_1 36 rfl) rfl (n := 0) rfl ?_
    refine x_getG (zdm d_Md_find_1 37 rfl) f_Md_7 rfl rfl (by decide) hsl rfl ?_
    refine x_iconst (zdm d_Md_find_1 38 rfl) (zIl rfl) ?_
    refine x_iload_n (zdm d_Md_find_1 39 rfl) rfl (n := 2) rfl ?_
    refine x_imul (zdm d_Md_find_1 40 rfl) g3 ?_
    refine x_iconst (zdm d_Md_find_1 41 rfl) (zIl rfl) ?_
    obtain ⟨g7, H⟩ := H
    refine x_iadd (zdm d_Md_find_1 42 rfl) g7 ?_
    obtain ⟨g8, H⟩ := H
    refine x_iald (zdm d_Md_find_1 43 rfl) rfl g8 ?_
    obtain ⟨g9, H⟩ := H
    refine x_iast (zdm d_Md_find_1 44 rfl) rfl g9 ?_
    refine x_aload_n (zdm d_Md_find_1 45 rfl) rfl (n := 0) rfl ?_
    refine x_getG (zdm d_Md_find_1 46 rfl) f_Md_149 rfl rfl (by decide) hsl rfl ?_
    refine x_iconst (zdm d_Md_find_1 47 rfl) (zIl rfl) ?_
    refine x_iload_n (zdm d_Md_find_1 48 rfl) rfl (n := 2) rfl ?_
    refine x_imul (zdm d_Md_find_1 49 rfl) g2 ?_
    refine x_iconst (zdm d_Md_find_1 50 rfl) (zIl rfl) ?_
    obtain ⟨g10, H⟩ := H
    refine x_iadd (zdm d_Md_find_1 51 rfl) g10 ?_
    refine x_sipush (zdm d_Md_find_1 52 rfl) (by decide) ?_
    refine x_aload_n (zdm d_Md_find_1 53 rfl) rfl (n := 0) rfl ?_
    refine x_getG (zdm d_Md_find_1 54 rfl) f_Md_7 rfl rfl (by decide) hsl rfl ?_
    refine x_iconst (zdm d_Md_find_1 55 rfl) (zIl rfl) ?_
    refine x_iload_n (zdm d_Md_find_1 56 rfl) rfl (n := 2) rfl ?_
    refine x_imul (zdm d_Md_find_1 57 rfl) g3 ?_
    refine x_iconst (zdm d_Md_find_1 58 rfl) (zIl rfl) ?_
    obtain ⟨g11, H⟩ := H
    refine x_iadd (zdm d_Md_find_1 59 rfl) g11 ?_
    obtain ⟨g12, H⟩ := H
    refine x_iald (zdm d_Md_find_2 0 rfl) rfl g12 ?_
    obtain ⟨g13, H⟩ := H
    refine x_imul (zdm d_Md_find_2 1 rfl) g13 ?_
    refine x_aload_n (zdm d_Md_find_2 2 rfl) rfl (n := 0) rfl ?_
    refine x_getG (zdm d_Md_find_2 3 rfl) f_Md_7 rfl rfl (by decide) hsl rfl ?_
    refine x_iconst (zdm d_Md_find_2 4 rfl) (zIl rfl) ?_
    refine x_iload_n (zdm d_Md_find_2 5 rfl) rfl (n := 2) rfl ?_
    refine x_imul (zdm d_Md_find_2 6 rfl) g3 ?_
    refine x_iconst (zdm d_Md_find_2 7 rfl) (zIl rfl) ?_
    obtain ⟨g14, H⟩ := H
    refine x_iadd (zdm d_Md_find_2 8 rfl) g14 ?_
    obtain ⟨g15, H⟩ := H
    refine x_iald (zdm d_Md_find_2 9 rfl) rfl g15 ?_
    obtain ⟨g16, H⟩ := H
    refine x_iadd (zdm d_Md_find_2 10 rfl) g16 ?_
    obtain ⟨g17, H⟩ := H
    refine x_iast (zdm d_Md_find_2 11 rfl) rfl g17 ?_
    obtain ⟨g18, H⟩ := H
    refine x_iinc (zdm d_Md_find_2 12 rfl) (n := 2) rfl g18 (zlt rfl) rfl ?_
    refine x_goto (tgt := 116) (zdm d_Md_find_2 13 rfl) (by decide) ?_
    exact zX.sub [1, 2, 0] rfl H
set_option maxRecDepth 20000 in
set_option maxHeartbeats 4000000 in
theorem B_Md_find_104 {G : zG} {h sl : Nat} (hsl : 2 ≤ sl) {u : Nat × Nat × Nat × Nat} {l1 l2 : Int} {M : zM} {Q : Int → zM → Prop} (H : (¬ l2 = 0 → zX G (y_Md_find, h + 1, sl) u 116 [(0, (2, 125)), (1, (0, l1)), (3, (0, 0))] [] M Q) ∧ (¬ (¬ l2 = 0) → zCt G h sl 0 0 y_Md_refuses [(2, 125), (0, 1)] M (fun r1 M2 => Q r1 M2))) : zX G (y_Md_find, h + 1, sl) u 104 [(0, (2, 125)), (1, (0, l1)), (2, (0, l2))] [] M Q := by
  refine x_iload_n (zdm d_Md_find_1 4 rfl) rfl (n := 2) rfl ?_
  refine x_ifne (tgt := 114) (zdm d_Md_find_1 5 rfl) (by decide) (fun c => ?_) (fun c => ?_)
  · have H := H.1 c
    refine x_iconst (zdm d_Md_find_1 10 rfl) (zIl rfl) ?_
    refine x_istore_n (zdm d_Md_find_1 11 rfl) rfl (zlt rfl) rfl ?_
    exact zX.sub [1, 2, 0] rfl H
  · have H := H.2 c
    refine x_aload_n (zdm d_Md_find_1 6 rfl) rfl (n := 0) rfl ?_
    refine x_iconst (zdm d_Md_find_1 7 rfl) (zIl rfl) ?_
    refine x_callVi (n := 1) (ci := 11) (zdm d_Md_find_1 8 rfl) k_Md_368 (As := [(0, 1)]) rfl rfl rfl ⟨_, _, rfl⟩ (Nat.le_of_ble_eq_true rfl) trivial H (fun r1 M2 hr H => ?_)
    exact x_iret (zdm d_Md_find_1 9 rfl) rfl H
set_option maxRecDepth 20000 in
set_option maxHeartbeats 4000000 in
theorem B_Md_find_36 {G : zG} {h sl : Nat} (hsl : 2 ≤ sl) {u : Nat × Nat × Nat × Nat} {l1 l2 l3 : Int} {M : zM} {Q : Int → zM → Prop} (H : (l1 ≤ l3 → zX G (y_Md_find, h + 1, sl) u 104 [(0, (2, 125)), (1, (0, l1)), (2, (0, l2))] [] M Q) ∧ (¬ l1 ≤ l3 → (l2 = 0 → zX G (y_Md_find, h + 1, sl) u 104 [(0, (2, 125)), (1, (0, l1)), (2, (0, l2))] [] M Q) ∧ (¬ l2 = 0 → (0 ≤ l3 ∧ l3 < 1600) ∧ ((30 < (M 126 l3) → (zI (l3 + 4)) ∧ (zX G (y_Md_find, h + 1, sl) u 36 [(0, (2, 125)), (1, (0, l1)), (2, (0, 0)), (3, (0, (l3 + 4)))] [] M Q)) ∧ (¬ 30 < (M 126 l3) → (zI (l3 + 1)) ∧ ((0 ≤ (l3 + 1) ∧ (l3 + 1) < 1600) ∧ ((zI (l3 + 2)) ∧ ((0 ≤ (l3 + 2) ∧ (l3 + 2) < 1600) ∧ ((zI (256 * (M 126 (l3 + 2)))) ∧ ((zI (l3 + 3)) ∧ ((0 ≤ (l3 + 3) ∧ (l3 + 3) < 1600) ∧ ((zI ((256 * (M 126 (l3 + 2))) + (M 126 (l3 + 3)))) ∧ (zCt G h sl 0 0 y_Md_canTell [(2, 125), (0, (M 126 (l3 + 1))), (0, ((256 * (M 126 (l3 + 2))) + (M 126 (l3 + 3))))] M (fun r11 M12 => (r11 = 0 → (zI (l3 + 4)) ∧ (zX G (y_Md_find, h + 1, sl) u 36 [(0, (2, 125)), (1, (0, l1)), (2, (0, 0)), (3, (0, (l3 + 4)))] [] M12 Q)) ∧ (¬ r11 = 0 → (zI (l3 + 4)) ∧ (zX G (y_Md_find, h + 1, sl) u 36 [(0, (2, 125)), (1, (0, l1)), (2, (0, 1)), (3, (0, (l3 + 4)))] [] M12 Q)))))))))))))))) : zX G (y_Md_find, h + 1, sl) u 36 [(0, (2, 125)), (1, (0, l1)), (2, (0, l2)), (3, (0, l3))] [] M Q := by
  refine x_iload_n (zdm d_Md_find_0 23 rfl) rfl (n := 3) rfl ?_
  refine x_iload_n (zdm d_Md_find_0 24 rfl) rfl (n := 1) rfl ?_
  refine x_icmpge (tgt := 104) (zdm d_Md_find_0 25 rfl) (by decide) (fun c => ?_) (fun c => ?_)
  · have H := H.1 c
    exact zX.sub [0, 1, 2] rfl H
  · have H := H.2 c
    refine x_iload_n (zdm d_Md_find_0 26 rfl) rfl (n := 2) rfl ?_
    refine x_ifeq (tgt := 104) (zdm d_Md_find_0 27 rfl) (by decide) (fun c => ?_) (fun c => ?_)
    · have H := H.1 c
      exact zX.sub [0, 1, 2] rfl H
    · have H := H.2 c
      refine x_aload_n (zdm d_Md_find_0 28 rfl) rfl (n := 0) rfl ?_
      refine x_getG (zdm d_Md_find_0 29 rfl) f_Md_7 rfl rfl (by decide) hsl rfl ?_
      refine x_iload_n (zdm d_Md_find_0 30 rfl) rfl (n := 3) rfl ?_
      obtain ⟨g1, H⟩ := H
      refine x_iald (zdm d_Md_find_0 31 rfl) rfl g1 ?_
      refine x_bipush (zdm d_Md_find_0 32 rfl) (by decide) ?_
      refine x_icmpgt (tgt := 96) (zdm d_Md_find_0 33 rfl) (by decide) (fun c => ?_) (fun c => ?_)
      · have H := H.1 c
        refine x_iconst (zdm d_Md_find_1 0 rfl) (zIl rfl) ?_
        refine x_istore_n (zdm d_Md_find_1 1 rfl) rfl (zlt rfl) rfl ?_
        obtain ⟨g2, H⟩ := H
        refine x_iinc (zdm d_Md_find_1 2 rfl) (n := 3) rfl g2 (zlt rfl) rfl ?_
        refine x_goto (tgt := 36) (zdm d_Md_find_1 3 rfl) (by decide) ?_
        exact zX.sub [2, 3, 1, 0] rfl H
      · have H := H.2 c
        refine x_aload_n (zdm d_Md_find_0 34 rfl) rfl (n := 0) rfl ?_
        refine x_aload_n (zdm d_Md_find_0 35 rfl) rfl (n := 0) rfl ?_
        refine x_getG (zdm d_Md_find_0 36 rfl) f_Md_7 rfl rfl (by decide) hsl rfl ?_
        refine x_iload_n (zdm d_Md_find_0 37 rfl) rfl (n := 3) rfl ?_
        refine x_iconst (zdm d_Md_find_0 38 rfl) (zIl rfl) ?_
        obtain ⟨g3, H⟩ := H
        refine x_iadd (zdm d_Md_find_0 39 rfl) g3 ?_
        obtain ⟨g4, H⟩ := H
        refine x_iald (zdm d_Md_find_0 40 rfl) rfl g4 ?_
        refine x_sipush (zdm d_Md_find_0 41 rfl) (by decide) ?_
        refine x_aload_n (zdm d_Md_find_0 42 rfl) rfl (n := 0) rfl ?_
        refine x_getG (zdm d_Md_find_0 43 rfl) f_Md_7 rfl rfl (by decide) hsl rfl ?_
        refine x_iload_n (zdm d_Md_find_0 44 rfl) rfl (n := 3) rfl ?_
        refine x_iconst (zdm d_Md_find_0 45 rfl) (zIl rfl) ?_
        obtain ⟨g5, H⟩ := H
        refine x_iadd (zdm d_Md_find_0 46 rfl) g5 ?_
        obtain ⟨g6, H⟩ := H
        refine x_iald (zdm d_Md_find_0 47 rfl) rfl g6 ?_
        obtain ⟨g7, H⟩ := H
        refine x_imul (zdm d_Md_find_0 48 rfl) g7 ?_
        refine x_aload_n (zdm d_Md_find_0 49 rfl) rfl (n := 0) rfl ?_
        refine x_getG (zdm d_Md_find_0 50 rfl) f_Md_7 rfl rfl (by decide) hsl rfl ?_
        refine x_iload_n (zdm d_Md_find_0 51 rfl) rfl (n := 3) rfl ?_
        refine x_iconst (zdm d_Md_find_0 52 rfl) (zIl rfl) ?_
        obtain ⟨g8, H⟩ := H
        refine x_iadd (zdm d_Md_find_0 53 rfl) g8 ?_
        obtain ⟨g9, H⟩ := H
        refine x_iald (zdm d_Md_find_0 54 rfl) rfl g9 ?_
        obtain ⟨g10, H⟩ := H
        refine x_iadd (zdm d_Md_find_0 55 rfl) g10 ?_
        refine x_callVi (n := 2) (ci := 11) (zdm d_Md_find_0 56 rfl) k_Md_513 (As := [(0, (M 126 (l3 + 1))), (0, ((256 * (M 126 (l3 + 2))) + (M 126 (l3 + 3))))]) rfl rfl rfl ⟨_, _, rfl⟩ (Nat.le_of_ble_eq_true rfl) trivial H (fun r11 M12 hr H => ?_)
        have b13 : r11 = 0 ∨ r11 = 1 := hr
        refine x_ifeq (tgt := 96) (zdm d_Md_find_0 57 rfl) (by decide) (fun c => ?_) (fun c => ?_)
        · have H := H.1 c
          refine x_iconst (zdm d_Md_find_1 0 rfl) (zIl rfl) ?_
          refine x_istore_n (zdm d_Md_find_1 1 rfl) rfl (zlt rfl) rfl ?_
          obtain ⟨g14, H⟩ := H
          refine x_iinc (zdm d_Md_find_1 2 rfl) (n := 3) rfl g14 (zlt rfl) rfl ?_
          refine x_goto (tgt := 36) (zdm d_Md_find_1 3 rfl) (by decide) ?_
          exact zX.sub [2, 3, 1, 0] rfl H
        · have H := H.2 c
          refine x_iconst (zdm d_Md_find_0 58 rfl) (zIl rfl) ?_
          refine x_goto (tgt := 97) (zdm d_Md_find_0 59 rfl) (by decide) ?_
          refine x_istore_n (zdm d_Md_find_1 1 rfl) rfl (zlt rfl) rfl ?_
          obtain ⟨g15, H⟩ := H
          refine x_iinc (zdm d_Md_find_1 2 rfl) (n := 3) rfl g15 (zlt rfl) rfl ?_
          refine x_goto (tgt := 36) (zdm d_Md_find_1 3 rfl) (by decide) ?_
          exact zX.sub [2, 3, 1, 0] rfl H
set_option maxRecDepth 20000 in
set_option maxHeartbeats 4000000 in
theorem E_Md_find {G : zG} {h sl : Nat} (hsl : 2 ≤ sl) {M : zM} {Q : Int → zM → Prop} (H : ((M 125 1) ≤ 0 → zX G (y_Md_find, h + 1, sl) (0, 0, 0, 0) 36 [(0, (2, 125)), (1, (0, (M 125 1))), (2, (0, 0)), (3, (0, 0))] [] (zwr M 125 1 0) Q) ∧ (¬ (M 125 1) ≤ 0 → (¬ (Int.tmod (M 125 1) 4) = 0 → zX G (y_Md_find, h + 1, sl) (0, 0, 0, 0) 36 [(0, (2, 125)), (1, (0, (M 125 1))), (2, (0, 0)), (3, (0, 0))] [] (zwr M 125 1 0) Q) ∧ (¬ (¬ (Int.tmod (M 125 1) 4) = 0) → (zI (Int.tdiv (M 125 1) 4)) ∧ ((12 < (Int.tdiv (M 125 1) 4) → zX G (y_Md_find, h + 1, sl) (0, 0, 0, 0) 36 [(0, (2, 125)), (1, (0, (M 125 1))), (2, (0, 0)), (3, (0, 0))] [] (zwr M 125 1 0) Q) ∧ (¬ 12 < (Int.tdiv (M 125 1) 4) → zX G (y_Md_find, h + 1, sl) (0, 0, 0, 0) 36 [(0, (2, 125)), (1, (0, (M 125 1))), (2, (0, 1)), (3, (0, 0))] [] (zwr M 125 1 0) Q))))) : zCt G (h + 1) sl 0 0 y_Md_find [(2, 125)] M Q := by
  refine zCt.of (by decide +kernel) (Nat.le_of_ble_eq_true rfl) ?_
  refine x_aload_n (zdm d_Md_find_0 0 rfl) rfl (n := 0) rfl ?_
  refine x_getf (zdm d_Md_find_0 1 rfl) f_Md_234 rfl rfl ?_
  refine x_istore_n (zdm d_Md_find_0 2 rfl) rfl (zlt rfl) rfl ?_
  refine x_aload_n (zdm d_Md_find_0 3 rfl) rfl (n := 1) rfl ?_
  refine x_iconst (zdm d_Md_find_0 4 rfl) (zIl rfl) ?_
  refine x_putf (zdm d_Md_find_0 5 rfl) f_Md_234 rfl ⟨rfl, trivial⟩ (Or.inl rfl) ?_
  refine x_iload_n (zdm d_Md_find_0 6 rfl) rfl (n := 0) rfl ?_
  refine x_ifle (tgt := 32) (zdm d_Md_find_0 7 rfl) (by decide) (fun c => ?_) (fun c => ?_)
  · have H := H.1 c
    refine x_iconst (zdm d_Md_find_0 19 rfl) (zIl rfl) ?_
    refine x_istore_n (zdm d_Md_find_0 20 rfl) rfl (zlt rfl) rfl ?_
    refine x_iconst (zdm d_Md_find_0 21 rfl) (zIl rfl) ?_
    refine x_istore_n (zdm d_Md_find_0 22 rfl) rfl (zlt rfl) rfl ?_
    exact zX.sub [3, 2, 1, 0] rfl H
  · have H := H.2 c
    refine x_iload_n (zdm d_Md_find_0 8 rfl) rfl (n := 0) rfl ?_
    refine x_iconst (zdm d_Md_find_0 9 rfl) (zIl rfl) ?_
    refine x_irem (zdm d_Md_find_0 10 rfl) (by decide) ?_
    refine x_ifne (tgt := 32) (zdm d_Md_find_0 11 rfl) (by decide) (fun c => ?_) (fun c => ?_)
    · have H := H.1 c
      refine x_iconst (zdm d_Md_find_0 19 rfl) (zIl rfl) ?_
      refine x_istore_n (zdm d_Md_find_0 20 rfl) rfl (zlt rfl) rfl ?_
      refine x_iconst (zdm d_Md_find_0 21 rfl) (zIl rfl) ?_
      refine x_istore_n (zdm d_Md_find_0 22 rfl) rfl (zlt rfl) rfl ?_
      exact zX.sub [3, 2, 1, 0] rfl H
    · have H := H.2 c
      refine x_iload_n (zdm d_Md_find_0 12 rfl) rfl (n := 0) rfl ?_
      refine x_iconst (zdm d_Md_find_0 13 rfl) (zIl rfl) ?_
      obtain ⟨g1, H⟩ := H
      refine x_idiv (zdm d_Md_find_0 14 rfl) (by decide) g1 ?_
      refine x_bipush (zdm d_Md_find_0 15 rfl) (by decide) ?_
      refine x_icmpgt (tgt := 32) (zdm d_Md_find_0 16 rfl) (by decide) (fun c => ?_) (fun c => ?_)
      · have H := H.1 c
        refine x_iconst (zdm d_Md_find_0 19 rfl) (zIl rfl) ?_
        refine x_istore_n (zdm d_Md_find_0 20 rfl) rfl (zlt rfl) rfl ?_
        refine x_iconst (zdm d_Md_find_0 21 rfl) (zIl rfl) ?_
        refine x_istore_n (zdm d_Md_find_0 22 rfl) rfl (zlt rfl) rfl ?_
        exact zX.sub [3, 2, 1, 0] rfl H
      · have H := H.2 c
        refine x_iconst (zdm d_Md_find_0 17 rfl) (zIl rfl) ?_
        refine x_goto (tgt := 33) (zdm d_Md_find_0 18 rfl) (by decide) ?_
        refine x_istore_n (zdm d_Md_find_0 20 rfl) rfl (zlt rfl) rfl ?_
        refine x_iconst (zdm d_Md_find_0 21 rfl) (zIl rfl) ?_
        refine x_istore_n (zdm d_Md_find_0 22 rfl) rfl (zlt rfl) rfl ?_
        exact zX.sub [3, 2, 1, 0] rfl H
set_option maxRecDepth 20000 in
set_option maxHeartbeats 4000000 in
theorem B_Md_doesFit_2 {G : zG} {h sl : Nat} (hsl : 2 ≤ sl) {u : Nat × Nat × Nat × Nat} {l1 l2 : Int} {M : zM} {Q : Int → zM → Prop} (H : ((M 125 62) ≤ l2 → Q 1 M) ∧ (¬ (M 125 62) ≤ l2 → (zI (3 * l2)) ∧ ((0 ≤ (3 * l2) ∧ (3 * l2) < 36) ∧ ((zI (l1 + (M 170 (3 * l2)))) ∧ ((zI ((3 * l2) + 1)) ∧ ((0 ≤ ((3 * l2) + 1) ∧ ((3 * l2) + 1) < 36) ∧ (zCt G h sl 0 0 y_Md_trueOf [(2, 125), (0, (l1 + (M 170 (3 * l2)))), (0, (M 170 ((3 * l2) + 1)))] M (fun r6 M7 => (zI ((3 * l2) + 2)) ∧ ((0 ≤ ((3 * l2) + 2) ∧ ((3 * l2) + 2) < 36) ∧ ((r6 = (M7 170 ((3 * l2) + 2)) → (zI (l2 + 1)) ∧ (zX G (y_Md_doesFit, h + 1, sl) u 2 [(0, (2, 125)), (1, (0, l1)), (2, (0, (l2 + 1)))] [] M7 Q)) ∧ (¬ r6 = (M7 170 ((3 * l2) + 2)) → Q 0 M7))))))))))) : zX G (y_Md_doesFit, h + 1, sl) u 2 [(0, (2, 125)), (1, (0, l1)), (2, (0, l2))] [] M Q := by
  refine x_iload_n (zdm d_Md_doesFit_0 2 rfl) rfl (n := 2) rfl ?_
  refine x_aload_n (zdm d_Md_doesFit_0 3 rfl) rfl (n := 0) rfl ?_
  refine x_getf (zdm d_Md_doesFit_0 4 rfl) f_Md_388 rfl rfl ?_
  refine x_icmpge (tgt := 55) (zdm d_Md_doesFit_0 5 rfl) (by decide) (fun c => ?_) (fun c => ?_)
  · have H := H.1 c
    refine x_iconst (zdm d_Md_doesFit_0 37 rfl) (zIl rfl) ?_
    exact x_ireturn (zdm d_Md_doesFit_0 38 rfl) (ty := .boolean) rfl (by decide) (Or.inr rfl) H
  · have H := H.2 c
    refine x_aload_n (zdm d_Md_doesFit_0 6 rfl) rfl (n := 0) rfl ?_
    refine x_iload_n (zdm d_Md_doesFit_0 7 rfl) rfl (n := 1) rfl ?_
    refine x_aload_n (zdm d_Md_doesFit_0 8 rfl) rfl (n := 0) rfl ?_
    refine x_getG (zdm d_Md_doesFit_0 9 rfl) f_Md_149 rfl rfl (by decide) hsl rfl ?_
    refine x_iconst (zdm d_Md_doesFit_0 10 rfl) (zIl rfl) ?_
    refine x_iload_n (zdm d_Md_doesFit_0 11 rfl) rfl (n := 2) rfl ?_
    obtain ⟨g1, H⟩ := H
    refine x_imul (zdm d_Md_doesFit_0 12 rfl) g1 ?_
    obtain ⟨g2, H⟩ := H
    refine x_iald (zdm d_Md_doesFit_0 13 rfl) rfl g2 ?_
    obtain ⟨g3, H⟩ := H
    refine x_iadd (zdm d_Md_doesFit_0 14 rfl) g3 ?_
    refine x_aload_n (zdm d_Md_doesFit_0 15 rfl) rfl (n := 0) rfl ?_
    refine x_getG (zdm d_Md_doesFit_0 16 rfl) f_Md_149 rfl rfl (by decide) hsl rfl ?_
    refine x_iconst (zdm d_Md_doesFit_0 17 rfl) (zIl rfl) ?_
    refine x_iload_n (zdm d_Md_doesFit_0 18 rfl) rfl (n := 2) rfl ?_
    refine x_imul (zdm d_Md_doesFit_0 19 rfl) g1 ?_
    refine x_iconst (zdm d_Md_doesFit_0 20 rfl) (zIl rfl) ?_
    obtain ⟨g4, H⟩ := H
    refine x_iadd (zdm d_Md_doesFit_0 21 rfl) g4 ?_
    obtain ⟨g5, H⟩ := H
    refine x_iald (zdm d_Md_doesFit_0 22 rfl) rfl g5 ?_
    refine x_callVi (n := 2) (ci := 11) (zdm d_Md_doesFit_0 23 rfl) k_Md_449 (As := [(0, (l1 + (M 170 (3 * l2)))), (0, (M 170 ((3 * l2) + 1)))]) rfl rfl rfl ⟨_, _, rfl⟩ (Nat.le_of_ble_eq_true rfl) trivial H (fun r6 M7 hr H => ?_)
    refine x_aload_n (zdm d_Md_doesFit_0 24 rfl) rfl (n := 0) rfl ?_
    refine x_getG (zdm d_Md_doesFit_0 25 rfl) f_Md_149 rfl rfl (by decide) hsl rfl ?_
    refine x_iconst (zdm d_Md_doesFit_0 26 rfl) (zIl rfl) ?_
    refine x_iload_n (zdm d_Md_doesFit_0 27 rfl) rfl (n := 2) rfl ?_
    refine x_imul (zdm d_Md_doesFit_0 28 rfl) g1 ?_
    refine x_iconst (zdm d_Md_doesFit_0 29 rfl) (zIl rfl) ?_
    obtain ⟨g8, H⟩ := H
    refine x_iadd (zdm d_Md_doesFit_0 30 rfl) g8 ?_
    obtain ⟨g9, H⟩ := H
    refine x_iald (zdm d_Md_doesFit_0 31 rfl) rfl g9 ?_
    refine x_icmpeq (tgt := 49) (zdm d_Md_doesFit_0 32 rfl) (by decide) (fun c => ?_) (fun c => ?_)
    · have H := H.1 c
      obtain ⟨g10, H⟩ := H
      refine x_iinc (zdm d_Md_doesFit_0 35 rfl) (n := 2) rfl g10 (zlt rfl) rfl ?_
      refine x_goto (tgt := 2) (zdm d_Md_doesFit_0 36 rfl) (by decide) ?_
      exact zX.sub [1, 2, 0] rfl H
    · have H := H.2 c
      refine x_iconst (zdm d_Md_doesFit_0 33 rfl) (zIl rfl) ?_
      exact x_ireturn (zdm d_Md_doesFit_0 34 rfl) (ty := .boolean) rfl (by decide) (Or.inl rfl) H
set_option maxRecDepth 20000 in
set_option maxHeartbeats 4000000 in
theorem E_Md_doesFit {G : zG} {h sl : Nat} (hsl : 2 ≤ sl) {l1 : Int} {M : zM} {Q : Int → zM → Prop} (H : zX G (y_Md_doesFit, h + 1, sl) (0, 0, 0, 0) 2 [(0, (2, 125)), (1, (0, l1)), (2, (0, 0))] [] M Q) : zCt G (h + 1) sl 0 0 y_Md_doesFit [(2, 125), (0, l1)] M Q := by
  refine zCt.of (by decide +kernel) (Nat.le_of_ble_eq_true rfl) ?_
  refine x_iconst (zdm d_Md_doesFit_0 0 rfl) (zIl rfl) ?_
  refine x_istore_n (zdm d_Md_doesFit_0 1 rfl) rfl (zlt rfl) rfl ?_
  exact zX.sub [1, 2, 0] rfl H
set_option maxRecDepth 20000 in
set_option maxHeartbeats 4000000 in
theorem B_Md_fits_11 {G : zG} {h sl : Nat} (hsl : 2 ≤ sl) {u : Nat × Nat × Nat × Nat} {l1 l2 l3 : Int} {M : zM} {Q : Int → zM → Prop} (H : (400 ≤ l3 → (¬ l1 = (-1) → Q (-1) M) ∧ (¬ (¬ l1 = (-1)) → Q l2 M)) ∧ (¬ 400 ≤ l3 → zCt G h sl 0 0 y_Md_doesFit [(2, 125), (0, l3)] M (fun r1 M2 => (¬ r1 = 0 → (¬ l2 = l1 → (zI (l2 + 1)) ∧ ((zI (l3 + 1)) ∧ (zX G (y_Md_fits, h + 1, sl) u 11 [(0, (2, 125)), (1, (0, l1)), (2, (0, (l2 + 1))), (3, (0, (l3 + 1)))] [] M2 Q))) ∧ (¬ (¬ l2 = l1) → Q l3 M2)) ∧ (¬ (¬ r1 = 0) → (zI (l3 + 1)) ∧ (zX G (y_Md_fits, h + 1, sl) u 11 [(0, (2, 125)), (1, (0, l1)), (2, (0, l2)), (3, (0, (l3 + 1)))] [] M2 Q))))) : zX G (y_Md_fits, h + 1, sl) u 11 [(0, (2, 125)), (1, (0, l1)), (2, (0, l2)), (3, (0, l3))] [] M Q := by
  refine x_iload_n (zdm d_Md_fits_0 9 rfl) rfl (n := 3) rfl ?_
  refine x_sipush (zdm d_Md_fits_0 10 rfl) (by decide) ?_
  refine x_icmpge (tgt := 45) (zdm d_Md_fits_0 11 rfl) (by decide) (fun c => ?_) (fun c => ?_)
  · have H := H.1 c
    refine x_iload_n (zdm d_Md_fits_0 25 rfl) rfl (n := 1) rfl ?_
    refine x_iconst (zdm d_Md_fits_0 26 rfl) (zIl rfl) ?_
    refine x_icmpne (tgt := 54) (zdm d_Md_fits_0 27 rfl) (by decide) (fun c => ?_) (fun c => ?_)
    · have H := H.1 c
      refine x_iconst (zdm d_Md_fits_0 30 rfl) (zIl rfl) ?_
      exact x_iret (zdm d_Md_fits_0 31 rfl) rfl H
    · have H := H.2 c
      refine x_iload_n (zdm d_Md_fits_0 28 rfl) rfl (n := 2) rfl ?_
      refine x_goto (tgt := 55) (zdm d_Md_fits_0 29 rfl) (by decide) ?_
      exact x_iret (zdm d_Md_fits_0 31 rfl) rfl H
  · have H := H.2 c
    refine x_aload_n (zdm d_Md_fits_0 12 rfl) rfl (n := 0) rfl ?_
    refine x_iload_n (zdm d_Md_fits_0 13 rfl) rfl (n := 3) rfl ?_
    refine x_callVi (n := 1) (ci := 11) (zdm d_Md_fits_0 14 rfl) k_Md_516 (As := [(0, l3)]) rfl rfl rfl ⟨_, _, rfl⟩ (Nat.le_of_ble_eq_true rfl) trivial H (fun r1 M2 hr H => ?_)
    have b3 : r1 = 0 ∨ r1 = 1 := hr
    refine x_ifne (tgt := 29) (zdm d_Md_fits_0 15 rfl) (by decide) (fun c => ?_) (fun c => ?_)
    · have H := H.1 c
      refine x_iload_n (zdm d_Md_fits_0 17 rfl) rfl (n := 2) rfl ?_
      refine x_iload_n (zdm d_Md_fits_0 18 rfl) rfl (n := 1) rfl ?_
      refine x_icmpne (tgt := 36) (zdm d_Md_fits_0 19 rfl) (by decide) (fun c => ?_) (fun c => ?_)
      · have H := H.1 c
        obtain ⟨g4, H⟩ := H
        refine x_iinc (zdm d_Md_fits_0 22 rfl) (n := 2) rfl g4 (zlt rfl) rfl ?_
        obtain ⟨g5, H⟩ := H
        refine x_iinc (zdm d_Md_fits_0 23 rfl) (n := 3) rfl g5 (zlt rfl) rfl ?_
        refine x_goto (tgt := 11) (zdm d_Md_fits_0 24 rfl) (by decide) ?_
        exact zX.sub [2, 3, 1, 0] rfl H
      · have H := H.2 c
        refine x_iload_n (zdm d_Md_fits_0 20 rfl) rfl (n := 3) rfl ?_
        exact x_iret (zdm d_Md_fits_0 21 rfl) rfl H
    · have H := H.2 c
      refine x_goto (tgt := 39) (zdm d_Md_fits_0 16 rfl) (by decide) ?_
      obtain ⟨g6, H⟩ := H
      refine x_iinc (zdm d_Md_fits_0 23 rfl) (n := 3) rfl g6 (zlt rfl) rfl ?_
      refine x_goto (tgt := 11) (zdm d_Md_fits_0 24 rfl) (by decide) ?_
      exact zX.sub [1, 2, 3, 0] rfl H
set_option maxRecDepth 20000 in
set_option maxHeartbeats 4000000 in
theorem E_Md_fits {G : zG} {h sl : Nat} (hsl : 2 ≤ sl) {l1 : Int} {M : zM} {Q : Int → zM → Prop} (H : ((-1) ≤ l1 → zX G (y_Md_fits, h + 1, sl) (0, 0, 0, 0) 11 [(0, (2, 125)), (1, (0, l1)), (2, (0, 0)), (3, (0, 0))] [] M Q) ∧ (¬ (-1) ≤ l1 → Q (-1) M)) : zCt G (h + 1) sl 0 0 y_Md_fits [(2, 125), (0, l1)] M Q := by
  refine zCt.of (by decide +kernel) (Nat.le_of_ble_eq_true rfl) ?_
  refine x_iload_n (zdm d_Md_fits_0 0 rfl) rfl (n := 1) rfl ?_
  refine x_iconst (zdm d_Md_fits_0 1 rfl) (zIl rfl) ?_
  refine x_icmpge (tgt := 7) (zdm d_Md_fits_0 2 rfl) (by decide) (fun c => ?_) (fun c => ?_)
  · have H := H.1 c
    refine x_iconst (zdm d_Md_fits_0 5 rfl) (zIl rfl) ?_
    refine x_istore_n (zdm d_Md_fits_0 6 rfl) rfl (zlt rfl) rfl ?_
    refine x_iconst (zdm d_Md_fits_0 7 rfl) (zIl rfl) ?_
    refine x_istore_n (zdm d_Md_fits_0 8 rfl) rfl (zlt rfl) rfl ?_
    exact zX.sub [2, 3, 1, 0] rfl H
  · have H := H.2 c
    refine x_iconst (zdm d_Md_fits_0 3 rfl) (zIl rfl) ?_
    exact x_iret (zdm d_Md_fits_0 4 rfl) rfl H
set_option maxRecDepth 20000 in
set_option maxHeartbeats 4000000 in
theorem B_Md_fitsFirst_14 {G : zG} {h sl : Nat} (hsl : 2 ≤ sl) {u : Nat × Nat × Nat × Nat} {l1 l2 : Int} {M : zM} {Q : Int → zM → Prop} (H : ((M 125 62) ≤ l2 → zCt G h sl 0 0 y_Md_lineGoes [(2, 125)] M (fun r1 M2 => (zI (l1 + 1)) ∧ (zX G (y_Md_fitsFirst, h + 1, sl) u 6 [(0, (2, 125)), (1, (0, (l1 + 1)))] [] M2 Q))) ∧ (¬ (M 125 62) ≤ l2 → (zI (3 * l2)) ∧ ((0 ≤ (3 * l2) ∧ (3 * l2) < 36) ∧ ((¬ (M 170 (3 * l2)) = l1 → (zI (l2 + 1)) ∧ (zX G (y_Md_fitsFirst, h + 1, sl) u 14 [(0, (2, 125)), (1, (0, l1)), (2, (0, (l2 + 1)))] [] M Q)) ∧ (¬ (¬ (M 170 (3 * l2)) = l1) → (zI ((3 * l2) + 1)) ∧ ((0 ≤ ((3 * l2) + 1) ∧ ((3 * l2) + 1) < 36) ∧ (zCt G h sl 0 0 y_Md_valueOf [(2, 125), (0, (M 170 ((3 * l2) + 1)))] M (fun r9 M10 => (zI ((3 * l2) + 2)) ∧ ((0 ≤ ((3 * l2) + 2) ∧ ((3 * l2) + 2) < 36) ∧ ((r9 = (M10 170 ((3 * l2) + 2)) → (zI (l2 + 1)) ∧ (zX G (y_Md_fitsFirst, h + 1, sl) u 14 [(0, (2, 125)), (1, (0, l1)), (2, (0, (l2 + 1)))] [] M10 Q)) ∧ (¬ r9 = (M10 170 ((3 * l2) + 2)) → Q 0 M10))))))))))) : zX G (y_Md_fitsFirst, h + 1, sl) u 14 [(0, (2, 125)), (1, (0, l1)), (2, (0, l2))] [] M Q := by
  refine x_iload_n (zdm d_Md_fitsFirst_0 9 rfl) rfl (n := 2) rfl ?_
  refine x_aload_n (zdm d_Md_fitsFirst_0 10 rfl) rfl (n := 0) rfl ?_
  refine x_getf (zdm d_Md_fitsFirst_0 11 rfl) f_Md_388 rfl rfl ?_
  refine x_icmpge (tgt := 69) (zdm d_Md_fitsFirst_0 12 rfl) (by decide) (fun c => ?_) (fun c => ?_)
  · have H := H.1 c
    refine x_aload_n (zdm d_Md_fitsFirst_0 44 rfl) rfl (n := 0) rfl ?_
    refine x_callVv (n := 0) (ci := 11) (zdm d_Md_fitsFirst_0 45 rfl) k_Md_446 (As := []) rfl rfl rfl ⟨_, _, rfl⟩ (Nat.le_of_ble_eq_true rfl) rfl H (fun r1 M2 hr H => ?_)
    obtain ⟨g3, H⟩ := H
    refine x_iinc (zdm d_Md_fitsFirst_0 46 rfl) (n := 1) rfl g3 (zlt rfl) rfl ?_
    refine x_goto (tgt := 6) (zdm d_Md_fitsFirst_0 47 rfl) (by decide) ?_
    exact zX.sub [1, 0] rfl H
  · have H := H.2 c
    refine x_aload_n (zdm d_Md_fitsFirst_0 13 rfl) rfl (n := 0) rfl ?_
    refine x_getG (zdm d_Md_fitsFirst_0 14 rfl) f_Md_149 rfl rfl (by decide) hsl rfl ?_
    refine x_iconst (zdm d_Md_fitsFirst_0 15 rfl) (zIl rfl) ?_
    refine x_iload_n (zdm d_Md_fitsFirst_0 16 rfl) rfl (n := 2) rfl ?_
    obtain ⟨g4, H⟩ := H
    refine x_imul (zdm d_Md_fitsFirst_0 17 rfl) g4 ?_
    obtain ⟨g5, H⟩ := H
    refine x_iald (zdm d_Md_fitsFirst_0 18 rfl) rfl g5 ?_
    refine x_iload_n (zdm d_Md_fitsFirst_0 19 rfl) rfl (n := 1) rfl ?_
    refine x_icmpne (tgt := 63) (zdm d_Md_fitsFirst_0 20 rfl) (by decide) (fun c => ?_) (fun c => ?_)
    · have H := H.1 c
      obtain ⟨g6, H⟩ := H
      refine x_iinc (zdm d_Md_fitsFirst_0 42 rfl) (n := 2) rfl g6 (zlt rfl) rfl ?_
      refine x_goto (tgt := 14) (zdm d_Md_fitsFirst_0 43 rfl) (by decide) ?_
      exact zX.sub [1, 2, 0] rfl H
    · have H := H.2 c
      refine x_aload_n (zdm d_Md_fitsFirst_0 21 rfl) rfl (n := 0) rfl ?_
      refine x_aload_n (zdm d_Md_fitsFirst_0 22 rfl) rfl (n := 0) rfl ?_
      refine x_getG (zdm d_Md_fitsFirst_0 23 rfl) f_Md_149 rfl rfl (by decide) hsl rfl ?_
      refine x_iconst (zdm d_Md_fitsFirst_0 24 rfl) (zIl rfl) ?_
      refine x_iload_n (zdm d_Md_fitsFirst_0 25 rfl) rfl (n := 2) rfl ?_
      refine x_imul (zdm d_Md_fitsFirst_0 26 rfl) g4 ?_
      refine x_iconst (zdm d_Md_fitsFirst_0 27 rfl) (zIl rfl) ?_
      obtain ⟨g7, H⟩ := H
      refine x_iadd (zdm d_Md_fitsFirst_0 28 rfl) g7 ?_
      obtain ⟨g8, H⟩ := H
      refine x_iald (zdm d_Md_fitsFirst_0 29 rfl) rfl g8 ?_
      refine x_callVi (n := 1) (ci := 11) (zdm d_Md_fitsFirst_0 30 rfl) k_Md_430 (As := [(0, (M 170 ((3 * l2) + 1)))]) rfl rfl rfl ⟨_, _, rfl⟩ (Nat.le_of_ble_eq_true rfl) trivial H (fun r9 M10 hr H => ?_)
      refine x_aload_n (zdm d_Md_fitsFirst_0 31 rfl) rfl (n := 0) rfl ?_
      refine x_getG (zdm d_Md_fitsFirst_0 32 rfl) f_Md_149 rfl rfl (by decide) hsl rfl ?_
      refine x_iconst (zdm d_Md_fitsFirst_0 33 rfl) (zIl rfl) ?_
      refine x_iload_n (zdm d_Md_fitsFirst_0 34 rfl) rfl (n := 2) rfl ?_
      refine x_imul (zdm d_Md_fitsFirst_0 35 rfl) g4 ?_
      refine x_iconst (zdm d_Md_fitsFirst_0 36 rfl) (zIl rfl) ?_
      obtain ⟨g11, H⟩ := H
      refine x_iadd (zdm d_Md_fitsFirst_0 37 rfl) g11 ?_
      obtain ⟨g12, H⟩ := H
      refine x_iald (zdm d_Md_fitsFirst_0 38 rfl) rfl g12 ?_
      refine x_icmpeq (tgt := 63) (zdm d_Md_fitsFirst_0 39 rfl) (by decide) (fun c => ?_) (fun c => ?_)
      · have H := H.1 c
        obtain ⟨g13, H⟩ := H
        refine x_iinc (zdm d_Md_fitsFirst_0 42 rfl) (n := 2) rfl g13 (zlt rfl) rfl ?_
        refine x_goto (tgt := 14) (zdm d_Md_fitsFirst_0 43 rfl) (by decide) ?_
        exact zX.sub [1, 2, 0] rfl H
      · have H := H.2 c
        refine x_iconst (zdm d_Md_fitsFirst_0 40 rfl) (zIl rfl) ?_
        exact x_ireturn (zdm d_Md_fitsFirst_0 41 rfl) (ty := .boolean) rfl (by decide) (Or.inl rfl) H
set_option maxRecDepth 20000 in
set_option maxHeartbeats 4000000 in
theorem B_Md_fitsFirst_6 {G : zG} {h sl : Nat} (hsl : 2 ≤ sl) {u : Nat × Nat × Nat × Nat} {l1 : Int} {M : zM} {Q : Int → zM → Prop} (H : (30 < l1 → Q 1 M) ∧ (¬ 30 < l1 → zX G (y_Md_fitsFirst, h + 1, sl) u 14 [(0, (2, 125)), (1, (0, l1)), (2, (0, 0))] [] M Q)) : zX G (y_Md_fitsFirst, h + 1, sl) u 6 [(0, (2, 125)), (1, (0, l1))] [] M Q := by
  refine x_iload_n (zdm d_Md_fitsFirst_0 4 rfl) rfl (n := 1) rfl ?_
  refine x_bipush (zdm d_Md_fitsFirst_0 5 rfl) (by decide) ?_
  refine x_icmpgt (tgt := 79) (zdm d_Md_fitsFirst_0 6 rfl) (by decide) (fun c => ?_) (fun c => ?_)
  · have H := H.1 c
    refine x_iconst (zdm d_Md_fitsFirst_0 48 rfl) (zIl rfl) ?_
    exact x_ireturn (zdm d_Md_fitsFirst_0 49 rfl) (ty := .boolean) rfl (by decide) (Or.inr rfl) H
  · have H := H.2 c
    refine x_iconst (zdm d_Md_fitsFirst_0 7 rfl) (zIl rfl) ?_
    refine x_istore_n (zdm d_Md_fitsFirst_0 8 rfl) rfl (zlt rfl) rfl ?_
    exact zX.sub [1, 2, 0] rfl H
set_option maxRecDepth 20000 in
set_option maxHeartbeats 4000000 in
theorem E_Md_fitsFirst {G : zG} {h sl : Nat} (hsl : 2 ≤ sl) {M : zM} {Q : Int → zM → Prop} (H : zCt G h sl 0 0 y_Md_begins [(2, 125)] M (fun r1 M2 => zX G (y_Md_fitsFirst, h + 1, sl) (0, 0, 0, 0) 6 [(0, (2, 125)), (1, (0, 0))] [] M2 Q)) : zCt G (h + 1) sl 0 0 y_Md_fitsFirst [(2, 125)] M Q := by
  refine zCt.of (by decide +kernel) (Nat.le_of_ble_eq_true rfl) ?_
  refine x_aload_n (zdm d_Md_fitsFirst_0 0 rfl) rfl (n := 0) rfl ?_
  refine x_callVv (n := 0) (ci := 11) (zdm d_Md_fitsFirst_0 1 rfl) k_Md_382 (As := []) rfl rfl rfl ⟨_, _, rfl⟩ (Nat.le_of_ble_eq_true rfl) rfl H (fun r1 M2 hr H => ?_)
  refine x_iconst (zdm d_Md_fitsFirst_0 2 rfl) (zIl rfl) ?_
  refine x_istore_n (zdm d_Md_fitsFirst_0 3 rfl) rfl (zlt rfl) rfl ?_
  exact zX.sub [1, 0] rfl H
set_option maxRecDepth 20000 in
set_option maxHeartbeats 4000000 in
theorem B_Md_differences_55 {G : zG} {h sl : Nat} (hsl : 2 ≤ sl) {u : Nat × Nat × Nat × Nat} {l1 l2 l3 l4 l5 l6 l7 : Int} {M : zM} {Q : Int → zM → Prop} (H : zCt G h sl 0 0 y_Md_fieldOf [(2, 125), (0, l1), (0, 2)] M (fun r1 M2 => zCt G h sl 0 0 y_Md_fieldOf [(2, 125), (0, l1), (0, 1)] M2 (fun r3 M4 => (zI (r1 - r3)) ∧ (((r1 - r3) < l7 → (0 ≤ l3 ∧ l3 < 112) ∧ (zCt G h sl 0 0 y_Md_takesBack [(2, 125)] (zwr M4 160 l3 l4) (fun r7 M8 => (¬ l2 = (-1) → Q l6 M8) ∧ (¬ (¬ l2 = (-1)) → Q l5 M8)))) ∧ (¬ (r1 - r3) < l7 → (0 ≤ l3 ∧ l3 < 112) ∧ (zCt G h sl 0 0 y_Md_fitsFirst [(2, 125)] (zwr M4 160 l3 l7) (fun r10 M11 => (¬ r10 = 0 → (¬ l5 = l2 → (zI (l5 + 1)) ∧ ((zI (l7 + 1)) ∧ (zX G (y_Md_differences, h + 1, sl) u 55 [(0, (2, 125)), (1, (0, l1)), (2, (0, l2)), (3, (0, l3)), (4, (0, l4)), (5, (0, (l5 + 1))), (6, (0, l6)), (7, (0, (l7 + 1)))] [] M11 Q))) ∧ (¬ (¬ l5 = l2) → (zI (l5 + 1)) ∧ ((zI (l7 + 1)) ∧ (zX G (y_Md_differences, h + 1, sl) u 55 [(0, (2, 125)), (1, (0, l1)), (2, (0, l2)), (3, (0, l3)), (4, (0, l4)), (5, (0, (l5 + 1))), (6, (0, l7)), (7, (0, (l7 + 1)))] [] M11 Q)))) ∧ (¬ (¬ r10 = 0) → (zI (l7 + 1)) ∧ (zX G (y_Md_differences, h + 1, sl) u 55 [(0, (2, 125)), (1, (0, l1)), (2, (0, l2)), (3, (0, l3)), (4, (0, l4)), (5, (0, l5)), (6, (0, l6)), (7, (0, (l7 + 1)))] [] M11 Q))))))))) : zX G (y_Md_differences, h + 1, sl) u 55 [(0, (2, 125)), (1, (0, l1)), (2, (0, l2)), (3, (0, l3)), (4, (0, l4)), (5, (0, l5)), (6, (0, l6)), (7, (0, l7))] [] M Q := by
  refine x_iload (zdm d_Md_differences_0 35 rfl) (n := 7) rfl ?_
  refine x_aload_n (zdm d_Md_differences_0 36 rfl) rfl (n := 0) rfl ?_
  refine x_iload_n (zdm d_Md_differences_0 37 rfl) rfl (n := 1) rfl ?_
  refine x_iconst (zdm d_Md_differences_0 38 rfl) (zIl rfl) ?_
  refine x_callVi (n := 2) (ci := 11) (zdm d_Md_differences_0 39 rfl) k_Md_394 (As := [(0, l1), (0, 2)]) rfl rfl rfl ⟨_, _, rfl⟩ (Nat.le_of_ble_eq_true rfl) trivial H (fun r1 M2 hr H => ?_)
  refine x_aload_n (zdm d_Md_differences_0 40 rfl) rfl (n := 0) rfl ?_
  refine x_iload_n (zdm d_Md_differences_0 41 rfl) rfl (n := 1) rfl ?_
  refine x_iconst (zdm d_Md_differences_0 42 rfl) (zIl rfl) ?_
  refine x_callVi (n := 2) (ci := 11) (zdm d_Md_differences_0 43 rfl) k_Md_394 (As := [(0, l1), (0, 1)]) rfl rfl rfl ⟨_, _, rfl⟩ (Nat.le_of_ble_eq_true rfl) trivial H (fun r3 M4 hr H => ?_)
  obtain ⟨g5, H⟩ := H
  refine x_isub (zdm d_Md_differences_0 44 rfl) g5 ?_
  refine x_icmpgt (tgt := 110) (zdm d_Md_differences_0 45 rfl) (by decide) (fun c => ?_) (fun c => ?_)
  · have H := H.1 c
    refine x_aload_n (zdm d_Md_differences_1 3 rfl) rfl (n := 0) rfl ?_
    refine x_getG (zdm d_Md_differences_1 4 rfl) f_Md_118 rfl rfl (by decide) hsl rfl ?_
    refine x_iload_n (zdm d_Md_differences_1 5 rfl) rfl (n := 3) rfl ?_
    refine x_iload (zdm d_Md_differences_1 6 rfl) (n := 4) rfl ?_
    obtain ⟨g6, H⟩ := H
    refine x_iast (zdm d_Md_differences_1 7 rfl) rfl g6 ?_
    refine x_aload_n (zdm d_Md_differences_1 8 rfl) rfl (n := 0) rfl ?_
    refine x_callVv (n := 0) (ci := 11) (zdm d_Md_differences_1 9 rfl) k_Md_486 (As := []) rfl rfl rfl ⟨_, _, rfl⟩ (Nat.le_of_ble_eq_true rfl) rfl H (fun r7 M8 hr H => ?_)
    refine x_iload_n (zdm d_Md_differences_1 10 rfl) rfl (n := 2) rfl ?_
    refine x_iconst (zdm d_Md_differences_1 11 rfl) (zIl rfl) ?_
    refine x_icmpne (tgt := 132) (zdm d_Md_differences_1 12 rfl) (by decide) (fun c => ?_) (fun c => ?_)
    · have H := H.1 c
      refine x_iload (zdm d_Md_differences_1 15 rfl) (n := 6) rfl ?_
      exact x_iret (zdm d_Md_differences_1 16 rfl) rfl H
    · have H := H.2 c
      refine x_iload (zdm d_Md_differences_1 13 rfl) (n := 5) rfl ?_
      refine x_goto (tgt := 134) (zdm d_Md_differences_1 14 rfl) (by decide) ?_
      exact x_iret (zdm d_Md_differences_1 16 rfl) rfl H
  · have H := H.2 c
    refine x_aload_n (zdm d_Md_differences_0 46 rfl) rfl (n := 0) rfl ?_
    refine x_getG (zdm d_Md_differences_0 47 rfl) f_Md_118 rfl rfl (by decide) hsl rfl ?_
    refine x_iload_n (zdm d_Md_differences_0 48 rfl) rfl (n := 3) rfl ?_
    refine x_iload (zdm d_Md_differences_0 49 rfl) (n := 7) rfl ?_
    obtain ⟨g9, H⟩ := H
    refine x_iast (zdm d_Md_differences_0 50 rfl) rfl g9 ?_
    refine x_aload_n (zdm d_Md_differences_0 51 rfl) rfl (n := 0) rfl ?_
    refine x_callVi (n := 0) (ci := 11) (zdm d_Md_differences_0 52 rfl) k_Md_519 (As := []) rfl rfl rfl ⟨_, _, rfl⟩ (Nat.le_of_ble_eq_true rfl) trivial H (fun r10 M11 hr H => ?_)
    have b12 : r10 = 0 ∨ r10 = 1 := hr
    refine x_ifne (tgt := 91) (zdm d_Md_differences_0 53 rfl) (by decide) (fun c => ?_) (fun c => ?_)
    · have H := H.1 c
      refine x_iload (zdm d_Md_differences_0 55 rfl) (n := 5) rfl ?_
      refine x_iload_n (zdm d_Md_differences_0 56 rfl) rfl (n := 2) rfl ?_
      refine x_icmpne (tgt := 101) (zdm d_Md_differences_0 57 rfl) (by decide) (fun c => ?_) (fun c => ?_)
      · have H := H.1 c
        obtain ⟨g13, H⟩ := H
        refine x_iinc (zdm d_Md_differences_1 0 rfl) (n := 5) rfl g13 (zlt rfl) rfl ?_
        obtain ⟨g14, H⟩ := H
        refine x_iinc (zdm d_Md_differences_1 1 rfl) (n := 7) rfl g14 (zlt rfl) rfl ?_
        refine x_goto (tgt := 55) (zdm d_Md_differences_1 2 rfl) (by decide) ?_
        exact zX.sub [2, 3, 4, 5, 6, 1, 7, 0] rfl H
      · have H := H.2 c
        refine x_iload (zdm d_Md_differences_0 58 rfl) (n := 7) rfl ?_
        refine x_istore (zdm d_Md_differences_0 59 rfl) (zlt rfl) rfl ?_
        obtain ⟨g15, H⟩ := H
        refine x_iinc (zdm d_Md_differences_1 0 rfl) (n := 6) rfl g15 (zlt rfl) rfl ?_
        obtain ⟨g16, H⟩ := H
        refine x_iinc (zdm d_Md_differences_1 1 rfl) (n := 7) rfl g16 (zlt rfl) rfl ?_
        refine x_goto (tgt := 55) (zdm d_Md_differences_1 2 rfl) (by decide) ?_
        exact zX.sub [3, 4, 5, 6, 7, 1, 2, 0] rfl H
    · have H := H.2 c
      refine x_goto (tgt := 104) (zdm d_Md_differences_0 54 rfl) (by decide) ?_
      obtain ⟨g17, H⟩ := H
      refine x_iinc (zdm d_Md_differences_1 1 rfl) (n := 7) rfl g17 (zlt rfl) rfl ?_
      refine x_goto (tgt := 55) (zdm d_Md_differences_1 2 rfl) (by decide) ?_
      exact zX.sub [1, 2, 3, 4, 5, 6, 7, 0] rfl H
set_option maxRecDepth 20000 in
set_option maxHeartbeats 4000000 in
theorem E_Md_differences {G : zG} {h sl : Nat} (hsl : 2 ≤ sl) {l1 l2 : Int} {M : zM} {Q : Int → zM → Prop} (H : zCt G h sl 0 0 y_Md_isColumn [(2, 125), (1, l1)] M (fun r1 M2 => (r1 = 0 → Q (-1) M2) ∧ (¬ r1 = 0 → zCt G h sl 0 0 y_Md_sortOf [(2, 125), (0, l1)] M2 (fun r4 M5 => (¬ r4 = 0 → Q (-1) M5) ∧ (¬ (¬ r4 = 0) → ((-1) ≤ l2 → (zI (7 * l1)) ∧ ((zI (56 + (7 * l1))) ∧ ((zI ((56 + (7 * l1)) + 3)) ∧ ((0 ≤ ((56 + (7 * l1)) + 3) ∧ ((56 + (7 * l1)) + 3) < 112) ∧ (zCt G h sl 0 0 y_Md_putsAside [(2, 125)] M5 (fun r10 M11 => zX G (y_Md_differences, h + 1, sl) (0, 0, 0, 0) 55 [(0, (2, 125)), (1, (0, l1)), (2, (0, l2)), (3, (0, ((56 + (7 * l1)) + 3))), (4, (0, (M5 160 ((56 + (7 * l1)) + 3)))), (5, (0, 0)), (6, (0, (-1))), (7, (0, 1))] [] M11 Q)))))) ∧ (¬ (-1) ≤ l2 → Q (-1) M5)))))) : zCt G (h + 1) sl 0 0 y_Md_differences [(2, 125), (0, l1), (0, l2)] M Q := by
  refine zCt.of (by decide +kernel) (Nat.le_of_ble_eq_true rfl) ?_
  refine x_aload_n (zdm d_Md_differences_0 0 rfl) rfl (n := 0) rfl ?_
  refine x_iload_n (zdm d_Md_differences_0 1 rfl) rfl (n := 1) rfl ?_
  refine x_i2l (zdm d_Md_differences_0 2 rfl) ?_
  refine x_callVi (n := 1) (ci := 11) (zdm d_Md_differences_0 3 rfl) k_Md_466 (As := [(1, l1)]) rfl rfl rfl ⟨_, _, rfl⟩ (Nat.le_of_ble_eq_true rfl) trivial H (fun r1 M2 hr H => ?_)
  have b3 : r1 = 0 ∨ r1 = 1 := hr
  refine x_ifeq (tgt := 22) (zdm d_Md_differences_0 4 rfl) (by decide) (fun c => ?_) (fun c => ?_)
  · have H := H.1 c
    refine x_iconst (zdm d_Md_differences_0 12 rfl) (zIl rfl) ?_
    exact x_iret (zdm d_Md_differences_0 13 rfl) rfl H
  · have H := H.2 c
    refine x_aload_n (zdm d_Md_differences_0 5 rfl) rfl (n := 0) rfl ?_
    refine x_iload_n (zdm d_Md_differences_0 6 rfl) rfl (n := 1) rfl ?_
    refine x_callVi (n := 1) (ci := 11) (zdm d_Md_differences_0 7 rfl) k_Md_424 (As := [(0, l1)]) rfl rfl rfl ⟨_, _, rfl⟩ (Nat.le_of_ble_eq_true rfl) trivial H (fun r4 M5 hr H => ?_)
    refine x_ifne (tgt := 22) (zdm d_Md_differences_0 8 rfl) (by decide) (fun c => ?_) (fun c => ?_)
    · have H := H.1 c
      refine x_iconst (zdm d_Md_differences_0 12 rfl) (zIl rfl) ?_
      exact x_iret (zdm d_Md_differences_0 13 rfl) rfl H
    · have H := H.2 c
      refine x_iload_n (zdm d_Md_differences_0 9 rfl) rfl (n := 2) rfl ?_
      refine x_iconst (zdm d_Md_differences_0 10 rfl) (zIl rfl) ?_
      refine x_icmpge (tgt := 24) (zdm d_Md_differences_0 11 rfl) (by decide) (fun c => ?_) (fun c => ?_)
      · have H := H.1 c
        refine x_bipush (zdm d_Md_differences_0 14 rfl) (by decide) ?_
        refine x_bipush (zdm d_Md_differences_0 15 rfl) (by decide) ?_
        refine x_iload_n (zdm d_Md_differences_0 16 rfl) rfl (n := 1) rfl ?_
        obtain ⟨g6, H⟩ := H
        refine x_imul (zdm d_Md_differences_0 17 rfl) g6 ?_
        obtain ⟨g7, H⟩ := H
        refine x_iadd (zdm d_Md_differences_0 18 rfl) g7 ?_
        refine x_iconst (zdm d_Md_differences_0 19 rfl) (zIl rfl) ?_
        obtain ⟨g8, H⟩ := H
        refine x_iadd (zdm d_Md_differences_0 20 rfl) g8 ?_
        refine x_istore_n (zdm d_Md_differences_0 21 rfl) rfl (zlt rfl) rfl ?_
        refine x_aload_n (zdm d_Md_differences_0 22 rfl) rfl (n := 1) rfl ?_
        refine x_getG (zdm d_Md_differences_0 23 rfl) f_Md_118 rfl rfl (by decide) hsl rfl ?_
        refine x_iload_n (zdm d_Md_differences_0 24 rfl) rfl (n := 0) rfl ?_
        obtain ⟨g9, H⟩ := H
        refine x_iald (zdm d_Md_differences_0 25 rfl) rfl g9 ?_
        refine x_istore (zdm d_Md_differences_0 26 rfl) (zlt rfl) rfl ?_
        refine x_iconst (zdm d_Md_differences_0 27 rfl) (zIl rfl) ?_
        refine x_istore (zdm d_Md_differences_0 28 rfl) (zlt rfl) rfl ?_
        refine x_iconst (zdm d_Md_differences_0 29 rfl) (zIl rfl) ?_
        refine x_istore (zdm d_Md_differences_0 30 rfl) (zlt rfl) rfl ?_
        refine x_aload_n (zdm d_Md_differences_0 31 rfl) rfl (n := 4) rfl ?_
        refine x_callVv (n := 0) (ci := 11) (zdm d_Md_differences_0 32 rfl) k_Md_483 (As := []) rfl rfl rfl ⟨_, _, rfl⟩ (Nat.le_of_ble_eq_true rfl) rfl H (fun r10 M11 hr H => ?_)
        refine x_iconst (zdm d_Md_differences_0 33 rfl) (zIl rfl) ?_
        refine x_istore (zdm d_Md_differences_0 34 rfl) (zlt rfl) rfl ?_
        exact zX.sub [5, 6, 7, 4, 3, 2, 1, 0] rfl H
      · have H := H.2 c
        refine x_iconst (zdm d_Md_differences_0 12 rfl) (zIl rfl) ?_
        exact x_iret (zdm d_Md_differences_0 13 rfl) rfl H
set_option maxRecDepth 20000 in
set_option maxHeartbeats 4000000 in
theorem B_Md_mostAlike_30 {G : zG} {h sl : Nat} (hsl : 2 ≤ sl) {u : Nat × Nat × Nat × Nat} {l1 l2 l3 l4 : Int} {M : zM} {Q : Int → zM → Prop} (H : (400 ≤ l4 → Q l3 M) ∧ (¬ 400 ≤ l4 → zCt G h sl 0 0 y_Md_doesFit [(2, 125), (0, l4)] M (fun r1 M2 => (¬ r1 = 0 → (zI (l4 + l1)) ∧ (zCt G h sl 0 0 y_Md_trueOf [(2, 125), (0, (l4 + l1)), (0, l2)] M2 (fun r5 M6 => (0 ≤ r5 ∧ r5 < 1000) ∧ ((zI ((M6 171 r5) + 1)) ∧ ((((zwr M6 171 r5 ((M6 171 r5) + 1)) 171 r5) ≤ l3 → (zI (l4 + 1)) ∧ (zX G (y_Md_mostAlike, h + 1, sl) u 30 [(0, (2, 125)), (1, (0, l1)), (2, (0, l2)), (3, (0, l3)), (4, (0, (l4 + 1)))] [] (zwr M6 171 r5 ((M6 171 r5) + 1)) Q)) ∧ (¬ ((zwr M6 171 r5 ((M6 171 r5) + 1)) 171 r5) ≤ l3 → (zI (l4 + 1)) ∧ (zX G (y_Md_mostAlike, h + 1, sl) u 30 [(0, (2, 125)), (1, (0, l1)), (2, (0, l2)), (3, (0, ((zwr M6 171 r5 ((M6 171 r5) + 1)) 171 r5))), (4, (0, (l4 + 1)))] [] (zwr M6 171 r5 ((M6 171 r5) + 1)) Q))))))) ∧ (¬ (¬ r1 = 0) → (zI (l4 + 1)) ∧ (zX G (y_Md_mostAlike, h + 1, sl) u 30 [(0, (2, 125)), (1, (0, l1)), (2, (0, l2)), (3, (0, l3)), (4, (0, (l4 + 1)))] [] M2 Q))))) : zX G (y_Md_mostAlike, h + 1, sl) u 30 [(0, (2, 125)), (1, (0, l1)), (2, (0, l2)), (3, (0, l3)), (4, (0, l4))] [] M Q := by
  refine x_iload (zdm d_Md_mostAlike_0 16 rfl) (n := 4) rfl ?_
  refine x_sipush (zdm d_Md_mostAlike_0 17 rfl) (by decide) ?_
  refine x_icmpge (tgt := 97) (zdm d_Md_mostAlike_0 18 rfl) (by decide) (fun c => ?_) (fun c => ?_)
  · have H := H.1 c
    refine x_iload_n (zdm d_Md_mostAlike_0 52 rfl) rfl (n := 3) rfl ?_
    exact x_iret (zdm d_Md_mostAlike_0 53 rfl) rfl H
  · have H := H.2 c
    refine x_aload_n (zdm d_Md_mostAlike_0 19 rfl) rfl (n := 0) rfl ?_
    refine x_iload (zdm d_Md_mostAlike_0 20 rfl) (n := 4) rfl ?_
    refine x_callVi (n := 1) (ci := 11) (zdm d_Md_mostAlike_0 21 rfl) k_Md_516 (As := [(0, l4)]) rfl rfl rfl ⟨_, _, rfl⟩ (Nat.le_of_ble_eq_true rfl) trivial H (fun r1 M2 hr H => ?_)
    have b3 : r1 = 0 ∨ r1 = 1 := hr
    refine x_ifne (tgt := 50) (zdm d_Md_mostAlike_0 22 rfl) (by decide) (fun c => ?_) (fun c => ?_)
    · have H := H.1 c
      refine x_aload_n (zdm d_Md_mostAlike_0 24 rfl) rfl (n := 0) rfl ?_
      refine x_iload (zdm d_Md_mostAlike_0 25 rfl) (n := 4) rfl ?_
      refine x_iload_n (zdm d_Md_mostAlike_0 26 rfl) rfl (n := 1) rfl ?_
      obtain ⟨g4, H⟩ := H
      refine x_iadd (zdm d_Md_mostAlike_0 27 rfl) g4 ?_
      refine x_iload_n (zdm d_Md_mostAlike_0 28 rfl) rfl (n := 2) rfl ?_
      refine x_callVi (n := 2) (ci := 11) (zdm d_Md_mostAlike_0 29 rfl) k_Md_449 (As := [(0, (l4 + l1)), (0, l2)]) rfl rfl rfl ⟨_, _, rfl⟩ (Nat.le_of_ble_eq_true rfl) trivial H (fun r5 M6 hr H => ?_)
      refine x_istore (zdm d_Md_mostAlike_0 30 rfl) (zlt rfl) rfl ?_
      refine x_aload_n (zdm d_Md_mostAlike_0 31 rfl) rfl (n := 1) rfl ?_
      refine x_getG (zdm d_Md_mostAlike_0 32 rfl) f_Md_152 rfl rfl (by decide) hsl rfl ?_
      refine x_iload (zdm d_Md_mostAlike_0 33 rfl) (n := 0) rfl ?_
      refine x_dup2 (zdm d_Md_mostAlike_0 34 rfl) z0n1 z2n1 ?_
      obtain ⟨g7, H⟩ := H
      refine x_iald (zdm d_Md_mostAlike_0 35 rfl) rfl g7 ?_
      refine x_iconst (zdm d_Md_mostAlike_0 36 rfl) (zIl rfl) ?_
      obtain ⟨g8, H⟩ := H
      refine x_iadd (zdm d_Md_mostAlike_0 37 rfl) g8 ?_
      refine x_iast (zdm d_Md_mostAlike_0 38 rfl) rfl g7 ?_
      refine x_aload_n (zdm d_Md_mostAlike_0 39 rfl) rfl (n := 1) rfl ?_
      refine x_getG (zdm d_Md_mostAlike_0 40 rfl) f_Md_152 rfl rfl (by decide) hsl rfl ?_
      refine x_iload (zdm d_Md_mostAlike_0 41 rfl) (n := 0) rfl ?_
      refine x_iald (zdm d_Md_mostAlike_0 42 rfl) rfl g7 ?_
      refine x_iload_n (zdm d_Md_mostAlike_0 43 rfl) rfl (n := 4) rfl ?_
      refine x_icmple (tgt := 91) (zdm d_Md_mostAlike_0 44 rfl) (by decide) (fun c => ?_) (fun c => ?_)
      · have H := H.1 c
        obtain ⟨g9, H⟩ := H
        refine x_iinc (zdm d_Md_mostAlike_0 50 rfl) (n := 5) rfl g9 (zlt rfl) rfl ?_
        refine x_goto (tgt := 30) (zdm d_Md_mostAlike_0 51 rfl) (by decide) ?_
        exact zX.sub [2, 3, 4, 5, 0] rfl H
      · have H := H.2 c
        refine x_aload_n (zdm d_Md_mostAlike_0 45 rfl) rfl (n := 1) rfl ?_
        refine x_getG (zdm d_Md_mostAlike_0 46 rfl) f_Md_152 rfl rfl (by decide) hsl rfl ?_
        refine x_iload (zdm d_Md_mostAlike_0 47 rfl) (n := 0) rfl ?_
        refine x_iald (zdm d_Md_mostAlike_0 48 rfl) rfl g7 ?_
        refine x_istore_n (zdm d_Md_mostAlike_0 49 rfl) rfl (zlt rfl) rfl ?_
        obtain ⟨g10, H⟩ := H
        refine x_iinc (zdm d_Md_mostAlike_0 50 rfl) (n := 5) rfl g10 (zlt rfl) rfl ?_
        refine x_goto (tgt := 30) (zdm d_Md_mostAlike_0 51 rfl) (by decide) ?_
        exact zX.sub [3, 4, 5, 1, 0] rfl H
    · have H := H.2 c
      refine x_goto (tgt := 91) (zdm d_Md_mostAlike_0 23 rfl) (by decide) ?_
      obtain ⟨g11, H⟩ := H
      refine x_iinc (zdm d_Md_mostAlike_0 50 rfl) (n := 4) rfl g11 (zlt rfl) rfl ?_
      refine x_goto (tgt := 30) (zdm d_Md_mostAlike_0 51 rfl) (by decide) ?_
      exact zX.sub [1, 2, 3, 4, 0] rfl H
set_option maxRecDepth 20000 in
set_option maxHeartbeats 4000000 in
theorem B_Md_mostAlike_5 {G : zG} {h sl : Nat} (hsl : 2 ≤ sl) {u : Nat × Nat × Nat × Nat} {l1 l2 l3 l4 : Int} {M : zM} {Q : Int → zM → Prop} (H : (999 < l4 → zX G (y_Md_mostAlike, h + 1, sl) u 30 [(0, (2, 125)), (1, (0, l1)), (2, (0, l2)), (3, (0, l3)), (4, (0, 0))] [] M Q) ∧ (¬ 999 < l4 → (0 ≤ l4 ∧ l4 < 1000) ∧ ((zI (l4 + 1)) ∧ (zX G (y_Md_mostAlike, h + 1, sl) u 5 [(0, (2, 125)), (1, (0, l1)), (2, (0, l2)), (3, (0, l3)), (4, (0, (l4 + 1)))] [] (zwr M 171 l4 0) Q)))) : zX G (y_Md_mostAlike, h + 1, sl) u 5 [(0, (2, 125)), (1, (0, l1)), (2, (0, l2)), (3, (0, l3)), (4, (0, l4))] [] M Q := by
  refine x_iload (zdm d_Md_mostAlike_0 4 rfl) (n := 4) rfl ?_
  refine x_sipush (zdm d_Md_mostAlike_0 5 rfl) (by decide) ?_
  refine x_icmpgt (tgt := 27) (zdm d_Md_mostAlike_0 6 rfl) (by decide) (fun c => ?_) (fun c => ?_)
  · have H := H.1 c
    refine x_iconst (zdm d_Md_mostAlike_0 14 rfl) (zIl rfl) ?_
    refine x_istore (zdm d_Md_mostAlike_0 15 rfl) (zlt rfl) rfl ?_
    exact zX.sub [1, 2, 3, 4, 0] rfl H
  · have H := H.2 c
    refine x_aload_n (zdm d_Md_mostAlike_0 7 rfl) rfl (n := 0) rfl ?_
    refine x_getG (zdm d_Md_mostAlike_0 8 rfl) f_Md_152 rfl rfl (by decide) hsl rfl ?_
    refine x_iload (zdm d_Md_mostAlike_0 9 rfl) (n := 4) rfl ?_
    refine x_iconst (zdm d_Md_mostAlike_0 10 rfl) (zIl rfl) ?_
    obtain ⟨g1, H⟩ := H
    refine x_iast (zdm d_Md_mostAlike_0 11 rfl) rfl g1 ?_
    obtain ⟨g2, H⟩ := H
    refine x_iinc (zdm d_Md_mostAlike_0 12 rfl) (n := 4) rfl g2 (zlt rfl) rfl ?_
    refine x_goto (tgt := 5) (zdm d_Md_mostAlike_0 13 rfl) (by decide) ?_
    exact zX.sub [1, 2, 3, 4, 0] rfl H
set_option maxRecDepth 20000 in
set_option maxHeartbeats 4000000 in
theorem E_Md_mostAlike {G : zG} {h sl : Nat} (hsl : 2 ≤ sl) {l1 l2 : Int} {M : zM} {Q : Int → zM → Prop} (H : zX G (y_Md_mostAlike, h + 1, sl) (0, 0, 0, 0) 5 [(0, (2, 125)), (1, (0, l1)), (2, (0, l2)), (3, (0, 0)), (4, (0, 0))] [] M Q) : zCt G (h + 1) sl 0 0 y_Md_mostAlike [(2, 125), (0, l1), (0, l2)] M Q := by
  refine zCt.of (by decide +kernel) (Nat.le_of_ble_eq_true rfl) ?_
  refine x_iconst (zdm d_Md_mostAlike_0 0 rfl) (zIl rfl) ?_
  refine x_istore_n (zdm d_Md_mostAlike_0 1 rfl) rfl (zlt rfl) rfl ?_
  refine x_iconst (zdm d_Md_mostAlike_0 2 rfl) (zIl rfl) ?_
  refine x_istore (zdm d_Md_mostAlike_0 3 rfl) (zlt rfl) rfl ?_
  exact zX.sub [2, 3, 4, 1, 0] rfl H
set_option maxRecDepth 20000 in
set_option maxHeartbeats 4000000 in
theorem B_Md_tells_34 {G : zG} {h sl : Nat} (hsl : 2 ≤ sl) {u : Nat × Nat × Nat × Nat} {l1 l2 l3 l4 l5 l6 : Int} {M : zM} {Q : Int → zM → Prop} (H : zCt G h sl 0 0 y_Md_columnMany [(2, 125)] M (fun r1 M2 => (r1 ≤ l6 → (zI (l5 + 1)) ∧ (zX G (y_Md_tells, h + 1, sl) u 24 [(0, (2, 125)), (1, (0, l1)), (2, (0, l2)), (3, (0, l3)), (4, (0, l4)), (5, (0, (l5 + 1)))] [] M2 Q)) ∧ (¬ r1 ≤ l6 → zCt G h sl 0 0 y_Md_sortOf [(2, 125), (0, l6)] M2 (fun r4 M5 => (¬ r4 = 3 → zCt G h sl 0 0 y_Md_mostAlike [(2, 125), (0, l5), (0, l6)] M5 (fun r6 M7 => (r6 = 0 → (zI (l6 + 1)) ∧ (zX G (y_Md_tells, h + 1, sl) u 34 [(0, (2, 125)), (1, (0, l1)), (2, (0, l2)), (3, (0, l3)), (4, (0, l4)), (5, (0, l5)), (6, (0, (l6 + 1)))] [] M7 Q)) ∧ (¬ r6 = 0 → (l2 = (-1) → (zI (l6 + 1)) ∧ (zX G (y_Md_tells, h + 1, sl) u 34 [(0, (2, 125)), (1, (0, l1)), (2, (0, l5)), (3, (0, l6)), (4, (0, r6)), (5, (0, l5)), (6, (0, (l6 + 1)))] [] M7 Q)) ∧ (¬ l2 = (-1) → (r6 < l4 → (zI (l6 + 1)) ∧ (zX G (y_Md_tells, h + 1, sl) u 34 [(0, (2, 125)), (1, (0, l1)), (2, (0, l5)), (3, (0, l6)), (4, (0, r6)), (5, (0, l5)), (6, (0, (l6 + 1)))] [] M7 Q)) ∧ (¬ r6 < l4 → (zI (l6 + 1)) ∧ (zX G (y_Md_tells, h + 1, sl) u 34 [(0, (2, 125)), (1, (0, l1)), (2, (0, l2)), (3, (0, l3)), (4, (0, l4)), (5, (0, l5)), (6, (0, (l6 + 1)))] [] M7 Q)))))) ∧ (¬ (¬ r4 = 3) → (zI (l6 + 1)) ∧ (zX G (y_Md_tells, h + 1, sl) u 34 [(0, (2, 125)), (1, (0, l1)), (2, (0, l2)), (3, (0, l3)), (4, (0, l4)), (5, (0, l5)), (6, (0, (l6 + 1)))] [] M5 Q)))))) : zX G (y_Md_tells, h + 1, sl) u 34 [(0, (2, 125)), (1, (0, l1)), (2, (0, l2)), (3, (0, l3)), (4, (0, l4)), (5, (0, l5)), (6, (0, l6))] [] M Q := by
  refine x_iload (zdm d_Md_tells_0 21 rfl) (n := 6) rfl ?_
  refine x_aload_n (zdm d_Md_tells_0 22 rfl) rfl (n := 0) rfl ?_
  refine x_callVi (n := 0) (ci := 11) (zdm d_Md_tells_0 23 rfl) k_Md_391 (As := []) rfl rfl rfl ⟨_, _, rfl⟩ (Nat.le_of_ble_eq_true rfl) trivial H (fun r1 M2 hr H => ?_)
  refine x_icmpge (tgt := 102) (zdm d_Md_tells_0 24 rfl) (by decide) (fun c => ?_) (fun c => ?_)
  · have H := H.1 c
    obtain ⟨g3, H⟩ := H
    refine x_iinc (zdm d_Md_tells_0 53 rfl) (n := 5) rfl g3 (zlt rfl) rfl ?_
    refine x_goto (tgt := 24) (zdm d_Md_tells_0 54 rfl) (by decide) ?_
    exact zX.sub [1, 2, 3, 4, 5, 0] rfl H
  · have H := H.2 c
    refine x_aload_n (zdm d_Md_tells_0 25 rfl) rfl (n := 0) rfl ?_
    refine x_iload (zdm d_Md_tells_0 26 rfl) (n := 6) rfl ?_
    refine x_callVi (n := 1) (ci := 11) (zdm d_Md_tells_0 27 rfl) k_Md_424 (As := [(0, l6)]) rfl rfl rfl ⟨_, _, rfl⟩ (Nat.le_of_ble_eq_true rfl) trivial H (fun r4 M5 hr H => ?_)
    refine x_iconst (zdm d_Md_tells_0 28 rfl) (zIl rfl) ?_
    refine x_icmpne (tgt := 56) (zdm d_Md_tells_0 29 rfl) (by decide) (fun c => ?_) (fun c => ?_)
    · have H := H.1 c
      refine x_aload_n (zdm d_Md_tells_0 31 rfl) rfl (n := 0) rfl ?_
      refine x_iload (zdm d_Md_tells_0 32 rfl) (n := 5) rfl ?_
      refine x_iload (zdm d_Md_tells_0 33 rfl) (n := 6) rfl ?_
      refine x_callVi (n := 2) (ci := 11) (zdm d_Md_tells_0 34 rfl) k_Md_522 (As := [(0, l5), (0, l6)]) rfl rfl rfl ⟨_, _, rfl⟩ (Nat.le_of_ble_eq_true rfl) trivial H (fun r6 M7 hr H => ?_)
      refine x_istore (zdm d_Md_tells_0 35 rfl) (zlt rfl) rfl ?_
      refine x_iload (zdm d_Md_tells_0 36 rfl) (n := 0) rfl ?_
      refine x_ifeq (tgt := 96) (zdm d_Md_tells_0 37 rfl) (by decide) (fun c => ?_) (fun c => ?_)
      · have H := H.1 c
        obtain ⟨g8, H⟩ := H
        refine x_iinc (zdm d_Md_tells_0 51 rfl) (n := 7) rfl g8 (zlt rfl) rfl ?_
        refine x_goto (tgt := 34) (zdm d_Md_tells_0 52 rfl) (by decide) ?_
        exact zX.sub [2, 3, 4, 5, 6, 7, 0] rfl H
      · have H := H.2 c
        refine x_iload_n (zdm d_Md_tells_0 38 rfl) rfl (n := 3) rfl ?_
        refine x_iconst (zdm d_Md_tells_0 39 rfl) (zIl rfl) ?_
        refine x_icmpeq (tgt := 86) (zdm d_Md_tells_0 40 rfl) (by decide) (fun c => ?_) (fun c => ?_)
        · have H := H.1 c
          refine x_iload (zdm d_Md_tells_0 45 rfl) (n := 6) rfl ?_
          refine x_istore_n (zdm d_Md_tells_0 46 rfl) rfl (zlt rfl) rfl ?_
          refine x_iload (zdm d_Md_tells_0 47 rfl) (n := 7) rfl ?_
          refine x_istore_n (zdm d_Md_tells_0 48 rfl) rfl (zlt rfl) rfl ?_
          refine x_iload (zdm d_Md_tells_0 49 rfl) (n := 2) rfl ?_
          refine x_istore (zdm d_Md_tells_0 50 rfl) (zlt rfl) rfl ?_
          obtain ⟨g9, H⟩ := H
          refine x_iinc (zdm d_Md_tells_0 51 rfl) (n := 7) rfl g9 (zlt rfl) rfl ?_
          refine x_goto (tgt := 34) (zdm d_Md_tells_0 52 rfl) (by decide) ?_
          exact zX.sub [5, 6, 3, 2, 1, 7, 0] rfl H
        · have H := H.2 c
          refine x_iload (zdm d_Md_tells_0 41 rfl) (n := 0) rfl ?_
          refine x_iload (zdm d_Md_tells_0 42 rfl) (n := 5) rfl ?_
          refine x_icmplt (tgt := 86) (zdm d_Md_tells_0 43 rfl) (by decide) (fun c => ?_) (fun c => ?_)
          · have H := H.1 c
            refine x_iload (zdm d_Md_tells_0 45 rfl) (n := 6) rfl ?_
            refine x_istore_n (zdm d_Md_tells_0 46 rfl) rfl (zlt rfl) rfl ?_
            refine x_iload (zdm d_Md_tells_0 47 rfl) (n := 7) rfl ?_
            refine x_istore_n (zdm d_Md_tells_0 48 rfl) rfl (zlt rfl) rfl ?_
            refine x_iload (zdm d_Md_tells_0 49 rfl) (n := 2) rfl ?_
            refine x_istore (zdm d_Md_tells_0 50 rfl) (zlt rfl) rfl ?_
            obtain ⟨g10, H⟩ := H
            refine x_iinc (zdm d_Md_tells_0 51 rfl) (n := 7) rfl g10 (zlt rfl) rfl ?_
            refine x_goto (tgt := 34) (zdm d_Md_tells_0 52 rfl) (by decide) ?_
            exact zX.sub [5, 6, 3, 2, 1, 7, 0] rfl H
          · have H := H.2 c
            refine x_goto (tgt := 96) (zdm d_Md_tells_0 44 rfl) (by decide) ?_
            obtain ⟨g11, H⟩ := H
            refine x_iinc (zdm d_Md_tells_0 51 rfl) (n := 7) rfl g11 (zlt rfl) rfl ?_
            refine x_goto (tgt := 34) (zdm d_Md_tells_0 52 rfl) (by decide) ?_
            exact zX.sub [2, 3, 4, 5, 6, 7, 0] rfl H
    · have H := H.2 c
      refine x_goto (tgt := 96) (zdm d_Md_tells_0 30 rfl) (by decide) ?_
      obtain ⟨g12, H⟩ := H
      refine x_iinc (zdm d_Md_tells_0 51 rfl) (n := 6) rfl g12 (zlt rfl) rfl ?_
      refine x_goto (tgt := 34) (zdm d_Md_tells_0 52 rfl) (by decide) ?_
      exact zX.sub [1, 2, 3, 4, 5, 6, 0] rfl H
set_option maxRecDepth 20000 in
set_option maxHeartbeats 4000000 in
theorem B_Md_tells_24 {G : zG} {h sl : Nat} (hsl : 2 ≤ sl) {u : Nat × Nat × Nat × Nat} {l1 l2 l3 l4 l5 : Int} {M : zM} {Q : Int → zM → Prop} (H : (30 < l5 → (¬ l2 = (-1) → (¬ l1 = 0 → (¬ l1 = 1 → Q l4 M) ∧ (¬ (¬ l1 = 1) → Q l3 M)) ∧ (¬ (¬ l1 = 0) → Q l2 M)) ∧ (¬ (¬ l2 = (-1)) → Q (-1) M)) ∧ (¬ 30 < l5 → zX G (y_Md_tells, h + 1, sl) u 34 [(0, (2, 125)), (1, (0, l1)), (2, (0, l2)), (3, (0, l3)), (4, (0, l4)), (5, (0, l5)), (6, (0, 0))] [] M Q)) : zX G (y_Md_tells, h + 1, sl) u 24 [(0, (2, 125)), (1, (0, l1)), (2, (0, l2)), (3, (0, l3)), (4, (0, l4)), (5, (0, l5))] [] M Q := by
  refine x_iload (zdm d_Md_tells_0 16 rfl) (n := 5) rfl ?_
  refine x_bipush (zdm d_Md_tells_0 17 rfl) (by decide) ?_
  refine x_icmpgt (tgt := 108) (zdm d_Md_tells_0 18 rfl) (by decide) (fun c => ?_) (fun c => ?_)
  · have H := H.1 c
    refine x_iload_n (zdm d_Md_tells_0 55 rfl) rfl (n := 2) rfl ?_
    refine x_iconst (zdm d_Md_tells_0 56 rfl) (zIl rfl) ?_
    refine x_icmpne (tgt := 117) (zdm d_Md_tells_0 57 rfl) (by decide) (fun c => ?_) (fun c => ?_)
    · have H := H.1 c
      refine x_iload_n (zdm d_Md_tells_1 0 rfl) rfl (n := 1) rfl ?_
      refine x_ifne (tgt := 125) (zdm d_Md_tells_1 1 rfl) (by decide) (fun c => ?_) (fun c => ?_)
      · have H := H.1 c
        refine x_iload_n (zdm d_Md_tells_1 4 rfl) rfl (n := 1) rfl ?_
        refine x_iconst (zdm d_Md_tells_1 5 rfl) (zIl rfl) ?_
        refine x_icmpne (tgt := 134) (zdm d_Md_tells_1 6 rfl) (by decide) (fun c => ?_) (fun c => ?_)
        · have H := H.1 c
          refine x_iload (zdm d_Md_tells_1 9 rfl) (n := 4) rfl ?_
          exact x_iret (zdm d_Md_tells_1 10 rfl) rfl H
        · have H := H.2 c
          refine x_iload_n (zdm d_Md_tells_1 7 rfl) rfl (n := 3) rfl ?_
          refine x_goto (tgt := 136) (zdm d_Md_tells_1 8 rfl) (by decide) ?_
          exact x_iret (zdm d_Md_tells_1 10 rfl) rfl H
      · have H := H.2 c
        refine x_iload_n (zdm d_Md_tells_1 2 rfl) rfl (n := 2) rfl ?_
        refine x_goto (tgt := 136) (zdm d_Md_tells_1 3 rfl) (by decide) ?_
        exact x_iret (zdm d_Md_tells_1 10 rfl) rfl H
    · have H := H.2 c
      refine x_iconst (zdm d_Md_tells_0 58 rfl) (zIl rfl) ?_
      refine x_goto (tgt := 136) (zdm d_Md_tells_0 59 rfl) (by decide) ?_
      exact x_iret (zdm d_Md_tells_1 10 rfl) rfl H
  · have H := H.2 c
    refine x_iconst (zdm d_Md_tells_0 19 rfl) (zIl rfl) ?_
    refine x_istore (zdm d_Md_tells_0 20 rfl) (zlt rfl) rfl ?_
    exact zX.sub [1, 2, 3, 4, 5, 6, 0] rfl H
set_option maxRecDepth 20000 in
set_option maxHeartbeats 4000000 in
theorem E_Md_tells {G : zG} {h sl : Nat} (hsl : 2 ≤ sl) {l1 : Int} {M : zM} {Q : Int → zM → Prop} (H : zCt G h sl 0 0 y_Md_isIn [(1, l1), (1, 0), (1, 2)] M (fun r1 M2 => (¬ r1 = 0 → zX G (y_Md_tells, h + 1, sl) (0, 0, 0, 0) 24 [(0, (2, 125)), (1, (0, l1)), (2, (0, (-1))), (3, (0, (-1))), (4, (0, 0)), (5, (0, 0))] [] M2 Q) ∧ (¬ (¬ r1 = 0) → Q (-1) M2))) : zCt G (h + 1) sl 0 0 y_Md_tells [(2, 125), (0, l1)] M Q := by
  refine zCt.of (by decide +kernel) (Nat.le_of_ble_eq_true rfl) ?_
  refine x_iload_n (zdm d_Md_tells_0 0 rfl) rfl (n := 1) rfl ?_
  refine x_i2l (zdm d_Md_tells_0 1 rfl) ?_
  refine x_lconst (zdm d_Md_tells_0 2 rfl) (x := 0) rfl ?_
  refine x_ldc2 (zdm d_Md_tells_0 3 rfl) (n := 2) (zLl rfl) w_Md_498 ?_
  refine x_callSi (n := 3) (zdm d_Md_tells_0 4 rfl) k_Md_280 (As := [(1, l1), (1, 0), (1, 2)]) rfl rfl (Nat.le_of_ble_eq_true rfl) trivial H (fun r1 M2 hr H => ?_)
  have b3 : r1 = 0 ∨ r1 = 1 := hr
  refine x_ifne (tgt := 14) (zdm d_Md_tells_0 5 rfl) (by decide) (fun c => ?_) (fun c => ?_)
  · have H := H.1 c
    refine x_iconst (zdm d_Md_tells_0 8 rfl) (zIl rfl) ?_
    refine x_istore_n (zdm d_Md_tells_0 9 rfl) rfl (zlt rfl) rfl ?_
    refine x_iconst (zdm d_Md_tells_0 10 rfl) (zIl rfl) ?_
    refine x_istore_n (zdm d_Md_tells_0 11 rfl) rfl (zlt rfl) rfl ?_
    refine x_iconst (zdm d_Md_tells_0 12 rfl) (zIl rfl) ?_
    refine x_istore (zdm d_Md_tells_0 13 rfl) (zlt rfl) rfl ?_
    refine x_iconst (zdm d_Md_tells_0 14 rfl) (zIl rfl) ?_
    refine x_istore (zdm d_Md_tells_0 15 rfl) (zlt rfl) rfl ?_
    exact zX.sub [4, 5, 3, 2, 1, 0] rfl H
  · have H := H.2 c
    refine x_iconst (zdm d_Md_tells_0 6 rfl) (zIl rfl) ?_
    exact x_iret (zdm d_Md_tells_0 7 rfl) rfl H
set_option maxRecDepth 20000 in
set_option maxHeartbeats 4000000 in
theorem B_Md_keeps_15 {G : zG} {h sl : Nat} (hsl : 2 ≤ sl) {u : Nat × Nat × Nat × Nat} {l1 : Int} {M : zM} {Q : Int → zM → Prop} (H : (98 ≤ l1 → (20 ≤ (M 125 66) → Q 0 M) ∧ (¬ 20 ≤ (M 125 66) → (zI ((M 125 66) + 1)) ∧ (Q 0 (zwr M 125 66 ((M 125 66) + 1))))) ∧ (¬ 98 ≤ l1 → (zI (98 * (M 125 67))) ∧ ((zI ((98 * (M 125 67)) + l1)) ∧ ((0 ≤ l1 ∧ l1 < 98) ∧ ((0 ≤ ((98 * (M 125 67)) + l1) ∧ ((98 * (M 125 67)) + l1) < 1960) ∧ ((zI (l1 + 1)) ∧ (zX G (y_Md_keeps, h, sl) u 15 [(0, (2, 125)), (1, (0, (l1 + 1)))] [] (zwr M 172 ((98 * (M 125 67)) + l1) (M 164 l1)) Q))))))) : zX G (y_Md_keeps, h, sl) u 15 [(0, (2, 125)), (1, (0, l1))] [] M Q := by
  refine x_iload_n (zdm d_Md_keeps_0 10 rfl) rfl (n := 1) rfl ?_
  refine x_bipush (zdm d_Md_keeps_0 11 rfl) (by decide) ?_
  refine x_icmpge (tgt := 47) (zdm d_Md_keeps_0 12 rfl) (by decide) (fun c => ?_) (fun c => ?_)
  · have H := H.1 c
    refine x_aload_n (zdm d_Md_keeps_0 28 rfl) rfl (n := 0) rfl ?_
    refine x_getf (zdm d_Md_keeps_0 29 rfl) f_Md_385 rfl rfl ?_
    refine x_bipush (zdm d_Md_keeps_0 30 rfl) (by decide) ?_
    refine x_icmpge (tgt := 66) (zdm d_Md_keeps_0 31 rfl) (by decide) (fun c => ?_) (fun c => ?_)
    · have H := H.1 c
      exact x_return (zdm d_Md_keeps_0 38 rfl) rfl H
    · have H := H.2 c
      refine x_aload_n (zdm d_Md_keeps_0 32 rfl) rfl (n := 0) rfl ?_
      refine x_dup (zdm d_Md_keeps_0 33 rfl) z2n1 ?_
      refine x_getf (zdm d_Md_keeps_0 34 rfl) f_Md_385 rfl rfl ?_
      refine x_iconst (zdm d_Md_keeps_0 35 rfl) (zIl rfl) ?_
      obtain ⟨g1, H⟩ := H
      refine x_iadd (zdm d_Md_keeps_0 36 rfl) g1 ?_
      refine x_putf (zdm d_Md_keeps_0 37 rfl) f_Md_385 rfl ⟨rfl, trivial⟩ (Or.inl rfl) ?_
      exact x_return (zdm d_Md_keeps_0 38 rfl) rfl H
  · have H := H.2 c
    refine x_aload_n (zdm d_Md_keeps_0 13 rfl) rfl (n := 0) rfl ?_
    refine x_getG (zdm d_Md_keeps_0 14 rfl) f_Md_155 rfl rfl (by decide) hsl rfl ?_
    refine x_bipush (zdm d_Md_keeps_0 15 rfl) (by decide) ?_
    refine x_aload_n (zdm d_Md_keeps_0 16 rfl) rfl (n := 0) rfl ?_
    refine x_getf (zdm d_Md_keeps_0 17 rfl) f_Md_525 rfl rfl ?_
    obtain ⟨g2, H⟩ := H
    refine x_imul (zdm d_Md_keeps_0 18 rfl) g2 ?_
    refine x_iload_n (zdm d_Md_keeps_0 19 rfl) rfl (n := 1) rfl ?_
    obtain ⟨g3, H⟩ := H
    refine x_iadd (zdm d_Md_keeps_0 20 rfl) g3 ?_
    refine x_aload_n (zdm d_Md_keeps_0 21 rfl) rfl (n := 0) rfl ?_
    refine x_getG (zdm d_Md_keeps_0 22 rfl) f_Md_130 rfl rfl (by decide) hsl rfl ?_
    refine x_iload_n (zdm d_Md_keeps_0 23 rfl) rfl (n := 1) rfl ?_
    obtain ⟨g4, H⟩ := H
    refine x_iald (zdm d_Md_keeps_0 24 rfl) rfl g4 ?_
    obtain ⟨g5, H⟩ := H
    refine x_iast (zdm d_Md_keeps_0 25 rfl) rfl g5 ?_
    obtain ⟨g6, H⟩ := H
    refine x_iinc (zdm d_Md_keeps_0 26 rfl) (n := 1) rfl g6 (zlt rfl) rfl ?_
    refine x_goto (tgt := 15) (zdm d_Md_keeps_0 27 rfl) (by decide) ?_
    exact zX.sub [1, 0] rfl H
set_option maxRecDepth 20000 in
set_option maxHeartbeats 4000000 in
theorem E_Md_keeps {G : zG} {h sl : Nat} (hsl : 2 ≤ sl) {M : zM} {Q : Int → zM → Prop} (H : (zI ((M 125 67) + 1)) ∧ (zX G (y_Md_keeps, h, sl) (0, 0, 0, 0) 15 [(0, (2, 125)), (1, (0, 0))] [] (zwr M 125 67 (Int.tmod ((M 125 67) + 1) 20)) Q)) : zCt G h sl 0 0 y_Md_keeps [(2, 125)] M Q := by
  refine zCt.of (by decide +kernel) (Nat.le_of_ble_eq_true rfl) ?_
  refine x_aload_n (zdm d_Md_keeps_0 0 rfl) rfl (n := 0) rfl ?_
  refine x_aload_n (zdm d_Md_keeps_0 1 rfl) rfl (n := 0) rfl ?_
  refine x_getf (zdm d_Md_keeps_0 2 rfl) f_Md_525 rfl rfl ?_
  refine x_iconst (zdm d_Md_keeps_0 3 rfl) (zIl rfl) ?_
  obtain ⟨g1, H⟩ := H
  refine x_iadd (zdm d_Md_keeps_0 4 rfl) g1 ?_
  refine x_bipush (zdm d_Md_keeps_0 5 rfl) (by decide) ?_
  refine x_irem (zdm d_Md_keeps_0 6 rfl) (by decide) ?_
  refine x_putf (zdm d_Md_keeps_0 7 rfl) f_Md_525 rfl ⟨rfl, trivial⟩ (Or.inl rfl) ?_
  refine x_iconst (zdm d_Md_keeps_0 8 rfl) (zIl rfl) ?_
  refine x_istore_n (zdm d_Md_keeps_0 9 rfl) rfl (zlt rfl) rfl ?_
  exact zX.sub [1, 0] rfl H
set_option maxRecDepth 20000 in
set_option maxHeartbeats 4000000 in
theorem B_Md_undo_21 {G : zG} {h sl : Nat} (hsl : 2 ≤ sl) {u : Nat × Nat × Nat × Nat} {l1 : Int} {M : zM} {Q : Int → zM → Prop} (H : (98 ≤ l1 → (zI ((M 125 67) + 20)) ∧ ((zI (((M 125 67) + 20) - 1)) ∧ ((zI (((zwr M 125 67 (Int.tmod (((M 125 67) + 20) - 1) 20)) 125 66) - 1)) ∧ (Q 1 (zwr (zwr M 125 67 (Int.tmod (((M 125 67) + 20) - 1) 20)) 125 66 (((zwr M 125 67 (Int.tmod (((M 125 67) + 20) - 1) 20)) 125 66) - 1)))))) ∧ (¬ 98 ≤ l1 → (zI (98 * (M 125 67))) ∧ ((zI ((98 * (M 125 67)) + l1)) ∧ ((0 ≤ ((98 * (M 125 67)) + l1) ∧ ((98 * (M 125 67)) + l1) < 1960) ∧ ((0 ≤ l1 ∧ l1 < 98) ∧ ((zI (l1 + 1)) ∧ (zX G (y_Md_undo, h, sl) u 21 [(0, (2, 125)), (1, (0, (l1 + 1)))] [] (zwr M 164 l1 (M 172 ((98 * (M 125 67)) + l1))) Q))))))) : zX G (y_Md_undo, h, sl) u 21 [(0, (2, 125)), (1, (0, l1))] [] M Q := by
  refine x_iload_n (zdm d_Md_undo_0 15 rfl) rfl (n := 1) rfl ?_
  refine x_bipush (zdm d_Md_undo_0 16 rfl) (by decide) ?_
  refine x_icmpge (tgt := 53) (zdm d_Md_undo_0 17 rfl) (by decide) (fun c => ?_) (fun c => ?_)
  · have H := H.1 c
    refine x_aload_n (zdm d_Md_undo_0 33 rfl) rfl (n := 0) rfl ?_
    refine x_aload_n (zdm d_Md_undo_0 34 rfl) rfl (n := 0) rfl ?_
    refine x_getf (zdm d_Md_undo_0 35 rfl) f_Md_525 rfl rfl ?_
    refine x_bipush (zdm d_Md_undo_0 36 rfl) (by decide) ?_
    obtain ⟨g1, H⟩ := H
    refine x_iadd (zdm d_Md_undo_0 37 rfl) g1 ?_
    refine x_iconst (zdm d_Md_undo_0 38 rfl) (zIl rfl) ?_
    obtain ⟨g2, H⟩ := H
    refine x_isub (zdm d_Md_undo_0 39 rfl) g2 ?_
    refine x_bipush (zdm d_Md_undo_0 40 rfl) (by decide) ?_
    refine x_irem (zdm d_Md_undo_0 41 rfl) (by decide) ?_
    refine x_putf (zdm d_Md_undo_0 42 rfl) f_Md_525 rfl ⟨rfl, trivial⟩ (Or.inl rfl) ?_
    refine x_aload_n (zdm d_Md_undo_0 43 rfl) rfl (n := 0) rfl ?_
    refine x_dup (zdm d_Md_undo_0 44 rfl) z2n1 ?_
    refine x_getf (zdm d_Md_undo_0 45 rfl) f_Md_385 rfl rfl ?_
    refine x_iconst (zdm d_Md_undo_0 46 rfl) (zIl rfl) ?_
    obtain ⟨g3, H⟩ := H
    refine x_isub (zdm d_Md_undo_0 47 rfl) g3 ?_
    refine x_putf (zdm d_Md_undo_0 48 rfl) f_Md_385 rfl ⟨rfl, trivial⟩ (Or.inl rfl) ?_
    refine x_iconst (zdm d_Md_undo_0 49 rfl) (zIl rfl) ?_
    exact x_ireturn (zdm d_Md_undo_0 50 rfl) (ty := .boolean) rfl (by decide) (Or.inr rfl) H
  · have H := H.2 c
    refine x_aload_n (zdm d_Md_undo_0 18 rfl) rfl (n := 0) rfl ?_
    refine x_getG (zdm d_Md_undo_0 19 rfl) f_Md_130 rfl rfl (by decide) hsl rfl ?_
    refine x_iload_n (zdm d_Md_undo_0 20 rfl) rfl (n := 1) rfl ?_
    refine x_aload_n (zdm d_Md_undo_0 21 rfl) rfl (n := 0) rfl ?_
    refine x_getG (zdm d_Md_undo_0 22 rfl) f_Md_155 rfl rfl (by decide) hsl rfl ?_
    refine x_bipush (zdm d_Md_undo_0 23 rfl) (by decide) ?_
    refine x_aload_n (zdm d_Md_undo_0 24 rfl) rfl (n := 0) rfl ?_
    refine x_getf (zdm d_Md_undo_0 25 rfl) f_Md_525 rfl rfl ?_
    obtain ⟨g4, H⟩ := H
    refine x_imul (zdm d_Md_undo_0 26 rfl) g4 ?_
    refine x_iload_n (zdm d_Md_undo_0 27 rfl) rfl (n := 1) rfl ?_
    obtain ⟨g5, H⟩ := H
    refine x_iadd (zdm d_Md_undo_0 28 rfl) g5 ?_
    obtain ⟨g6, H⟩ := H
    refine x_iald (zdm d_Md_undo_0 29 rfl) rfl g6 ?_
    obtain ⟨g7, H⟩ := H
    refine x_iast (zdm d_Md_undo_0 30 rfl) rfl g7 ?_
    obtain ⟨g8, H⟩ := H
    refine x_iinc (zdm d_Md_undo_0 31 rfl) (n := 1) rfl g8 (zlt rfl) rfl ?_
    refine x_goto (tgt := 21) (zdm d_Md_undo_0 32 rfl) (by decide) ?_
    exact zX.sub [1, 0] rfl H
set_option maxRecDepth 20000 in
set_option maxHeartbeats 4000000 in
theorem E_Md_undo {G : zG} {h sl : Nat} (hsl : 2 ≤ sl) {M : zM} {Q : Int → zM → Prop} (H : (¬ (M 125 66) = 0 → zX G (y_Md_undo, h, sl) (0, 0, 0, 0) 21 [(0, (2, 125)), (1, (0, 0))] [] M Q) ∧ (¬ (¬ (M 125 66) = 0) → (zI ((M 127 4) + 1)) ∧ (Q 0 (zwr M 127 4 ((M 127 4) + 1))))) : zCt G h sl 0 0 y_Md_undo [(2, 125)] M Q := by
  refine zCt.of (by decide +kernel) (Nat.le_of_ble_eq_true rfl) ?_
  refine x_aload_n (zdm d_Md_undo_0 0 rfl) rfl (n := 0) rfl ?_
  refine x_getf (zdm d_Md_undo_0 1 rfl) f_Md_385 rfl rfl ?_
  refine x_ifne (tgt := 19) (zdm d_Md_undo_0 2 rfl) (by decide) (fun c => ?_) (fun c => ?_)
  · have H := H.1 c
    refine x_iconst (zdm d_Md_undo_0 13 rfl) (zIl rfl) ?_
    refine x_istore_n (zdm d_Md_undo_0 14 rfl) rfl (zlt rfl) rfl ?_
    exact zX.sub [1, 0] rfl H
  · have H := H.2 c
    refine x_aload_n (zdm d_Md_undo_0 3 rfl) rfl (n := 0) rfl ?_
    refine x_getG (zdm d_Md_undo_0 4 rfl) f_Md_17 rfl rfl (by decide) hsl rfl ?_
    refine x_iconst (zdm d_Md_undo_0 5 rfl) (zIl rfl) ?_
    refine x_dup2 (zdm d_Md_undo_0 6 rfl) z0n1 z2n1 ?_
    refine x_iald (zdm d_Md_undo_0 7 rfl) rfl ⟨by decide, by decide⟩ ?_
    refine x_iconst (zdm d_Md_undo_0 8 rfl) (zIl rfl) ?_
    obtain ⟨g1, H⟩ := H
    refine x_iadd (zdm d_Md_undo_0 9 rfl) g1 ?_
    refine x_iast (zdm d_Md_undo_0 10 rfl) rfl ⟨by decide, by decide⟩ ?_
    refine x_iconst (zdm d_Md_undo_0 11 rfl) (zIl rfl) ?_
    exact x_ireturn (zdm d_Md_undo_0 12 rfl) (ty := .boolean) rfl (by decide) (Or.inl rfl) H
set_option maxRecDepth 20000 in
set_option maxHeartbeats 4000000 in
theorem E_Md_refuses {G : zG} {h sl : Nat} (hsl : 2 ≤ sl) {l1 : Int} {M : zM} {Q : Int → zM → Prop} (H : (0 ≤ l1 ∧ l1 < 6) ∧ ((zI ((M 127 l1) + 1)) ∧ (Q (-1) (zwr M 127 l1 ((M 127 l1) + 1))))) : zCt G h sl 0 0 y_Md_refuses [(2, 125), (0, l1)] M Q := by
  refine zCt.of (by decide +kernel) (Nat.le_of_ble_eq_true rfl) ?_
  refine x_aload_n (zdm d_Md_refuses_0 0 rfl) rfl (n := 0) rfl ?_
  refine x_getG (zdm d_Md_refuses_0 1 rfl) f_Md_17 rfl rfl (by decide) hsl rfl ?_
  refine x_iload_n (zdm d_Md_refuses_0 2 rfl) rfl (n := 1) rfl ?_
  refine x_dup2 (zdm d_Md_refuses_0 3 rfl) z0n1 z2n1 ?_
  obtain ⟨g1, H⟩ := H
  refine x_iald (zdm d_Md_refuses_0 4 rfl) rfl g1 ?_
  refine x_iconst (zdm d_Md_refuses_0 5 rfl) (zIl rfl) ?_
  obtain ⟨g2, H⟩ := H
  refine x_iadd (zdm d_Md_refuses_0 6 rfl) g2 ?_
  refine x_iast (zdm d_Md_refuses_0 7 rfl) rfl g1 ?_
  refine x_iconst (zdm d_Md_refuses_0 8 rfl) (zIl rfl) ?_
  exact x_iret (zdm d_Md_refuses_0 9 rfl) rfl H
set_option maxRecDepth 20000 in
set_option maxHeartbeats 4000000 in
theorem E_Md_isRefused {G : zG} {h sl : Nat} (hsl : 2 ≤ sl) {l1 : Int} {M : zM} {Q : Int → zM → Prop} (H : (0 ≤ l1 ∧ l1 < 6) ∧ ((zI ((M 127 l1) + 1)) ∧ (Q 0 (zwr M 127 l1 ((M 127 l1) + 1))))) : zCt G h sl 0 0 y_Md_isRefused [(2, 125), (0, l1)] M Q := by
  refine zCt.of (by decide +kernel) (Nat.le_of_ble_eq_true rfl) ?_
  refine x_aload_n (zdm d_Md_isRefused_0 0 rfl) rfl (n := 0) rfl ?_
  refine x_getG (zdm d_Md_isRefused_0 1 rfl) f_Md_17 rfl rfl (by decide) hsl rfl ?_
  refine x_iload_n (zdm d_Md_isRefused_0 2 rfl) rfl (n := 1) rfl ?_
  refine x_dup2 (zdm d_Md_isRefused_0 3 rfl) z0n1 z2n1 ?_
  obtain ⟨g1, H⟩ := H
  refine x_iald (zdm d_Md_isRefused_0 4 rfl) rfl g1 ?_
  refine x_iconst (zdm d_Md_isRefused_0 5 rfl) (zIl rfl) ?_
  obtain ⟨g2, H⟩ := H
  refine x_iadd (zdm d_Md_isRefused_0 6 rfl) g2 ?_
  refine x_iast (zdm d_Md_isRefused_0 7 rfl) rfl g1 ?_
  refine x_iconst (zdm d_Md_isRefused_0 8 rfl) (zIl rfl) ?_
  exact x_ireturn (zdm d_Md_isRefused_0 9 rfl) (ty := .boolean) rfl (by decide) (Or.inl rfl) H
set_option maxRecDepth 20000 in
set_option maxHeartbeats 4000000 in
theorem B_Md_write_26 {G : zG} {h sl : Nat} (hsl : 2 ≤ sl) {u : Nat × Nat × Nat × Nat} {l1 l2 l3 : Int} {M : zM} {Q : Int → zM → Prop} (H : (l1 ≤ l3 → Q l2 M) ∧ (¬ l1 ≤ l3 → zCt G h sl 0 0 y_Md_lineGoes [(2, 125)] M (fun r1 M2 => zCt G h sl 0 0 y_Md_isMarked [(2, 125)] M2 (fun r3 M4 => (¬ r3 = 0 → zCt G h sl 0 0 y_Md_isKept [(2, 125)] M4 (fun r6 M7 => (zI (l2 + 1)) ∧ ((zI (l3 + 1)) ∧ (zX G (y_Md_write, h + 1, sl) u 26 [(0, (2, 125)), (1, (0, l1)), (2, (0, (l2 + 1))), (3, (0, (l3 + 1)))] [] M7 Q)))) ∧ (¬ (¬ r3 = 0) → (zI (l3 + 1)) ∧ (zX G (y_Md_write, h + 1, sl) u 26 [(0, (2, 125)), (1, (0, l1)), (2, (0, l2)), (3, (0, (l3 + 1)))] [] M4 Q)))))) : zX G (y_Md_write, h + 1, sl) u 26 [(0, (2, 125)), (1, (0, l1)), (2, (0, l2)), (3, (0, l3))] [] M Q := by
  refine x_iload_n (zdm d_Md_write_0 17 rfl) rfl (n := 3) rfl ?_
  refine x_iload_n (zdm d_Md_write_0 18 rfl) rfl (n := 1) rfl ?_
  refine x_icmpge (tgt := 58) (zdm d_Md_write_0 19 rfl) (by decide) (fun c => ?_) (fun c => ?_)
  · have H := H.1 c
    refine x_iload_n (zdm d_Md_write_0 31 rfl) rfl (n := 2) rfl ?_
    exact x_iret (zdm d_Md_write_0 32 rfl) rfl H
  · have H := H.2 c
    refine x_aload_n (zdm d_Md_write_0 20 rfl) rfl (n := 0) rfl ?_
    refine x_callVv (n := 0) (ci := 11) (zdm d_Md_write_0 21 rfl) k_Md_446 (As := []) rfl rfl rfl ⟨_, _, rfl⟩ (Nat.le_of_ble_eq_true rfl) rfl H (fun r1 M2 hr H => ?_)
    refine x_aload_n (zdm d_Md_write_0 22 rfl) rfl (n := 0) rfl ?_
    refine x_callVi (n := 0) (ci := 11) (zdm d_Md_write_0 23 rfl) k_Md_463 (As := []) rfl rfl rfl ⟨_, _, rfl⟩ (Nat.le_of_ble_eq_true rfl) trivial H (fun r3 M4 hr H => ?_)
    have b5 : r3 = 0 ∨ r3 = 1 := hr
    refine x_ifne (tgt := 45) (zdm d_Md_write_0 24 rfl) (by decide) (fun c => ?_) (fun c => ?_)
    · have H := H.1 c
      refine x_aload_n (zdm d_Md_write_0 26 rfl) rfl (n := 0) rfl ?_
      refine x_callVv (n := 0) (ci := 11) (zdm d_Md_write_0 27 rfl) k_Md_531 (As := []) rfl rfl rfl ⟨_, _, rfl⟩ (Nat.le_of_ble_eq_true rfl) rfl H (fun r6 M7 hr H => ?_)
      obtain ⟨g8, H⟩ := H
      refine x_iinc (zdm d_Md_write_0 28 rfl) (n := 2) rfl g8 (zlt rfl) rfl ?_
      obtain ⟨g9, H⟩ := H
      refine x_iinc (zdm d_Md_write_0 29 rfl) (n := 3) rfl g9 (zlt rfl) rfl ?_
      refine x_goto (tgt := 26) (zdm d_Md_write_0 30 rfl) (by decide) ?_
      exact zX.sub [2, 3, 1, 0] rfl H
    · have H := H.2 c
      refine x_goto (tgt := 52) (zdm d_Md_write_0 25 rfl) (by decide) ?_
      obtain ⟨g10, H⟩ := H
      refine x_iinc (zdm d_Md_write_0 29 rfl) (n := 3) rfl g10 (zlt rfl) rfl ?_
      refine x_goto (tgt := 26) (zdm d_Md_write_0 30 rfl) (by decide) ?_
      exact zX.sub [1, 2, 3, 0] rfl H
set_option maxRecDepth 20000 in
set_option maxHeartbeats 4000000 in
theorem E_Md_write {G : zG} {h sl : Nat} (hsl : 2 ≤ sl) {l1 : Int} {M : zM} {Q : Int → zM → Prop} (H : zCt G h sl 0 0 y_Md_isAhead [(2, 125), (1, l1), (0, 1), (0, 100)] M (fun r1 M2 => (¬ r1 = 0 → zCt G h sl 0 0 y_Md_keeps [(2, 125)] M2 (fun r4 M5 => zX G (y_Md_write, h + 1, sl) (0, 0, 0, 0) 26 [(0, (2, 125)), (1, (0, l1)), (2, (0, 0)), (3, (0, 0))] [] M5 Q)) ∧ (¬ (¬ r1 = 0) → zCt G h sl 0 0 y_Md_refuses [(2, 125), (0, 3)] M2 (fun r6 M7 => Q r6 M7)))) : zCt G (h + 1) sl 0 0 y_Md_write [(2, 125), (0, l1)] M Q := by
  refine zCt.of (by decide +kernel) (Nat.le_of_ble_eq_true rfl) ?_
  refine x_aload_n (zdm d_Md_write_0 0 rfl) rfl (n := 0) rfl ?_
  refine x_iload_n (zdm d_Md_write_0 1 rfl) rfl (n := 1) rfl ?_
  refine x_i2l (zdm d_Md_write_0 2 rfl) ?_
  refine x_iconst (zdm d_Md_write_0 3 rfl) (zIl rfl) ?_
  refine x_bipush (zdm d_Md_write_0 4 rfl) (by decide) ?_
  refine x_callVi (n := 3) (ci := 11) (zdm d_Md_write_0 5 rfl) k_Md_489 (As := [(1, l1), (0, 1), (0, 100)]) rfl rfl rfl ⟨_, _, rfl⟩ (Nat.le_of_ble_eq_true rfl) trivial H (fun r1 M2 hr H => ?_)
  have b3 : r1 = 0 ∨ r1 = 1 := hr
  refine x_ifne (tgt := 18) (zdm d_Md_write_0 6 rfl) (by decide) (fun c => ?_) (fun c => ?_)
  · have H := H.1 c
    refine x_aload_n (zdm d_Md_write_0 11 rfl) rfl (n := 0) rfl ?_
    refine x_callVv (n := 0) (ci := 11) (zdm d_Md_write_0 12 rfl) k_Md_528 (As := []) rfl rfl rfl ⟨_, _, rfl⟩ (Nat.le_of_ble_eq_true rfl) rfl H (fun r4 M5 hr H => ?_)
    refine x_iconst (zdm d_Md_write_0 13 rfl) (zIl rfl) ?_
    refine x_istore_n (zdm d_Md_write_0 14 rfl) rfl (zlt rfl) rfl ?_
    refine x_iconst (zdm d_Md_write_0 15 rfl) (zIl rfl) ?_
    refine x_istore_n (zdm d_Md_write_0 16 rfl) rfl (zlt rfl) rfl ?_
    exact zX.sub [2, 3, 1, 0] rfl H
  · have H := H.2 c
    refine x_aload_n (zdm d_Md_write_0 7 rfl) rfl (n := 0) rfl ?_
    refine x_iconst (zdm d_Md_write_0 8 rfl) (zIl rfl) ?_
    refine x_callVi (n := 1) (ci := 11) (zdm d_Md_write_0 9 rfl) k_Md_368 (As := [(0, 3)]) rfl rfl rfl ⟨_, _, rfl⟩ (Nat.le_of_ble_eq_true rfl) trivial H (fun r6 M7 hr H => ?_)
    exact x_iret (zdm d_Md_write_0 10 rfl) rfl H
set_option maxRecDepth 20000 in
set_option maxHeartbeats 4000000 in
theorem B_Md_put_18 {G : zG} {h sl : Nat} (hsl : 2 ≤ sl) {u : Nat × Nat × Nat × Nat} {M : zM} {Q : Int → zM → Prop} (H : zCt G h sl 0 0 y_Md_isRefused [(2, 125), (0, 2)] M (fun r1 M2 => Q r1 M2)) : zX G (y_Md_put, h + 1, sl) u 18 [(0, (2, 125))] [] M Q := by
  refine x_aload_n (zdm d_Md_put_0 10 rfl) rfl (n := 0) rfl ?_
  refine x_iconst (zdm d_Md_put_0 11 rfl) (zIl rfl) ?_
  refine x_callVi (n := 1) (ci := 11) (zdm d_Md_put_0 12 rfl) k_Md_534 (As := [(0, 2)]) rfl rfl rfl ⟨_, _, rfl⟩ (Nat.le_of_ble_eq_true rfl) trivial H (fun r1 M2 hr H => ?_)
  have b3 : r1 = 0 ∨ r1 = 1 := hr
  exact x_ireturn (zdm d_Md_put_0 13 rfl) (ty := .boolean) rfl (by decide) b3 H
set_option maxRecDepth 20000 in
set_option maxHeartbeats 4000000 in
theorem E_Md_put {G : zG} {h sl : Nat} (hsl : 2 ≤ sl) {l1 l2 : Int} {M : zM} {Q : Int → zM → Prop} (H : zCt G h sl 0 0 y_Md_canTell [(2, 125), (0, l1), (0, l2)] M (fun r1 M2 => (r1 = 0 → zX G (y_Md_put, h + 1, sl) (0, 0, 0, 0) 18 [(0, (2, 125))] [] M2 Q) ∧ (¬ r1 = 0 → zCt G h sl 0 0 y_Md_valueOf [(2, 125), (0, l1)] M2 (fun r4 M5 => (¬ r4 = l2 → zCt G h sl 0 0 y_Md_keeps [(2, 125)] M5 (fun r6 M7 => (zI (1 + l1)) ∧ ((0 ≤ (1 + l1) ∧ (1 + l1) < 98) ∧ (Q 1 (zwr M7 164 (1 + l1) l2))))) ∧ (¬ (¬ r4 = l2) → zX G (y_Md_put, h + 1, sl) (0, 0, 0, 0) 18 [(0, (2, 125))] [] M5 Q))))) : zCt G (h + 1) sl 0 0 y_Md_put [(2, 125), (0, l1), (0, l2)] M Q := by
  refine zCt.of (by decide +kernel) (Nat.le_of_ble_eq_true rfl) ?_
  refine x_aload_n (zdm d_Md_put_0 0 rfl) rfl (n := 0) rfl ?_
  refine x_iload_n (zdm d_Md_put_0 1 rfl) rfl (n := 1) rfl ?_
  refine x_iload_n (zdm d_Md_put_0 2 rfl) rfl (n := 2) rfl ?_
  refine x_callVi (n := 2) (ci := 11) (zdm d_Md_put_0 3 rfl) k_Md_513 (As := [(0, l1), (0, l2)]) rfl rfl rfl ⟨_, _, rfl⟩ (Nat.le_of_ble_eq_true rfl) trivial H (fun r1 M2 hr H => ?_)
  have b3 : r1 = 0 ∨ r1 = 1 := hr
  refine x_ifeq (tgt := 18) (zdm d_Md_put_0 4 rfl) (by decide) (fun c => ?_) (fun c => ?_)
  · have H := H.1 c
    exact zX.sub [0] rfl H
  · have H := H.2 c
    refine x_aload_n (zdm d_Md_put_0 5 rfl) rfl (n := 0) rfl ?_
    refine x_iload_n (zdm d_Md_put_0 6 rfl) rfl (n := 1) rfl ?_
    refine x_callVi (n := 1) (ci := 11) (zdm d_Md_put_0 7 rfl) k_Md_430 (As := [(0, l1)]) rfl rfl rfl ⟨_, _, rfl⟩ (Nat.le_of_ble_eq_true rfl) trivial H (fun r4 M5 hr H => ?_)
    refine x_iload_n (zdm d_Md_put_0 8 rfl) rfl (n := 2) rfl ?_
    refine x_icmpne (tgt := 24) (zdm d_Md_put_0 9 rfl) (by decide) (fun c => ?_) (fun c => ?_)
    · have H := H.1 c
      refine x_aload_n (zdm d_Md_put_0 14 rfl) rfl (n := 0) rfl ?_
      refine x_callVv (n := 0) (ci := 11) (zdm d_Md_put_0 15 rfl) k_Md_528 (As := []) rfl rfl rfl ⟨_, _, rfl⟩ (Nat.le_of_ble_eq_true rfl) rfl H (fun r6 M7 hr H => ?_)
      refine x_aload_n (zdm d_Md_put_0 16 rfl) rfl (n := 0) rfl ?_
      refine x_getG (zdm d_Md_put_0 17 rfl) f_Md_130 rfl rfl (by decide) hsl rfl ?_
      refine x_iconst (zdm d_Md_put_0 18 rfl) (zIl rfl) ?_
      refine x_iload_n (zdm d_Md_put_0 19 rfl) rfl (n := 1) rfl ?_
      obtain ⟨g8, H⟩ := H
      refine x_iadd (zdm d_Md_put_0 20 rfl) g8 ?_
      refine x_iload_n (zdm d_Md_put_0 21 rfl) rfl (n := 2) rfl ?_
      obtain ⟨g9, H⟩ := H
      refine x_iast (zdm d_Md_put_0 22 rfl) rfl g9 ?_
      refine x_iconst (zdm d_Md_put_0 23 rfl) (zIl rfl) ?_
      exact x_ireturn (zdm d_Md_put_0 24 rfl) (ty := .boolean) rfl (by decide) (Or.inr rfl) H
    · have H := H.2 c
      exact zX.sub [0] rfl H
