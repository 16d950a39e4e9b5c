set_option maxRecDepth 20000 in
set_option maxHeartbeats 4000000 in
theorem B_Md_ask_171 {G : zG} {h sl : Nat} (hsl : 2 ≤ sl) {u : Nat × Nat × Nat × Nat} {l1 l2 : Int} {M : zM} {Q : Int → zM → Prop} (H : zCt G h sl 0 0 y_Md_columnMany [(2, 125)] M (fun r1 M2 => (r1 ≤ l2 → Q (M2 125 97) M2) ∧ (¬ r1 ≤ l2 → zCt G h sl 0 0 y_Md_qTold [(2, 125), (0, l2)] (zwr M2 125 53 l2) (fun r3 M4 => zCt G h sl 0 0 y_Md_qTakes [(2, 125), (0, l1), (1, r3), (0, l2)] M4 (fun r5 M6 => (zI (l2 + 1)) ∧ (zX G (y_Md_ask, h + 1, sl) u 171 [(0, (2, 125)), (1, (0, l1)), (2, (0, (l2 + 1)))] [] M6 Q)))))) : zX G (y_Md_ask, h + 1, sl) u 171 [(0, (2, 125)), (1, (0, l1)), (2, (0, l2))] [] M Q := by
  refine x_iload_n (zdm d_Md_ask_1 31 rfl) rfl (n := 2) rfl ?_
  refine x_aload_n (zdm d_Md_ask_1 32 rfl) rfl (n := 0) rfl ?_
  refine x_callVi (n := 0) (ci := 11) (zdm d_Md_ask_1 33 rfl) k_Md_391 (As := []) rfl rfl rfl ⟨_, _, rfl⟩ (Nat.le_of_ble_eq_true rfl) trivial H (fun r1 M2 hr H => ?_)
  refine x_icmpge (tgt := 201) (zdm d_Md_ask_1 34 rfl) (by decide) (fun c => ?_) (fun c => ?_)
  · have H := H.1 c
    refine x_aload_n (zdm d_Md_ask_1 47 rfl) rfl (n := 0) rfl ?_
    refine x_getf (zdm d_Md_ask_1 48 rfl) f_Md_620 rfl rfl ?_
    exact x_lreturn (zdm d_Md_ask_1 49 rfl) rfl H
  · have H := H.2 c
    refine x_aload_n (zdm d_Md_ask_1 35 rfl) rfl (n := 0) rfl ?_
    refine x_iload_n (zdm d_Md_ask_1 36 rfl) rfl (n := 2) rfl ?_
    refine x_putf (zdm d_Md_ask_1 37 rfl) f_Md_613 rfl ⟨rfl, trivial⟩ (Or.inl rfl) ?_
    refine x_aload_n (zdm d_Md_ask_1 38 rfl) rfl (n := 0) rfl ?_
    refine x_iload_n (zdm d_Md_ask_1 39 rfl) rfl (n := 1) rfl ?_
    refine x_aload_n (zdm d_Md_ask_1 40 rfl) rfl (n := 0) rfl ?_
    refine x_iload_n (zdm d_Md_ask_1 41 rfl) rfl (n := 2) rfl ?_
    refine x_callVl (n := 1) (ci := 11) (zdm d_Md_ask_1 42 rfl) k_Md_631 (As := [(0, l2)]) rfl rfl rfl ⟨_, _, rfl⟩ (Nat.le_of_ble_eq_true rfl) rfl H (fun r3 M4 hr H => ?_)
    refine x_iload_n (zdm d_Md_ask_1 43 rfl) rfl (n := 2) rfl ?_
    refine x_callVv (n := 3) (ci := 11) (zdm d_Md_ask_1 44 rfl) k_Md_634 (As := [(0, l1), (1, r3), (0, l2)]) rfl rfl rfl ⟨_, _, rfl⟩ (Nat.le_of_ble_eq_true rfl) rfl H (fun r5 M6 hr H => ?_)
    obtain ⟨g7, H⟩ := H
    refine x_iinc (zdm d_Md_ask_1 45 rfl) (n := 2) rfl g7 (zlt rfl) rfl ?_
    refine x_goto (tgt := 171) (zdm d_Md_ask_1 46 rfl) (by decide) ?_
    exact zX.sub [1, 2, 0] rfl H
set_option maxRecDepth 20000 in
set_option maxHeartbeats 4000000 in
theorem B_Md_ask_157 {G : zG} {h sl : Nat} (hsl : 2 ≤ sl) {u : Nat × Nat × Nat × Nat} {l1 s0 : Int} {M : zM} {Q : Int → zM → Prop} (H : zCt G h sl 0 0 y_Md_laysAhead [(2, 125)] (zwr (zwr M 125 97 s0) 125 98 1) (fun r1 M2 => zX G (y_Md_ask, h + 1, sl) u 171 [(0, (2, 125)), (1, (0, l1)), (2, (0, 0))] [] M2 Q)) : zX G (y_Md_ask, h + 1, sl) u 157 [(0, (2, 125)), (1, (0, l1))] [(1, s0), (2, 125)] M Q := by
  refine x_putf (zdm d_Md_ask_1 23 rfl) f_Md_620 rfl ⟨rfl, trivial⟩ (Or.inl rfl) ?_
  refine x_aload_n (zdm d_Md_ask_1 24 rfl) rfl (n := 0) rfl ?_
  refine x_iconst (zdm d_Md_ask_1 25 rfl) (zIl rfl) ?_
  refine x_putf (zdm d_Md_ask_1 26 rfl) f_Md_625 rfl ⟨rfl, (Or.inr rfl)⟩ (Or.inl rfl) ?_
  refine x_aload_n (zdm d_Md_ask_1 27 rfl) rfl (n := 0) rfl ?_
  refine x_callVv (n := 0) (ci := 11) (zdm d_Md_ask_1 28 rfl) k_Md_493 (As := []) rfl rfl rfl ⟨_, _, rfl⟩ (Nat.le_of_ble_eq_true rfl) rfl H (fun r1 M2 hr H => ?_)
  refine x_iconst (zdm d_Md_ask_1 29 rfl) (zIl rfl) ?_
  refine x_istore_n (zdm d_Md_ask_1 30 rfl) rfl (zlt rfl) rfl ?_
  exact zX.sub [1, 2, 0] rfl H
set_option maxRecDepth 20000 in
set_option maxHeartbeats 4000000 in
theorem B_Md_ask_117 {G : zG} {h sl : Nat} (hsl : 2 ≤ sl) {u : Nat × Nat × Nat × Nat} {l1 : Int} {M : zM} {Q : Int → zM → Prop} (H : (((zwr (zwr M 125 7 (M 125 5)) 125 8 ((zwr M 125 7 (M 125 5)) 125 6)) 125 5) = 0 → (2 ≤ l1 → zX G (y_Md_ask, h + 1, sl) u 157 [(0, (2, 125)), (1, (0, l1))] [(1, 0), (2, 125)] (zwr (zwr M 125 7 (M 125 5)) 125 8 ((zwr M 125 7 (M 125 5)) 125 6)) Q) ∧ (¬ 2 ≤ l1 → zX G (y_Md_ask, h + 1, sl) u 157 [(0, (2, 125)), (1, (0, l1))] [(1, (-1)), (2, 125)] (zwr (zwr M 125 7 (M 125 5)) 125 8 ((zwr M 125 7 (M 125 5)) 125 6)) Q)) ∧ (¬ ((zwr (zwr M 125 7 (M 125 5)) 125 8 ((zwr M 125 7 (M 125 5)) 125 6)) 125 5) = 0 → Q (-1000000000000000) (zwr (zwr M 125 7 (M 125 5)) 125 8 ((zwr M 125 7 (M 125 5)) 125 6)))) : zX G (y_Md_ask, h + 1, sl) u 117 [(0, (2, 125)), (1, (0, l1))] [] M Q := by
  refine x_aload_n (zdm d_Md_ask_1 3 rfl) rfl (n := 0) rfl ?_
  refine x_aload_n (zdm d_Md_ask_1 4 rfl) rfl (n := 0) rfl ?_
  refine x_getf (zdm d_Md_ask_1 5 rfl) f_Md_237 rfl rfl ?_
  refine x_putf (zdm d_Md_ask_1 6 rfl) f_Md_365 rfl ⟨rfl, trivial⟩ (Or.inl rfl) ?_
  refine x_aload_n (zdm d_Md_ask_1 7 rfl) rfl (n := 0) rfl ?_
  refine x_aload_n (zdm d_Md_ask_1 8 rfl) rfl (n := 0) rfl ?_
  refine x_getf (zdm d_Md_ask_1 9 rfl) f_Md_240 rfl rfl ?_
  refine x_putf (zdm d_Md_ask_1 10 rfl) f_Md_13 rfl ⟨rfl, trivial⟩ (Or.inl rfl) ?_
  refine x_aload_n (zdm d_Md_ask_1 11 rfl) rfl (n := 0) rfl ?_
  refine x_getf (zdm d_Md_ask_1 12 rfl) f_Md_237 rfl rfl ?_
  refine x_ifeq (tgt := 144) (zdm d_Md_ask_1 13 rfl) (by decide) (fun c => ?_) (fun c => ?_)
  · have H := H.1 c
    refine x_aload_n (zdm d_Md_ask_1 16 rfl) rfl (n := 0) rfl ?_
    refine x_iload_n (zdm d_Md_ask_1 17 rfl) rfl (n := 1) rfl ?_
    refine x_iconst (zdm d_Md_ask_1 18 rfl) (zIl rfl) ?_
    refine x_icmpge (tgt := 156) (zdm d_Md_ask_1 19 rfl) (by decide) (fun c => ?_) (fun c => ?_)
    · have H := H.1 c
      refine x_lconst (zdm d_Md_ask_1 22 rfl) (x := 0) rfl ?_
      exact H
    · have H := H.2 c
      refine x_ldc2 (zdm d_Md_ask_1 20 rfl) (n := (-1)) (zLl rfl) w_Md_623 ?_
      refine x_goto (tgt := 157) (zdm d_Md_ask_1 21 rfl) (by decide) ?_
      exact H
  · have H := H.2 c
    refine x_ldc2 (zdm d_Md_ask_1 14 rfl) (n := (-1000000000000000)) (zLl rfl) w_Md_478 ?_
    exact x_lreturn (zdm d_Md_ask_1 15 rfl) rfl H
set_option maxRecDepth 20000 in
set_option maxHeartbeats 4000000 in
theorem B_Md_ask_93 {G : zG} {h sl : Nat} (hsl : 2 ≤ sl) {u : Nat × Nat × Nat × Nat} {l1 : Int} {M : zM} {Q : Int → zM → Prop} (H : (¬ (M 125 5) = 0 → zX G (y_Md_ask, h + 1, sl) u 117 [(0, (2, 125)), (1, (0, l1))] [] M Q) ∧ (¬ (¬ (M 125 5) = 0) → zCt G h sl 0 0 y_Md_look [(2, 125)] M (fun r1 M2 => (r1 = (-1) → zX G (y_Md_ask, h + 1, sl) u 117 [(0, (2, 125)), (1, (0, l1))] [] M2 Q) ∧ (¬ r1 = (-1) → zCt G h sl 0 0 y_Md_fail [(2, 125), (0, 1), (0, (M2 125 2))] M2 (fun r3 M4 => zX G (y_Md_ask, h + 1, sl) u 117 [(0, (2, 125)), (1, (0, l1))] [] M4 Q))))) : zX G (y_Md_ask, h + 1, sl) u 93 [(0, (2, 125)), (1, (0, l1))] [] M Q := by
  refine x_aload_n (zdm d_Md_ask_0 51 rfl) rfl (n := 0) rfl ?_
  refine x_getf (zdm d_Md_ask_0 52 rfl) f_Md_237 rfl rfl ?_
  refine x_ifne (tgt := 117) (zdm d_Md_ask_0 53 rfl) (by decide) (fun c => ?_) (fun c => ?_)
  · have H := H.1 c
    exact H
  · have H := H.2 c
    refine x_aload_n (zdm d_Md_ask_0 54 rfl) rfl (n := 0) rfl ?_
    refine x_callVi (n := 0) (ci := 11) (zdm d_Md_ask_0 55 rfl) k_Md_249 (As := []) rfl rfl rfl ⟨_, _, rfl⟩ (Nat.le_of_ble_eq_true rfl) trivial H (fun r1 M2 hr H => ?_)
    refine x_iconst (zdm d_Md_ask_0 56 rfl) (zIl rfl) ?_
    refine x_icmpeq (tgt := 117) (zdm d_Md_ask_0 57 rfl) (by decide) (fun c => ?_) (fun c => ?_)
    · have H := H.1 c
      exact H
    · have H := H.2 c
      refine x_aload_n (zdm d_Md_ask_0 58 rfl) rfl (n := 0) rfl ?_
      refine x_iconst (zdm d_Md_ask_0 59 rfl) (zIl rfl) ?_
      refine x_aload_n (zdm d_Md_ask_1 0 rfl) rfl (n := 0) rfl ?_
      refine x_getf (zdm d_Md_ask_1 1 rfl) f_Md_243 rfl rfl ?_
      refine x_callVv (n := 2) (ci := 11) (zdm d_Md_ask_1 2 rfl) k_Md_267 (As := [(0, 1), (0, (M2 125 2))]) rfl rfl rfl ⟨_, _, rfl⟩ (Nat.le_of_ble_eq_true rfl) rfl H (fun r3 M4 hr H => ?_)
      exact H
set_option maxRecDepth 20000 in
set_option maxHeartbeats 4000000 in
theorem B_Md_ask_82 {G : zG} {h sl : Nat} (hsl : 2 ≤ sl) {u : Nat × Nat × Nat × Nat} {l1 : Int} {M : zM} {Q : Int → zM → Prop} (H : (¬ (M 125 5) = 0 → zX G (y_Md_ask, h + 1, sl) u 93 [(0, (2, 125)), (1, (0, l1))] [] M Q) ∧ (¬ (¬ (M 125 5) = 0) → zCt G h sl 0 0 y_Md_qSums [(2, 125)] M (fun r1 M2 => zX G (y_Md_ask, h + 1, sl) u 93 [(0, (2, 125)), (1, (0, l1))] [] M2 Q))) : zX G (y_Md_ask, h + 1, sl) u 82 [(0, (2, 125)), (1, (0, l1))] [] M Q := by
  refine x_aload_n (zdm d_Md_ask_0 46 rfl) rfl (n := 0) rfl ?_
  refine x_getf (zdm d_Md_ask_0 47 rfl) f_Md_237 rfl rfl ?_
  refine x_ifne (tgt := 93) (zdm d_Md_ask_0 48 rfl) (by decide) (fun c => ?_) (fun c => ?_)
  · have H := H.1 c
    exact H
  · have H := H.2 c
    refine x_aload_n (zdm d_Md_ask_0 49 rfl) rfl (n := 0) rfl ?_
    refine x_callVv (n := 0) (ci := 11) (zdm d_Md_ask_0 50 rfl) k_Md_331 (As := []) rfl rfl rfl ⟨_, _, rfl⟩ (Nat.le_of_ble_eq_true rfl) rfl H (fun r1 M2 hr H => ?_)
    exact H
set_option maxRecDepth 20000 in
set_option maxHeartbeats 4000000 in
theorem E_Md_ask {G : zG} {h sl : Nat} (hsl : 2 ≤ sl) {M : zM} {Q : Int → zM → Prop} (H : zCt G h sl 0 0 y_Md_qKind [(2, 125)] (zwr (zwr (zwr (zwr (zwr (zwr (zwr (zwr (zwr (zwr (zwr M 125 3 (M 125 1)) 125 1 0) 125 2 0) 125 4 (-1)) 125 5 0) 125 6 (-1)) 125 50 2) 125 90 0) 125 92 0) 125 93 0) 125 94 0) (fun r1 M2 => (¬ (M2 125 5) = 0 → zX G (y_Md_ask, h + 1, sl) (0, 0, 0, 0) 82 [(0, (2, 125)), (1, (0, r1))] [] M2 Q) ∧ (¬ (¬ (M2 125 5) = 0) → (3 ≤ r1 → zX G (y_Md_ask, h + 1, sl) (0, 0, 0, 0) 82 [(0, (2, 125)), (1, (0, r1))] [] M2 Q) ∧ (¬ 3 ≤ r1 → zCt G h sl 0 0 y_Md_qTest [(2, 125)] M2 (fun r3 M4 => zX G (y_Md_ask, h + 1, sl) (0, 0, 0, 0) 93 [(0, (2, 125)), (1, (0, r1))] [] M4 Q))))) : zCt G (h + 1) sl 0 0 y_Md_ask [(2, 125)] M Q := by
  refine zCt.of (by decide +kernel) (Nat.le_of_ble_eq_true rfl) ?_
  refine x_aload_n (zdm d_Md_ask_0 0 rfl) rfl (n := 0) rfl ?_
  refine x_aload_n (zdm d_Md_ask_0 1 rfl) rfl (n := 0) rfl ?_
  refine x_getf (zdm d_Md_ask_0 2 rfl) f_Md_234 rfl rfl ?_
  refine x_putf (zdm d_Md_ask_0 3 rfl) f_Md_246 rfl ⟨rfl, trivial⟩ (Or.inl rfl) ?_
  refine x_aload_n (zdm d_Md_ask_0 4 rfl) rfl (n := 0) rfl ?_
  refine x_iconst (zdm d_Md_ask_0 5 rfl) (zIl rfl) ?_
  refine x_putf (zdm d_Md_ask_0 6 rfl) f_Md_234 rfl ⟨rfl, trivial⟩ (Or.inl rfl) ?_
  refine x_aload_n (zdm d_Md_ask_0 7 rfl) rfl (n := 0) rfl ?_
  refine x_iconst (zdm d_Md_ask_0 8 rfl) (zIl rfl) ?_
  refine x_putf (zdm d_Md_ask_0 9 rfl) f_Md_243 rfl ⟨rfl, trivial⟩ (Or.inl rfl) ?_
  refine x_aload_n (zdm d_Md_ask_0 10 rfl) rfl (n := 0) rfl ?_
  refine x_iconst (zdm d_Md_ask_0 11 rfl) (zIl rfl) ?_
  refine x_putf (zdm d_Md_ask_0 12 rfl) f_Md_257 rfl ⟨rfl, trivial⟩ (Or.inl rfl) ?_
  refine x_aload_n (zdm d_Md_ask_0 13 rfl) rfl (n := 0) rfl ?_
  refine x_iconst (zdm d_Md_ask_0 14 rfl) (zIl rfl) ?_
  refine x_putf (zdm d_Md_ask_0 15 rfl) f_Md_237 rfl ⟨rfl, trivial⟩ (Or.inl rfl) ?_
  refine x_aload_n (zdm d_Md_ask_0 16 rfl) rfl (n := 0) rfl ?_
  refine x_iconst (zdm d_Md_ask_0 17 rfl) (zIl rfl) ?_
  refine x_putf (zdm d_Md_ask_0 18 rfl) f_Md_240 rfl ⟨rfl, trivial⟩ (Or.inl rfl) ?_
  refine x_aload_n (zdm d_Md_ask_0 19 rfl) rfl (n := 0) rfl ?_
  refine x_iconst (zdm d_Md_ask_0 20 rfl) (zIl rfl) ?_
  refine x_putf (zdm d_Md_ask_0 21 rfl) f_Md_295 rfl ⟨rfl, trivial⟩ (Or.inl rfl) ?_
  refine x_aload_n (zdm d_Md_ask_0 22 rfl) rfl (n := 0) rfl ?_
  refine x_iconst (zdm d_Md_ask_0 23 rfl) (zIl rfl) ?_
  refine x_putf (zdm d_Md_ask_0 24 rfl) f_Md_316 rfl ⟨rfl, trivial⟩ (Or.inl rfl) ?_
  refine x_aload_n (zdm d_Md_ask_0 25 rfl) rfl (n := 0) rfl ?_
  refine x_iconst (zdm d_Md_ask_0 26 rfl) (zIl rfl) ?_
  refine x_putf (zdm d_Md_ask_0 27 rfl) f_Md_319 rfl ⟨rfl, trivial⟩ (Or.inl rfl) ?_
  refine x_aload_n (zdm d_Md_ask_0 28 rfl) rfl (n := 0) rfl ?_
  refine x_iconst (zdm d_Md_ask_0 29 rfl) (zIl rfl) ?_
  refine x_putf (zdm d_Md_ask_0 30 rfl) f_Md_322 rfl ⟨rfl, trivial⟩ (Or.inl rfl) ?_
  refine x_aload_n (zdm d_Md_ask_0 31 rfl) rfl (n := 0) rfl ?_
  refine x_iconst (zdm d_Md_ask_0 32 rfl) (zIl rfl) ?_
  refine x_putf (zdm d_Md_ask_0 33 rfl) f_Md_325 rfl ⟨rfl, trivial⟩ (Or.inl rfl) ?_
  refine x_aload_n (zdm d_Md_ask_0 34 rfl) rfl (n := 0) rfl ?_
  refine x_callVi (n := 0) (ci := 11) (zdm d_Md_ask_0 35 rfl) k_Md_628 (As := []) rfl rfl rfl ⟨_, _, rfl⟩ (Nat.le_of_ble_eq_true rfl) trivial H (fun r1 M2 hr H => ?_)
  refine x_istore_n (zdm d_Md_ask_0 36 rfl) rfl (zlt rfl) rfl ?_
  refine x_aload_n (zdm d_Md_ask_0 37 rfl) rfl (n := 1) rfl ?_
  refine x_getf (zdm d_Md_ask_0 38 rfl) f_Md_237 rfl rfl ?_
  refine x_ifne (tgt := 82) (zdm d_Md_ask_0 39 rfl) (by decide) (fun c => ?_) (fun c => ?_)
  · have H := H.1 c
    exact zX.sub [1, 0] rfl H
  · have H := H.2 c
    refine x_iload_n (zdm d_Md_ask_0 40 rfl) rfl (n := 0) rfl ?_
    refine x_iconst (zdm d_Md_ask_0 41 rfl) (zIl rfl) ?_
    refine x_icmpge (tgt := 82) (zdm d_Md_ask_0 42 rfl) (by decide) (fun c => ?_) (fun c => ?_)
    · have H := H.1 c
      exact zX.sub [1, 0] rfl H
    · have H := H.2 c
      refine x_aload_n (zdm d_Md_ask_0 43 rfl) rfl (n := 1) rfl ?_
      refine x_callVv (n := 0) (ci := 11) (zdm d_Md_ask_0 44 rfl) k_Md_328 (As := []) rfl rfl rfl ⟨_, _, rfl⟩ (Nat.le_of_ble_eq_true rfl) rfl H (fun r3 M4 hr H => ?_)
      refine x_goto (tgt := 93) (zdm d_Md_ask_0 45 rfl) (by decide) ?_
      exact zX.sub [1, 0] rfl H
set_option maxRecDepth 20000 in
set_option maxHeartbeats 4000000 in
theorem B_Md_checked_6 {G : zG} {h sl : Nat} (hsl : 2 ≤ sl) {u : Nat × Nat × Nat × Nat} {l0 l1 l2 l3 : Int} {M : zM} {Q : Int → zM → Prop} (H : (l1 ≤ l3 → Q l2 M) ∧ (¬ l1 ≤ l3 → (zI (3 * l2)) ∧ (((zK l0).1 = 100) ∧ ((0 ≤ l3 ∧ l3 < (zK l0).2) ∧ ((zI ((3 * l2) + (M l0 l3))) ∧ ((zI (l3 + 1)) ∧ (zX G (y_Md_checked, h, sl) u 6 [(0, (2, l0)), (1, (0, l1)), (2, (0, (Int.tmod ((3 * l2) + (M l0 l3)) 251))), (3, (0, (l3 + 1)))] [] M Q))))))) : zX G (y_Md_checked, h, sl) u 6 [(0, (2, l0)), (1, (0, l1)), (2, (0, l2)), (3, (0, l3))] [] M Q := by
  refine x_iload_n (zdm d_Md_checked_0 4 rfl) rfl (n := 3) rfl ?_
  refine x_iload_n (zdm d_Md_checked_0 5 rfl) rfl (n := 1) rfl ?_
  refine x_icmpge (tgt := 29) (zdm d_Md_checked_0 6 rfl) (by decide) (fun c => ?_) (fun c => ?_)
  · have H := H.1 c
    refine x_iload_n (zdm d_Md_checked_0 19 rfl) rfl (n := 2) rfl ?_
    exact x_iret (zdm d_Md_checked_0 20 rfl) rfl H
  · have H := H.2 c
    refine x_iconst (zdm d_Md_checked_0 7 rfl) (zIl rfl) ?_
    refine x_iload_n (zdm d_Md_checked_0 8 rfl) rfl (n := 2) rfl ?_
    obtain ⟨g1, H⟩ := H
    refine x_imul (zdm d_Md_checked_0 9 rfl) g1 ?_
    refine x_aload_n (zdm d_Md_checked_0 10 rfl) rfl (n := 0) rfl ?_
    refine x_iload_n (zdm d_Md_checked_0 11 rfl) rfl (n := 3) rfl ?_
    obtain ⟨g2, H⟩ := H
    obtain ⟨g3, H⟩ := H
    refine x_iald (zdm d_Md_checked_0 12 rfl) (zKe g2) g3 ?_
    obtain ⟨g4, H⟩ := H
    refine x_iadd (zdm d_Md_checked_0 13 rfl) g4 ?_
    refine x_sipush (zdm d_Md_checked_0 14 rfl) (by decide) ?_
    refine x_irem (zdm d_Md_checked_0 15 rfl) (by decide) ?_
    refine x_istore_n (zdm d_Md_checked_0 16 rfl) rfl (zlt rfl) rfl ?_
    obtain ⟨g5, H⟩ := H
    refine x_iinc (zdm d_Md_checked_0 17 rfl) (n := 3) rfl g5 (zlt rfl) rfl ?_
    refine x_goto (tgt := 6) (zdm d_Md_checked_0 18 rfl) (by decide) ?_
    exact zX.sub [2, 3, 1, 0] rfl H
set_option maxRecDepth 20000 in
set_option maxHeartbeats 4000000 in
theorem E_Md_checked {G : zG} {h sl : Nat} (hsl : 2 ≤ sl) {l0 l1 : Int} {M : zM} {Q : Int → zM → Prop} (H : zX G (y_Md_checked, h, sl) (0, 0, 0, 0) 6 [(0, (2, l0)), (1, (0, l1)), (2, (0, 181)), (3, (0, 0))] [] M Q) : zCt G h sl 0 0 y_Md_checked [(2, l0), (0, l1)] M Q := by
  refine zCt.of (by decide +kernel) (Nat.le_of_ble_eq_true rfl) ?_
  refine x_sipush (zdm d_Md_checked_0 0 rfl) (by decide) ?_
  refine x_istore_n (zdm d_Md_checked_0 1 rfl) rfl (zlt rfl) rfl ?_
  refine x_iconst (zdm d_Md_checked_0 2 rfl) (zIl rfl) ?_
  refine x_istore_n (zdm d_Md_checked_0 3 rfl) rfl (zlt rfl) rfl ?_
  exact zX.sub [2, 3, 1, 0] rfl H
set_option maxRecDepth 20000 in
set_option maxHeartbeats 4000000 in
theorem E_Md_writes {G : zG} {h sl : Nat} (hsl : 2 ≤ sl) {l1 : Int} {M : zM} {Q : Int → zM → Prop} (H : (0 ≤ (M 125 100) ∧ (M 125 100) < 35) ∧ ((zI (((zwr M 196 (M 125 100) l1) 125 100) + 1)) ∧ (Q 0 (zwr (zwr M 196 (M 125 100) l1) 125 100 (((zwr M 196 (M 125 100) l1) 125 100) + 1))))) : zCt G h sl 0 0 y_Md_writes [(2, 125), (0, l1)] M Q := by
  refine zCt.of (by decide +kernel) (Nat.le_of_ble_eq_true rfl) ?_
  refine x_aload_n (zdm d_Md_writes_0 0 rfl) rfl (n := 0) rfl ?_
  refine x_getG (zdm d_Md_writes_0 1 rfl) f_Md_231 rfl rfl (by decide) hsl rfl ?_
  refine x_aload_n (zdm d_Md_writes_0 2 rfl) rfl (n := 0) rfl ?_
  refine x_getf (zdm d_Md_writes_0 3 rfl) f_Md_638 rfl rfl ?_
  refine x_iload_n (zdm d_Md_writes_0 4 rfl) rfl (n := 1) rfl ?_
  obtain ⟨g1, H⟩ := H
  refine x_iast (zdm d_Md_writes_0 5 rfl) rfl g1 ?_
  refine x_aload_n (zdm d_Md_writes_0 6 rfl) rfl (n := 0) rfl ?_
  refine x_dup (zdm d_Md_writes_0 7 rfl) z2n1 ?_
  refine x_getf (zdm d_Md_writes_0 8 rfl) f_Md_638 rfl rfl ?_
  refine x_iconst (zdm d_Md_writes_0 9 rfl) (zIl rfl) ?_
  obtain ⟨g2, H⟩ := H
  refine x_iadd (zdm d_Md_writes_0 10 rfl) g2 ?_
  refine x_putf (zdm d_Md_writes_0 11 rfl) f_Md_638 rfl ⟨rfl, trivial⟩ (Or.inl rfl) ?_
  exact x_return (zdm d_Md_writes_0 12 rfl) rfl H
set_option maxRecDepth 20000 in
set_option maxHeartbeats 4000000 in
theorem E_Md_writesTwo {G : zG} {h sl : Nat} (hsl : 2 ≤ sl) {l1 : Int} {M : zM} {Q : Int → zM → Prop} (H : (zI (Int.tdiv l1 256)) ∧ (zCt G h sl 0 0 y_Md_writes [(2, 125), (0, (Int.tdiv l1 256))] M (fun r2 M3 => zCt G h sl 0 0 y_Md_writes [(2, 125), (0, (Int.tmod l1 256))] M3 (fun r4 M5 => Q 0 M5)))) : zCt G (h + 1) sl 0 0 y_Md_writesTwo [(2, 125), (0, l1)] M Q := by
  refine zCt.of (by decide +kernel) (Nat.le_of_ble_eq_true rfl) ?_
  refine x_aload_n (zdm d_Md_writesTwo_0 0 rfl) rfl (n := 0) rfl ?_
  refine x_iload_n (zdm d_Md_writesTwo_0 1 rfl) rfl (n := 1) rfl ?_
  refine x_sipush (zdm d_Md_writesTwo_0 2 rfl) (by decide) ?_
  obtain ⟨g1, H⟩ := H
  refine x_idiv (zdm d_Md_writesTwo_0 3 rfl) (by decide) g1 ?_
  refine x_callVv (n := 1) (ci := 11) (zdm d_Md_writesTwo_0 4 rfl) k_Md_641 (As := [(0, (Int.tdiv l1 256))]) rfl rfl rfl ⟨_, _, rfl⟩ (Nat.le_of_ble_eq_true rfl) rfl H (fun r2 M3 hr H => ?_)
  refine x_aload_n (zdm d_Md_writesTwo_0 5 rfl) rfl (n := 0) rfl ?_
  refine x_iload_n (zdm d_Md_writesTwo_0 6 rfl) rfl (n := 1) rfl ?_
  refine x_sipush (zdm d_Md_writesTwo_0 7 rfl) (by decide) ?_
  refine x_irem (zdm d_Md_writesTwo_0 8 rfl) (by decide) ?_
  refine x_callVv (n := 1) (ci := 11) (zdm d_Md_writesTwo_0 9 rfl) k_Md_641 (As := [(0, (Int.tmod l1 256))]) rfl rfl rfl ⟨_, _, rfl⟩ (Nat.le_of_ble_eq_true rfl) rfl H (fun r4 M5 hr H => ?_)
  exact x_return (zdm d_Md_writesTwo_0 10 rfl) rfl H
set_option maxRecDepth 20000 in
set_option maxHeartbeats 4000000 in
theorem E_Md_twoAt {G : zG} {h sl : Nat} (hsl : 2 ≤ sl) {l1 : Int} {M : zM} {Q : Int → zM → Prop} (H : (0 ≤ l1 ∧ l1 < 1600) ∧ ((zI (256 * (M 126 l1))) ∧ ((zI (l1 + 1)) ∧ ((0 ≤ (l1 + 1) ∧ (l1 + 1) < 1600) ∧ ((zI ((256 * (M 126 l1)) + (M 126 (l1 + 1)))) ∧ (Q ((256 * (M 126 l1)) + (M 126 (l1 + 1))) M)))))) : zCt G h sl 0 0 y_Md_twoAt [(2, 125), (0, l1)] M Q := by
  refine zCt.of (by decide +kernel) (Nat.le_of_ble_eq_true rfl) ?_
  refine x_sipush (zdm d_Md_twoAt_0 0 rfl) (by decide) ?_
  refine x_aload_n (zdm d_Md_twoAt_0 1 rfl) rfl (n := 0) rfl ?_
  refine x_getG (zdm d_Md_twoAt_0 2 rfl) f_Md_7 rfl rfl (by decide) hsl rfl ?_
  refine x_iload_n (zdm d_Md_twoAt_0 3 rfl) rfl (n := 1) rfl ?_
  obtain ⟨g1, H⟩ := H
  refine x_iald (zdm d_Md_twoAt_0 4 rfl) rfl g1 ?_
  obtain ⟨g2, H⟩ := H
  refine x_imul (zdm d_Md_twoAt_0 5 rfl) g2 ?_
  refine x_aload_n (zdm d_Md_twoAt_0 6 rfl) rfl (n := 0) rfl ?_
  refine x_getG (zdm d_Md_twoAt_0 7 rfl) f_Md_7 rfl rfl (by decide) hsl rfl ?_
  refine x_iload_n (zdm d_Md_twoAt_0 8 rfl) rfl (n := 1) rfl ?_
  refine x_iconst (zdm d_Md_twoAt_0 9 rfl) (zIl rfl) ?_
  obtain ⟨g3, H⟩ := H
  refine x_iadd (zdm d_Md_twoAt_0 10 rfl) g3 ?_
  obtain ⟨g4, H⟩ := H
  refine x_iald (zdm d_Md_twoAt_0 11 rfl) rfl g4 ?_
  obtain ⟨g5, H⟩ := H
  refine x_iadd (zdm d_Md_twoAt_0 12 rfl) g5 ?_
  exact x_iret (zdm d_Md_twoAt_0 13 rfl) rfl H
set_option maxRecDepth 20000 in
set_option maxHeartbeats 4000000 in
theorem E_Md_octet {G : zG} {h sl : Nat} (hsl : 2 ≤ sl) {l1 : Int} {M : zM} {Q : Int → zM → Prop} (H : (l1 < 0 → Q (-1) M) ∧ (¬ l1 < 0 → ((M 125 100) ≤ l1 → Q (-1) M) ∧ (¬ (M 125 100) ≤ l1 → (0 ≤ l1 ∧ l1 < 35) ∧ (Q (M 196 l1) M)))) : zCt G h sl 0 0 y_Md_octet [(2, 125), (0, l1)] M Q := by
  refine zCt.of (by decide +kernel) (Nat.le_of_ble_eq_true rfl) ?_
  refine x_iload_n (zdm d_Md_octet_0 0 rfl) rfl (n := 1) rfl ?_
  refine x_iflt (tgt := 21) (zdm d_Md_octet_0 1 rfl) (by decide) (fun c => ?_) (fun c => ?_)
  · have H := H.1 c
    refine x_iconst (zdm d_Md_octet_0 11 rfl) (zIl rfl) ?_
    exact x_iret (zdm d_Md_octet_0 12 rfl) rfl H
  · have H := H.2 c
    refine x_iload_n (zdm d_Md_octet_0 2 rfl) rfl (n := 1) rfl ?_
    refine x_aload_n (zdm d_Md_octet_0 3 rfl) rfl (n := 0) rfl ?_
    refine x_getf (zdm d_Md_octet_0 4 rfl) f_Md_638 rfl rfl ?_
    refine x_icmpge (tgt := 21) (zdm d_Md_octet_0 5 rfl) (by decide) (fun c => ?_) (fun c => ?_)
    · have H := H.1 c
      refine x_iconst (zdm d_Md_octet_0 11 rfl) (zIl rfl) ?_
      exact x_iret (zdm d_Md_octet_0 12 rfl) rfl H
    · have H := H.2 c
      refine x_aload_n (zdm d_Md_octet_0 6 rfl) rfl (n := 0) rfl ?_
      refine x_getG (zdm d_Md_octet_0 7 rfl) f_Md_231 rfl rfl (by decide) hsl rfl ?_
      refine x_iload_n (zdm d_Md_octet_0 8 rfl) rfl (n := 1) rfl ?_
      obtain ⟨g1, H⟩ := H
      refine x_iald (zdm d_Md_octet_0 9 rfl) rfl g1 ?_
      refine x_goto (tgt := 22) (zdm d_Md_octet_0 10 rfl) (by decide) ?_
      exact x_iret (zdm d_Md_octet_0 12 rfl) rfl H
set_option maxRecDepth 20000 in
set_option maxHeartbeats 4000000 in
theorem E_Md_status {G : zG} {h sl : Nat} (hsl : 2 ≤ sl) {l1 : Int} {M : zM} {Q : Int → zM → Prop} (H : zCt G h sl 0 0 y_Md_isIn [(1, l1), (1, 0), (1, 5)] M (fun r1 M2 => (r1 = 0 → Q (-1) M2) ∧ (¬ r1 = 0 → (0 ≤ l1 ∧ l1 < 6) ∧ (Q (M2 127 l1) M2)))) : zCt G (h + 1) sl 0 0 y_Md_status [(2, 125), (0, l1)] M Q := by
  refine zCt.of (by decide +kernel) (Nat.le_of_ble_eq_true rfl) ?_
  refine x_iload_n (zdm d_Md_status_0 0 rfl) rfl (n := 1) rfl ?_
  refine x_i2l (zdm d_Md_status_0 1 rfl) ?_
  refine x_lconst (zdm d_Md_status_0 2 rfl) (x := 0) rfl ?_
  refine x_ldc2 (zdm d_Md_status_0 3 rfl) (n := 5) (zLl rfl) w_Md_470 ?_
  refine x_callSi (n := 3) (zdm d_Md_status_0 4 rfl) k_Md_280 (As := [(1, l1), (1, 0), (1, 5)]) rfl rfl (Nat.le_of_ble_eq_true rfl) trivial H (fun r1 M2 hr H => ?_)
  have b3 : r1 = 0 ∨ r1 = 1 := hr
  refine x_ifeq (tgt := 21) (zdm d_Md_status_0 5 rfl) (by decide) (fun c => ?_) (fun c => ?_)
  · have H := H.1 c
    refine x_iconst (zdm d_Md_status_0 11 rfl) (zIl rfl) ?_
    exact x_iret (zdm d_Md_status_0 12 rfl) rfl H
  · have H := H.2 c
    refine x_aload_n (zdm d_Md_status_0 6 rfl) rfl (n := 0) rfl ?_
    refine x_getG (zdm d_Md_status_0 7 rfl) f_Md_17 rfl rfl (by decide) hsl rfl ?_
    refine x_iload_n (zdm d_Md_status_0 8 rfl) rfl (n := 1) rfl ?_
    obtain ⟨g4, H⟩ := H
    refine x_iald (zdm d_Md_status_0 9 rfl) rfl g4 ?_
    refine x_goto (tgt := 22) (zdm d_Md_status_0 10 rfl) (by decide) ?_
    exact x_iret (zdm d_Md_status_0 12 rfl) rfl H
set_option maxRecDepth 20000 in
set_option maxHeartbeats 4000000 in
theorem B_Md_image_17 {G : zG} {h sl : Nat} (hsl : 2 ≤ sl) {u : Nat × Nat × Nat × Nat} {l1 : Int} {M : zM} {Q : Int → zM → Prop} (H : zCt G h sl 0 0 y_Md_columnMany [(2, 125)] M (fun r1 M2 => (r1 ≤ l1 → zCt G h sl 0 0 y_Md_checked [(2, 196), (0, (M2 125 100))] M2 (fun r3 M4 => zCt G h sl 0 0 y_Md_writes [(2, 125), (0, r3)] M4 (fun r5 M6 => Q (M6 125 100) M6))) ∧ (¬ r1 ≤ l1 → zCt G h sl 0 0 y_Md_valueOf [(2, 125), (0, l1)] M2 (fun r7 M8 => (zI (r7 + 1000000)) ∧ ((zI (Int.tdiv (r7 + 1000000) 65536)) ∧ (zCt G h sl 0 0 y_Md_writes [(2, 125), (0, (Int.tdiv (r7 + 1000000) 65536))] M8 (fun r11 M12 => zCt G h sl 0 0 y_Md_writesTwo [(2, 125), (0, (Int.tmod (r7 + 1000000) 65536))] M12 (fun r13 M14 => (zI (9 + l1)) ∧ ((0 ≤ (9 + l1) ∧ (9 + l1) < 98) ∧ (zCt G h sl 0 0 y_Md_writes [(2, 125), (0, (M14 164 (9 + l1)))] M14 (fun r17 M18 => (zI (l1 + 1)) ∧ (zX G (y_Md_image, h + 1, sl) u 17 [(0, (2, 125)), (1, (0, (l1 + 1)))] [] M18 Q)))))))))))) : zX G (y_Md_image, h + 1, sl) u 17 [(0, (2, 125)), (1, (0, l1))] [] M Q := by
  refine x_iload_n (zdm d_Md_image_0 11 rfl) rfl (n := 1) rfl ?_
  refine x_aload_n (zdm d_Md_image_0 12 rfl) rfl (n := 0) rfl ?_
  refine x_callVi (n := 0) (ci := 11) (zdm d_Md_image_0 13 rfl) k_Md_391 (As := []) rfl rfl rfl ⟨_, _, rfl⟩ (Nat.le_of_ble_eq_true rfl) trivial H (fun r1 M2 hr H => ?_)
  refine x_icmpge (tgt := 72) (zdm d_Md_image_0 14 rfl) (by decide) (fun c => ?_) (fun c => ?_)
  · have H := H.1 c
    refine x_aload_n (zdm d_Md_image_0 41 rfl) rfl (n := 0) rfl ?_
    refine x_aload_n (zdm d_Md_image_0 42 rfl) rfl (n := 0) rfl ?_
    refine x_getG (zdm d_Md_image_0 43 rfl) f_Md_231 rfl rfl (by decide) hsl rfl ?_
    refine x_aload_n (zdm d_Md_image_0 44 rfl) rfl (n := 0) rfl ?_
    refine x_getf (zdm d_Md_image_0 45 rfl) f_Md_638 rfl rfl ?_
    refine x_callSi (n := 2) (zdm d_Md_image_0 46 rfl) k_Md_648 (As := [(2, 196), (0, (M2 125 100))]) rfl rfl (Nat.le_of_ble_eq_true rfl) trivial H (fun r3 M4 hr H => ?_)
    refine x_callVv (n := 1) (ci := 11) (zdm d_Md_image_0 47 rfl) k_Md_641 (As := [(0, r3)]) rfl rfl rfl ⟨_, _, rfl⟩ (Nat.le_of_ble_eq_true rfl) rfl H (fun r5 M6 hr H => ?_)
    refine x_aload_n (zdm d_Md_image_0 48 rfl) rfl (n := 0) rfl ?_
    refine x_getf (zdm d_Md_image_0 49 rfl) f_Md_638 rfl rfl ?_
    exact x_iret (zdm d_Md_image_0 50 rfl) rfl H
  · have H := H.2 c
    refine x_aload_n (zdm d_Md_image_0 15 rfl) rfl (n := 0) rfl ?_
    refine x_iload_n (zdm d_Md_image_0 16 rfl) rfl (n := 1) rfl ?_
    refine x_callVi (n := 1) (ci := 11) (zdm d_Md_image_0 17 rfl) k_Md_430 (As := [(0, l1)]) rfl rfl rfl ⟨_, _, rfl⟩ (Nat.le_of_ble_eq_true rfl) trivial H (fun r7 M8 hr H => ?_)
    refine x_ldcw (zdm d_Md_image_0 18 rfl) (n := 1000000) (zIl rfl) w_Md_420 ?_
    obtain ⟨g9, H⟩ := H
    refine x_iadd (zdm d_Md_image_0 19 rfl) g9 ?_
    refine x_istore_n (zdm d_Md_image_0 20 rfl) rfl (zlt rfl) rfl ?_
    refine x_aload_n (zdm d_Md_image_0 21 rfl) rfl (n := 1) rfl ?_
    refine x_iload_n (zdm d_Md_image_0 22 rfl) rfl (n := 0) rfl ?_
    refine x_ldcw (zdm d_Md_image_0 23 rfl) (n := 65536) (zIl rfl) w_Md_647 ?_
    obtain ⟨g10, H⟩ := H
    refine x_idiv (zdm d_Md_image_0 24 rfl) (by decide) g10 ?_
    refine x_callVv (n := 1) (ci := 11) (zdm d_Md_image_0 25 rfl) k_Md_641 (As := [(0, (Int.tdiv (r7 + 1000000) 65536))]) rfl rfl rfl ⟨_, _, rfl⟩ (Nat.le_of_ble_eq_true rfl) rfl H (fun r11 M12 hr H => ?_)
    refine x_aload_n (zdm d_Md_image_0 26 rfl) rfl (n := 1) rfl ?_
    refine x_iload_n (zdm d_Md_image_0 27 rfl) rfl (n := 0) rfl ?_
    refine x_ldcw (zdm d_Md_image_0 28 rfl) (n := 65536) (zIl rfl) w_Md_647 ?_
    refine x_irem (zdm d_Md_image_0 29 rfl) (by decide) ?_
    refine x_callVv (n := 1) (ci := 11) (zdm d_Md_image_0 30 rfl) k_Md_644 (As := [(0, (Int.tmod (r7 + 1000000) 65536))]) rfl rfl rfl ⟨_, _, rfl⟩ (Nat.le_of_ble_eq_true rfl) rfl H (fun r13 M14 hr H => ?_)
    refine x_aload_n (zdm d_Md_image_0 31 rfl) rfl (n := 1) rfl ?_
    refine x_aload_n (zdm d_Md_image_0 32 rfl) rfl (n := 1) rfl ?_
    refine x_getG (zdm d_Md_image_0 33 rfl) f_Md_130 rfl rfl (by decide) hsl rfl ?_
    refine x_bipush (zdm d_Md_image_0 34 rfl) (by decide) ?_
    refine x_iload_n (zdm d_Md_image_0 35 rfl) rfl (n := 2) rfl ?_
    obtain ⟨g15, H⟩ := H
    refine x_iadd (zdm d_Md_image_0 36 rfl) g15 ?_
    obtain ⟨g16, H⟩ := H
    refine x_iald (zdm d_Md_image_0 37 rfl) rfl g16 ?_
    refine x_callVv (n := 1) (ci := 11) (zdm d_Md_image_0 38 rfl) k_Md_641 (As := [(0, (M14 164 (9 + l1)))]) rfl rfl rfl ⟨_, _, rfl⟩ (Nat.le_of_ble_eq_true rfl) rfl H (fun r17 M18 hr H => ?_)
    obtain ⟨g19, H⟩ := H
    refine x_iinc (zdm d_Md_image_0 39 rfl) (n := 2) rfl g19 (zlt rfl) rfl ?_
    refine x_goto (tgt := 17) (zdm d_Md_image_0 40 rfl) (by decide) ?_
    exact zX.sub [2, 0] rfl H
set_option maxRecDepth 20000 in
set_option maxHeartbeats 4000000 in
theorem E_Md_image {G : zG} {h sl : Nat} (hsl : 2 ≤ sl) {M : zM} {Q : Int → zM → Prop} (H : zCt G h sl 0 0 y_Md_writesTwo [(2, 125), (0, ((zwr M 125 100 0) 164 0))] (zwr M 125 100 0) (fun r1 M2 => zX G (y_Md_image, h + 1, sl) (0, 0, 0, 0) 17 [(0, (2, 125)), (1, (0, 0))] [] M2 Q)) : zCt G (h + 1) sl 0 0 y_Md_image [(2, 125)] M Q := by
  refine zCt.of (by decide +kernel) (Nat.le_of_ble_eq_true rfl) ?_
  refine x_aload_n (zdm d_Md_image_0 0 rfl) rfl (n := 0) rfl ?_
  refine x_iconst (zdm d_Md_image_0 1 rfl) (zIl rfl) ?_
  refine x_putf (zdm d_Md_image_0 2 rfl) f_Md_638 rfl ⟨rfl, trivial⟩ (Or.inl rfl) ?_
  refine x_aload_n (zdm d_Md_image_0 3 rfl) rfl (n := 0) rfl ?_
  refine x_aload_n (zdm d_Md_image_0 4 rfl) rfl (n := 0) rfl ?_
  refine x_getG (zdm d_Md_image_0 5 rfl) f_Md_130 rfl rfl (by decide) hsl rfl ?_
  refine x_iconst (zdm d_Md_image_0 6 rfl) (zIl rfl) ?_
  refine x_iald (zdm d_Md_image_0 7 rfl) rfl ⟨by decide, by decide⟩ ?_
  refine x_callVv (n := 1) (ci := 11) (zdm d_Md_image_0 8 rfl) k_Md_644 (As := [(0, ((zwr M 125 100 0) 164 0))]) rfl rfl rfl ⟨_, _, rfl⟩ (Nat.le_of_ble_eq_true rfl) rfl H (fun r1 M2 hr H => ?_)
  refine x_iconst (zdm d_Md_image_0 9 rfl) (zIl rfl) ?_
  refine x_istore_n (zdm d_Md_image_0 10 rfl) rfl (zlt rfl) rfl ?_
  exact zX.sub [1, 0] rfl H
set_option maxRecDepth 20000 in
set_option maxHeartbeats 4000000 in
theorem E_Md_valueAt {G : zG} {h sl : Nat} (hsl : 2 ≤ sl) {l1 : Int} {M : zM} {Q : Int → zM → Prop} (H : (zI (4 * l1)) ∧ ((zI (2 + (4 * l1))) ∧ ((0 ≤ (2 + (4 * l1)) ∧ (2 + (4 * l1)) < 1600) ∧ ((zI (65536 * (M 126 (2 + (4 * l1))))) ∧ ((zI (3 + (4 * l1))) ∧ (zCt G h sl 0 0 y_Md_twoAt [(2, 125), (0, (3 + (4 * l1)))] M (fun r6 M7 => (zI ((65536 * (M 126 (2 + (4 * l1)))) + r6)) ∧ ((zI (((65536 * (M 126 (2 + (4 * l1)))) + r6) - 1000000)) ∧ (Q (((65536 * (M 126 (2 + (4 * l1)))) + r6) - 1000000) M7))))))))) : zCt G (h + 1) sl 0 0 y_Md_valueAt [(2, 125), (0, l1)] M Q := by
  refine zCt.of (by decide +kernel) (Nat.le_of_ble_eq_true rfl) ?_
  refine x_ldcw (zdm d_Md_valueAt_0 0 rfl) (n := 65536) (zIl rfl) w_Md_647 ?_
  refine x_aload_n (zdm d_Md_valueAt_0 1 rfl) rfl (n := 0) rfl ?_
  refine x_getG (zdm d_Md_valueAt_0 2 rfl) f_Md_7 rfl rfl (by decide) hsl rfl ?_
  refine x_iconst (zdm d_Md_valueAt_0 3 rfl) (zIl rfl) ?_
  refine x_iconst (zdm d_Md_valueAt_0 4 rfl) (zIl rfl) ?_
  refine x_iload_n (zdm d_Md_valueAt_0 5 rfl) rfl (n := 1) rfl ?_
  obtain ⟨g1, H⟩ := H
  refine x_imul (zdm d_Md_valueAt_0 6 rfl) g1 ?_
  obtain ⟨g2, H⟩ := H
  refine x_iadd (zdm d_Md_valueAt_0 7 rfl) g2 ?_
  obtain ⟨g3, H⟩ := H
  refine x_iald (zdm d_Md_valueAt_0 8 rfl) rfl g3 ?_
  obtain ⟨g4, H⟩ := H
  refine x_imul (zdm d_Md_valueAt_0 9 rfl) g4 ?_
  refine x_aload_n (zdm d_Md_valueAt_0 10 rfl) rfl (n := 0) rfl ?_
  refine x_iconst (zdm d_Md_valueAt_0 11 rfl) (zIl rfl) ?_
  refine x_iconst (zdm d_Md_valueAt_0 12 rfl) (zIl rfl) ?_
  refine x_iload_n (zdm d_Md_valueAt_0 13 rfl) rfl (n := 1) rfl ?_
  refine x_imul (zdm d_Md_valueAt_0 14 rfl) g1 ?_
  obtain ⟨g5, H⟩ := H
  refine x_iadd (zdm d_Md_valueAt_0 15 rfl) g5 ?_
  refine x_callVi (n := 1) (ci := 11) (zdm d_Md_valueAt_0 16 rfl) k_Md_652 (As := [(0, (3 + (4 * l1)))]) rfl rfl rfl ⟨_, _, rfl⟩ (Nat.le_of_ble_eq_true rfl) trivial H (fun r6 M7 hr H => ?_)
  obtain ⟨g8, H⟩ := H
  refine x_iadd (zdm d_Md_valueAt_0 17 rfl) g8 ?_
  refine x_ldcw (zdm d_Md_valueAt_0 18 rfl) (n := 1000000) (zIl rfl) w_Md_420 ?_
  obtain ⟨g9, H⟩ := H
  refine x_isub (zdm d_Md_valueAt_0 19 rfl) g9 ?_
  exact x_iret (zdm d_Md_valueAt_0 20 rfl) rfl H
set_option maxRecDepth 20000 in
set_option maxHeartbeats 4000000 in
theorem B_Md_isImage_79 {G : zG} {h sl : Nat} (hsl : 2 ≤ sl) {u : Nat × Nat × Nat × Nat} {l2 s0 s1 : Int} {M : zM} {Q : Int → zM → Prop} (H : (s1 ≤ s0 → zCt G h sl 0 0 y_Md_sortOf [(2, 125), (0, l2)] M (fun r1 M2 => (¬ r1 = 3 → zCt G h sl 0 0 y_Md_valueAt [(2, 125), (0, l2)] M2 (fun r3 M4 => zCt G h sl 0 0 y_Md_canTell [(2, 125), (0, l2), (0, r3)] M4 (fun r5 M6 => (¬ r5 = 0 → (zI (l2 + 1)) ∧ (zX G (y_Md_isImage, h + 1, sl) u 48 [(0, (2, 125)), (2, (0, (l2 + 1)))] [] M6 Q)) ∧ (¬ (¬ r5 = 0) → Q 0 M6)))) ∧ (¬ (¬ r1 = 3) → zCt G h sl 0 0 y_Md_valueAt [(2, 125), (0, l2)] M2 (fun r9 M10 => zCt G h sl 0 0 y_Md_isIn [(1, r9), (1, (-1000000)), (1, 1000000)] M10 (fun r11 M12 => (¬ r11 = 0 → (zI (l2 + 1)) ∧ (zX G (y_Md_isImage, h + 1, sl) u 48 [(0, (2, 125)), (2, (0, (l2 + 1)))] [] M12 Q)) ∧ (¬ (¬ r11 = 0) → Q 0 M12)))))) ∧ (¬ s1 ≤ s0 → Q 0 M)) : zX G (y_Md_isImage, h + 1, sl) u 79 [(0, (2, 125)), (2, (0, l2))] [(0, s0), (0, s1)] M Q := by
  refine x_icmple (tgt := 84) (zdm d_Md_isImage_0 49 rfl) (by decide) (fun c => ?_) (fun c => ?_)
  · have H := H.1 c
    refine x_aload_n (zdm d_Md_isImage_0 52 rfl) rfl (n := 0) rfl ?_
    refine x_iload_n (zdm d_Md_isImage_0 53 rfl) rfl (n := 1) rfl ?_
    refine x_callVi (n := 1) (ci := 11) (zdm d_Md_isImage_0 54 rfl) k_Md_424 (As := [(0, l2)]) rfl rfl rfl ⟨_, _, rfl⟩ (Nat.le_of_ble_eq_true rfl) trivial H (fun r1 M2 hr H => ?_)
    refine x_iconst (zdm d_Md_isImage_0 55 rfl) (zIl rfl) ?_
    refine x_icmpne (tgt := 114) (zdm d_Md_isImage_0 56 rfl) (by decide) (fun c => ?_) (fun c => ?_)
    · have H := H.1 c
      refine x_aload_n (zdm d_Md_isImage_1 6 rfl) rfl (n := 0) rfl ?_
      refine x_iload_n (zdm d_Md_isImage_1 7 rfl) rfl (n := 1) rfl ?_
      refine x_aload_n (zdm d_Md_isImage_1 8 rfl) rfl (n := 0) rfl ?_
      refine x_iload_n (zdm d_Md_isImage_1 9 rfl) rfl (n := 1) rfl ?_
      refine x_callVi (n := 1) (ci := 11) (zdm d_Md_isImage_1 10 rfl) k_Md_655 (As := [(0, l2)]) rfl rfl rfl ⟨_, _, rfl⟩ (Nat.le_of_ble_eq_true rfl) trivial H (fun r3 M4 hr H => ?_)
      refine x_callVi (n := 2) (ci := 11) (zdm d_Md_isImage_1 11 rfl) k_Md_513 (As := [(0, l2), (0, r3)]) rfl rfl rfl ⟨_, _, rfl⟩ (Nat.le_of_ble_eq_true rfl) trivial H (fun r5 M6 hr H => ?_)
      have b7 : r5 = 0 ∨ r5 = 1 := hr
      refine x_ifne (tgt := 129) (zdm d_Md_isImage_1 12 rfl) (by decide) (fun c => ?_) (fun c => ?_)
      · have H := H.1 c
        obtain ⟨g8, H⟩ := H
        refine x_iinc (zdm d_Md_isImage_1 15 rfl) (n := 1) rfl g8 (zlt rfl) rfl ?_
        refine x_goto (tgt := 48) (zdm d_Md_isImage_1 16 rfl) (by decide) ?_
        exact zX.sub [1, 0] rfl H
      · have H := H.2 c
        refine x_iconst (zdm d_Md_isImage_1 13 rfl) (zIl rfl) ?_
        exact x_ireturn (zdm d_Md_isImage_1 14 rfl) (ty := .boolean) rfl (by decide) (Or.inl rfl) H
    · have H := H.2 c
      refine x_aload_n (zdm d_Md_isImage_0 57 rfl) rfl (n := 0) rfl ?_
      refine x_iload_n (zdm d_Md_isImage_0 58 rfl) rfl (n := 1) rfl ?_
      refine x_callVi (n := 1) (ci := 11) (zdm d_Md_isImage_0 59 rfl) k_Md_655 (As := [(0, l2)]) rfl rfl rfl ⟨_, _, rfl⟩ (Nat.le_of_ble_eq_true rfl) trivial H (fun r9 M10 hr H => ?_)
      refine x_i2l (zdm d_Md_isImage_1 0 rfl) ?_
      refine x_ldc2 (zdm d_Md_isImage_1 1 rfl) (n := (-1000000)) (zLl rfl) w_Md_421 ?_
      refine x_ldc2 (zdm d_Md_isImage_1 2 rfl) (n := 1000000) (zLl rfl) w_Md_418 ?_
      refine x_callSi (n := 3) (zdm d_Md_isImage_1 3 rfl) k_Md_280 (As := [(1, r9), (1, (-1000000)), (1, 1000000)]) rfl rfl (Nat.le_of_ble_eq_true rfl) trivial H (fun r11 M12 hr H => ?_)
      have b13 : r11 = 0 ∨ r11 = 1 := hr
      refine x_ifne (tgt := 129) (zdm d_Md_isImage_1 4 rfl) (by decide) (fun c => ?_) (fun c => ?_)
      · have H := H.1 c
        obtain ⟨g14, H⟩ := H
        refine x_iinc (zdm d_Md_isImage_1 15 rfl) (n := 1) rfl g14 (zlt rfl) rfl ?_
        refine x_goto (tgt := 48) (zdm d_Md_isImage_1 16 rfl) (by decide) ?_
        exact zX.sub [1, 0] rfl H
      · have H := H.2 c
        refine x_goto (tgt := 127) (zdm d_Md_isImage_1 5 rfl) (by decide) ?_
        refine x_iconst (zdm d_Md_isImage_1 13 rfl) (zIl rfl) ?_
        exact x_ireturn (zdm d_Md_isImage_1 14 rfl) (ty := .boolean) rfl (by decide) (Or.inl rfl) H
  · have H := H.2 c
    refine x_iconst (zdm d_Md_isImage_0 50 rfl) (zIl rfl) ?_
    exact x_ireturn (zdm d_Md_isImage_0 51 rfl) (ty := .boolean) rfl (by decide) (Or.inl rfl) H
set_option maxRecDepth 20000 in
set_option maxHeartbeats 4000000 in
theorem B_Md_isImage_48 {G : zG} {h sl : Nat} (hsl : 2 ≤ sl) {u : Nat × Nat × Nat × Nat} {l2 : Int} {M : zM} {Q : Int → zM → Prop} (H : zCt G h sl 0 0 y_Md_columnMany [(2, 125)] M (fun r1 M2 => (r1 ≤ l2 → Q 1 M2) ∧ (¬ r1 ≤ l2 → (zI (4 * l2)) ∧ ((zI (5 + (4 * l2))) ∧ ((0 ≤ (5 + (4 * l2)) ∧ (5 + (4 * l2)) < 1600) ∧ (zCt G h sl 0 0 y_Md_sortOf [(2, 125), (0, l2)] M2 (fun r6 M7 => (¬ r6 = 0 → zX G (y_Md_isImage, h + 1, sl) u 79 [(0, (2, 125)), (2, (0, l2))] [(0, 0), (0, (M2 126 (5 + (4 * l2))))] M7 Q) ∧ (¬ (¬ r6 = 0) → zX G (y_Md_isImage, h + 1, sl) u 79 [(0, (2, 125)), (2, (0, l2))] [(0, 1), (0, (M2 126 (5 + (4 * l2))))] M7 Q)))))))) : zX G (y_Md_isImage, h + 1, sl) u 48 [(0, (2, 125)), (2, (0, l2))] [] M Q := by
  refine x_iload_n (zdm d_Md_isImage_0 30 rfl) rfl (n := 1) rfl ?_
  refine x_aload_n (zdm d_Md_isImage_0 31 rfl) rfl (n := 0) rfl ?_
  refine x_callVi (n := 0) (ci := 11) (zdm d_Md_isImage_0 32 rfl) k_Md_391 (As := []) rfl rfl rfl ⟨_, _, rfl⟩ (Nat.le_of_ble_eq_true rfl) trivial H (fun r1 M2 hr H => ?_)
  refine x_icmpge (tgt := 135) (zdm d_Md_isImage_0 33 rfl) (by decide) (fun c => ?_) (fun c => ?_)
  · have H := H.1 c
    refine x_iconst (zdm d_Md_isImage_1 17 rfl) (zIl rfl) ?_
    exact x_ireturn (zdm d_Md_isImage_1 18 rfl) (ty := .boolean) rfl (by decide) (Or.inr rfl) H
  · have H := H.2 c
    refine x_aload_n (zdm d_Md_isImage_0 34 rfl) rfl (n := 0) rfl ?_
    refine x_getG (zdm d_Md_isImage_0 35 rfl) f_Md_7 rfl rfl (by decide) hsl rfl ?_
    refine x_iconst (zdm d_Md_isImage_0 36 rfl) (zIl rfl) ?_
    refine x_iconst (zdm d_Md_isImage_0 37 rfl) (zIl rfl) ?_
    refine x_iload_n (zdm d_Md_isImage_0 38 rfl) rfl (n := 1) rfl ?_
    obtain ⟨g3, H⟩ := H
    refine x_imul (zdm d_Md_isImage_0 39 rfl) g3 ?_
    obtain ⟨g4, H⟩ := H
    refine x_iadd (zdm d_Md_isImage_0 40 rfl) g4 ?_
    obtain ⟨g5, H⟩ := H
    refine x_iald (zdm d_Md_isImage_0 41 rfl) rfl g5 ?_
    refine x_aload_n (zdm d_Md_isImage_0 42 rfl) rfl (n := 0) rfl ?_
    refine x_iload_n (zdm d_Md_isImage_0 43 rfl) rfl (n := 1) rfl ?_
    refine x_callVi (n := 1) (ci := 11) (zdm d_Md_isImage_0 44 rfl) k_Md_424 (As := [(0, l2)]) rfl rfl rfl ⟨_, _, rfl⟩ (Nat.le_of_ble_eq_true rfl) trivial H (fun r6 M7 hr H => ?_)
    refine x_ifne (tgt := 78) (zdm d_Md_isImage_0 45 rfl) (by decide) (fun c => ?_) (fun c => ?_)
    · have H := H.1 c
      refine x_iconst (zdm d_Md_isImage_0 48 rfl) (zIl rfl) ?_
      exact H
    · have H := H.2 c
      refine x_iconst (zdm d_Md_isImage_0 46 rfl) (zIl rfl) ?_
      refine x_goto (tgt := 79) (zdm d_Md_isImage_0 47 rfl) (by decide) ?_
      exact H
set_option maxRecDepth 20000 in
set_option maxHeartbeats 4000000 in
theorem E_Md_isImage {G : zG} {h sl : Nat} (hsl : 2 ≤ sl) {l1 : Int} {M : zM} {Q : Int → zM → Prop} (H : zCt G h sl 0 0 y_Md_columnMany [(2, 125)] M (fun r1 M2 => (zI (4 * r1)) ∧ ((zI (3 + (4 * r1))) ∧ ((¬ l1 = (3 + (4 * r1)) → Q 0 M2) ∧ (¬ (¬ l1 = (3 + (4 * r1))) → (zI (l1 - 1)) ∧ ((0 ≤ (l1 - 1) ∧ (l1 - 1) < 1600) ∧ (zCt G h sl 0 0 y_Md_checked [(2, 126), (0, (l1 - 1))] M2 (fun r7 M8 => (¬ (M2 126 (l1 - 1)) = r7 → Q 0 M8) ∧ (¬ (¬ (M2 126 (l1 - 1)) = r7) → zCt G h sl 0 0 y_Md_twoAt [(2, 125), (0, 0)] M8 (fun r9 M10 => (r9 ≤ 999 → zX G (y_Md_isImage, h + 1, sl) (0, 0, 0, 0) 48 [(0, (2, 125)), (2, (0, 0))] [] M10 Q) ∧ (¬ r9 ≤ 999 → Q 0 M10))))))))))) : zCt G (h + 1) sl 0 0 y_Md_isImage [(2, 125), (0, l1)] M Q := by
  refine zCt.of (by decide +kernel) (Nat.le_of_ble_eq_true rfl) ?_
  refine x_iload_n (zdm d_Md_isImage_0 0 rfl) rfl (n := 1) rfl ?_
  refine x_iconst (zdm d_Md_isImage_0 1 rfl) (zIl rfl) ?_
  refine x_iconst (zdm d_Md_isImage_0 2 rfl) (zIl rfl) ?_
  refine x_aload_n (zdm d_Md_isImage_0 3 rfl) rfl (n := 0) rfl ?_
  refine x_callVi (n := 0) (ci := 11) (zdm d_Md_isImage_0 4 rfl) k_Md_391 (As := []) rfl rfl rfl ⟨_, _, rfl⟩ (Nat.le_of_ble_eq_true rfl) trivial H (fun r1 M2 hr H => ?_)
  obtain ⟨g3, H⟩ := H
  refine x_imul (zdm d_Md_isImage_0 5 rfl) g3 ?_
  obtain ⟨g4, H⟩ := H
  refine x_iadd (zdm d_Md_isImage_0 6 rfl) g4 ?_
  refine x_icmpne (tgt := 44) (zdm d_Md_isImage_0 7 rfl) (by decide) (fun c => ?_) (fun c => ?_)
  · have H := H.1 c
    refine x_iconst (zdm d_Md_isImage_0 26 rfl) (zIl rfl) ?_
    exact x_ireturn (zdm d_Md_isImage_0 27 rfl) (ty := .boolean) rfl (by decide) (Or.inl rfl) H
  · have H := H.2 c
    refine x_aload_n (zdm d_Md_isImage_0 8 rfl) rfl (n := 0) rfl ?_
    refine x_getG (zdm d_Md_isImage_0 9 rfl) f_Md_7 rfl rfl (by decide) hsl rfl ?_
    refine x_iload_n (zdm d_Md_isImage_0 10 rfl) rfl (n := 1) rfl ?_
    refine x_iconst (zdm d_Md_isImage_0 11 rfl) (zIl rfl) ?_
    obtain ⟨g5, H⟩ := H
    refine x_isub (zdm d_Md_isImage_0 12 rfl) g5 ?_
    obtain ⟨g6, H⟩ := H
    refine x_iald (zdm d_Md_isImage_0 13 rfl) rfl g6 ?_
    refine x_aload_n (zdm d_Md_isImage_0 14 rfl) rfl (n := 0) rfl ?_
    refine x_getG (zdm d_Md_isImage_0 15 rfl) f_Md_7 rfl rfl (by decide) hsl rfl ?_
    refine x_iload_n (zdm d_Md_isImage_0 16 rfl) rfl (n := 1) rfl ?_
    refine x_iconst (zdm d_Md_isImage_0 17 rfl) (zIl rfl) ?_
    refine x_isub (zdm d_Md_isImage_0 18 rfl) g5 ?_
    refine x_callSi (n := 2) (zdm d_Md_isImage_0 19 rfl) k_Md_648 (As := [(2, 126), (0, (l1 - 1))]) rfl rfl (Nat.le_of_ble_eq_true rfl) trivial H (fun r7 M8 hr H => ?_)
    refine x_icmpne (tgt := 44) (zdm d_Md_isImage_0 20 rfl) (by decide) (fun c => ?_) (fun c => ?_)
    · have H := H.1 c
      refine x_iconst (zdm d_Md_isImage_0 26 rfl) (zIl rfl) ?_
      exact x_ireturn (zdm d_Md_isImage_0 27 rfl) (ty := .boolean) rfl (by decide) (Or.inl rfl) H
    · have H := H.2 c
      refine x_aload_n (zdm d_Md_isImage_0 21 rfl) rfl (n := 0) rfl ?_
      refine x_iconst (zdm d_Md_isImage_0 22 rfl) (zIl rfl) ?_
      refine x_callVi (n := 1) (ci := 11) (zdm d_Md_isImage_0 23 rfl) k_Md_652 (As := [(0, 0)]) rfl rfl rfl ⟨_, _, rfl⟩ (Nat.le_of_ble_eq_true rfl) trivial H (fun r9 M10 hr H => ?_)
      refine x_sipush (zdm d_Md_isImage_0 24 rfl) (by decide) ?_
      refine x_icmple (tgt := 46) (zdm d_Md_isImage_0 25 rfl) (by decide) (fun c => ?_) (fun c => ?_)
      · have H := H.1 c
        refine x_iconst (zdm d_Md_isImage_0 28 rfl) (zIl rfl) ?_
        refine x_istore_n (zdm d_Md_isImage_0 29 rfl) rfl (zlt rfl) rfl ?_
        exact zX.sub [1, 0] rfl H
      · have H := H.2 c
        refine x_iconst (zdm d_Md_isImage_0 26 rfl) (zIl rfl) ?_
        exact x_ireturn (zdm d_Md_isImage_0 27 rfl) (ty := .boolean) rfl (by decide) (Or.inl rfl) H
set_option maxRecDepth 20000 in
set_option maxHeartbeats 4000000 in
theorem B_Md_on_37 {G : zG} {h sl : Nat} (hsl : 2 ≤ sl) {u : Nat × Nat × Nat × Nat} {l2 : Int} {M : zM} {Q : Int → zM → Prop} (H : zCt G h sl 0 0 y_Md_columnMany [(2, 125)] M (fun r1 M2 => (r1 ≤ l2 → Q 1 (zwr (zwr M2 164 17 0) 125 66 0)) ∧ (¬ r1 ≤ l2 → (zI (1 + l2)) ∧ (zCt G h sl 0 0 y_Md_valueAt [(2, 125), (0, l2)] M2 (fun r4 M5 => (0 ≤ (1 + l2) ∧ (1 + l2) < 98) ∧ ((zI (9 + l2)) ∧ ((zI (4 * l2)) ∧ ((zI (5 + (4 * l2))) ∧ ((0 ≤ (5 + (4 * l2)) ∧ (5 + (4 * l2)) < 1600) ∧ ((0 ≤ (9 + l2) ∧ (9 + l2) < 98) ∧ ((zI (l2 + 1)) ∧ (zX G (y_Md_on, h + 1, sl) u 37 [(0, (2, 125)), (2, (0, (l2 + 1)))] [] (zwr (zwr M5 164 (1 + l2) r4) 164 (9 + l2) ((zwr M5 164 (1 + l2) r4) 126 (5 + (4 * l2)))) Q)))))))))))) : zX G (y_Md_on, h + 1, sl) u 37 [(0, (2, 125)), (2, (0, l2))] [] M Q := by
  refine x_iload_n (zdm d_Md_on_0 23 rfl) rfl (n := 1) rfl ?_
  refine x_aload_n (zdm d_Md_on_0 24 rfl) rfl (n := 0) rfl ?_
  refine x_callVi (n := 0) (ci := 11) (zdm d_Md_on_0 25 rfl) k_Md_391 (As := []) rfl rfl rfl ⟨_, _, rfl⟩ (Nat.le_of_ble_eq_true rfl) trivial H (fun r1 M2 hr H => ?_)
  refine x_icmpge (tgt := 83) (zdm d_Md_on_0 26 rfl) (by decide) (fun c => ?_) (fun c => ?_)
  · have H := H.1 c
    refine x_aload_n (zdm d_Md_on_0 52 rfl) rfl (n := 0) rfl ?_
    refine x_getG (zdm d_Md_on_0 53 rfl) f_Md_130 rfl rfl (by decide) hsl rfl ?_
    refine x_bipush (zdm d_Md_on_0 54 rfl) (by decide) ?_
    refine x_iconst (zdm d_Md_on_0 55 rfl) (zIl rfl) ?_
    refine x_iast (zdm d_Md_on_0 56 rfl) rfl ⟨by decide, by decide⟩ ?_
    refine x_aload_n (zdm d_Md_on_0 57 rfl) rfl (n := 0) rfl ?_
    refine x_iconst (zdm d_Md_on_0 58 rfl) (zIl rfl) ?_
    refine x_putf (zdm d_Md_on_0 59 rfl) f_Md_385 rfl ⟨rfl, trivial⟩ (Or.inl rfl) ?_
    refine x_iconst (zdm d_Md_on_1 0 rfl) (zIl rfl) ?_
    exact x_ireturn (zdm d_Md_on_1 1 rfl) (ty := .boolean) rfl (by decide) (Or.inr rfl) H
  · have H := H.2 c
    refine x_aload_n (zdm d_Md_on_0 27 rfl) rfl (n := 0) rfl ?_
    refine x_getG (zdm d_Md_on_0 28 rfl) f_Md_130 rfl rfl (by decide) hsl rfl ?_
    refine x_iconst (zdm d_Md_on_0 29 rfl) (zIl rfl) ?_
    refine x_iload_n (zdm d_Md_on_0 30 rfl) rfl (n := 1) rfl ?_
    obtain ⟨g3, H⟩ := H
    refine x_iadd (zdm d_Md_on_0 31 rfl) g3 ?_
    refine x_aload_n (zdm d_Md_on_0 32 rfl) rfl (n := 0) rfl ?_
    refine x_iload_n (zdm d_Md_on_0 33 rfl) rfl (n := 1) rfl ?_
    refine x_callVi (n := 1) (ci := 11) (zdm d_Md_on_0 34 rfl) k_Md_655 (As := [(0, l2)]) rfl rfl rfl ⟨_, _, rfl⟩ (Nat.le_of_ble_eq_true rfl) trivial H (fun r4 M5 hr H => ?_)
    obtain ⟨g6, H⟩ := H
    refine x_iast (zdm d_Md_on_0 35 rfl) rfl g6 ?_
    refine x_aload_n (zdm d_Md_on_0 36 rfl) rfl (n := 0) rfl ?_
    refine x_getG (zdm d_Md_on_0 37 rfl) f_Md_130 rfl rfl (by decide) hsl rfl ?_
    refine x_bipush (zdm d_Md_on_0 38 rfl) (by decide) ?_
    refine x_iload_n (zdm d_Md_on_0 39 rfl) rfl (n := 1) rfl ?_
    obtain ⟨g7, H⟩ := H
    refine x_iadd (zdm d_Md_on_0 40 rfl) g7 ?_
    refine x_aload_n (zdm d_Md_on_0 41 rfl) rfl (n := 0) rfl ?_
    refine x_getG (zdm d_Md_on_0 42 rfl) f_Md_7 rfl rfl (by decide) hsl rfl ?_
    refine x_iconst (zdm d_Md_on_0 43 rfl) (zIl rfl) ?_
    refine x_iconst (zdm d_Md_on_0 44 rfl) (zIl rfl) ?_
    refine x_iload_n (zdm d_Md_on_0 45 rfl) rfl (n := 1) rfl ?_
    obtain ⟨g8, H⟩ := H
    refine x_imul (zdm d_Md_on_0 46 rfl) g8 ?_
    obtain ⟨g9, H⟩ := H
    refine x_iadd (zdm d_Md_on_0 47 rfl) g9 ?_
    obtain ⟨g10, H⟩ := H
    refine x_iald (zdm d_Md_on_0 48 rfl) rfl g10 ?_
    obtain ⟨g11, H⟩ := H
    refine x_iast (zdm d_Md_on_0 49 rfl) rfl g11 ?_
    obtain ⟨g12, H⟩ := H
    refine x_iinc (zdm d_Md_on_0 50 rfl) (n := 1) rfl g12 (zlt rfl) rfl ?_
    refine x_goto (tgt := 37) (zdm d_Md_on_0 51 rfl) (by decide) ?_
    exact zX.sub [1, 0] rfl H
set_option maxRecDepth 20000 in
set_option maxHeartbeats 4000000 in
theorem E_Md_on {G : zG} {h sl : Nat} (hsl : 2 ≤ sl) {M : zM} {Q : Int → zM → Prop} (H : zCt G h sl 0 0 y_Md_isImage [(2, 125), (0, (M 125 1))] (zwr M 125 1 0) (fun r1 M2 => (¬ r1 = 0 → zCt G h sl 0 0 y_Md_twoAt [(2, 125), (0, 0)] M2 (fun r4 M5 => zX G (y_Md_on, h + 1, sl) (0, 0, 0, 0) 37 [(0, (2, 125)), (2, (0, 0))] [] (zwr M5 164 0 r4) Q)) ∧ (¬ (¬ r1 = 0) → zCt G h sl 0 0 y_Md_isRefused [(2, 125), (0, 5)] M2 (fun r6 M7 => Q r6 M7)))) : zCt G (h + 1) sl 0 0 y_Md_on [(2, 125)] M Q := by
  refine zCt.of (by decide +kernel) (Nat.le_of_ble_eq_true rfl) ?_
  refine x_aload_n (zdm d_Md_on_0 0 rfl) rfl (n := 0) rfl ?_
  refine x_getf (zdm d_Md_on_0 1 rfl) f_Md_234 rfl rfl ?_
  refine x_istore_n (zdm d_Md_on_0 2 rfl) rfl (zlt rfl) rfl ?_
  refine x_aload_n (zdm d_Md_on_0 3 rfl) rfl (n := 1) rfl ?_
  refine x_iconst (zdm d_Md_on_0 4 rfl) (zIl rfl) ?_
  refine x_putf (zdm d_Md_on_0 5 rfl) f_Md_234 rfl ⟨rfl, trivial⟩ (Or.inl rfl) ?_
  refine x_aload_n (zdm d_Md_on_0 6 rfl) rfl (n := 1) rfl ?_
  refine x_iload_n (zdm d_Md_on_0 7 rfl) rfl (n := 0) rfl ?_
  refine x_callVi (n := 1) (ci := 11) (zdm d_Md_on_0 8 rfl) k_Md_658 (As := [(0, (M 125 1))]) rfl rfl rfl ⟨_, _, rfl⟩ (Nat.le_of_ble_eq_true rfl) trivial H (fun r1 M2 hr H => ?_)
  have b3 : r1 = 0 ∨ r1 = 1 := hr
  refine x_ifne (tgt := 24) (zdm d_Md_on_0 9 rfl) (by decide) (fun c => ?_) (fun c => ?_)
  · have H := H.1 c
    refine x_aload_n (zdm d_Md_on_0 14 rfl) rfl (n := 1) rfl ?_
    refine x_getG (zdm d_Md_on_0 15 rfl) f_Md_130 rfl rfl (by decide) hsl rfl ?_
    refine x_iconst (zdm d_Md_on_0 16 rfl) (zIl rfl) ?_
    refine x_aload_n (zdm d_Md_on_0 17 rfl) rfl (n := 1) rfl ?_
    refine x_iconst (zdm d_Md_on_0 18 rfl) (zIl rfl) ?_
    refine x_callVi (n := 1) (ci := 11) (zdm d_Md_on_0 19 rfl) k_Md_652 (As := [(0, 0)]) rfl rfl rfl ⟨_, _, rfl⟩ (Nat.le_of_ble_eq_true rfl) trivial H (fun r4 M5 hr H => ?_)
    refine x_iast (zdm d_Md_on_0 20 rfl) rfl ⟨by decide, by decide⟩ ?_
    refine x_iconst (zdm d_Md_on_0 21 rfl) (zIl rfl) ?_
    refine x_istore_n (zdm d_Md_on_0 22 rfl) rfl (zlt rfl) rfl ?_
    exact zX.sub [2, 0] rfl H
  · have H := H.2 c
    refine x_aload_n (zdm d_Md_on_0 10 rfl) rfl (n := 1) rfl ?_
    refine x_iconst (zdm d_Md_on_0 11 rfl) (zIl rfl) ?_
    refine x_callVi (n := 1) (ci := 11) (zdm d_Md_on_0 12 rfl) k_Md_534 (As := [(0, 5)]) rfl rfl rfl ⟨_, _, rfl⟩ (Nat.le_of_ble_eq_true rfl) trivial H (fun r6 M7 hr H => ?_)
    have b8 : r6 = 0 ∨ r6 = 1 := hr
    exact x_ireturn (zdm d_Md_on_0 13 rfl) (ty := .boolean) rfl (by decide) b8 H
