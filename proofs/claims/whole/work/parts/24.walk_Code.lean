set_option maxRecDepth 20000 in
set_option maxHeartbeats 4000000 in
theorem E_Code_add {G : zG} {h sl : Nat} (hsl : 1 ≤ sl) {l0 l1 l2 : Int} {M : zM} {Q : Int → zM → Prop} (H : (zK l0 = (0, 0)) ∧ ((1600 ≤ (M l0 2) → Q 0 M) ∧ (¬ 1600 ≤ (M l0 2) → (zI (l2 * 16)) ∧ ((zI ((l2 * 16) + l1)) ∧ ((0 ≤ (M l0 2) ∧ (M l0 2) < 1600) ∧ ((zI (((zwr M (l0 + 1) (M l0 2) ((l2 * 16) + l1)) l0 2) + 1)) ∧ (Q 0 (zwr (zwr M (l0 + 1) (M l0 2) ((l2 * 16) + l1)) l0 2 (((zwr M (l0 + 1) (M l0 2) ((l2 * 16) + l1)) l0 2) + 1))))))))) : zCt G h sl 0 0 y_Code_add [(2, l0), (0, l1), (0, l2)] M Q := by
  refine zCt.of (by decide +kernel) (Nat.le_of_ble_eq_true rfl) ?_
  refine x_aload_n (zdm d_Code_add_0 0 rfl) rfl (n := 0) rfl ?_
  obtain ⟨g1, H⟩ := H
  refine x_getf (zdm d_Code_add_0 1 rfl) f_Code_20 g1 rfl ?_
  refine x_aload_n (zdm d_Code_add_0 2 rfl) rfl (n := 0) rfl ?_
  refine x_getG (zdm d_Code_add_0 3 rfl) f_Code_11 g1 rfl (by decide) hsl (zs_0 g1).1.1 ?_
  refine x_alen0 (zdm d_Code_add_0 4 rfl) (zs_0 g1).1.2 (by decide) ?_
  refine x_icmpge (tgt := 37) (zdm d_Code_add_0 5 rfl) (by decide) (fun c => ?_) (fun c => ?_)
  · have H := H.1 c
    exact x_return (zdm d_Code_add_0 22 rfl) rfl H
  · have H := H.2 c
    refine x_aload_n (zdm d_Code_add_0 6 rfl) rfl (n := 0) rfl ?_
    refine x_getG (zdm d_Code_add_0 7 rfl) f_Code_11 g1 rfl (by decide) hsl (zs_0 g1).1.1 ?_
    refine x_aload_n (zdm d_Code_add_0 8 rfl) rfl (n := 0) rfl ?_
    refine x_getf (zdm d_Code_add_0 9 rfl) f_Code_20 g1 rfl ?_
    refine x_iload_n (zdm d_Code_add_0 10 rfl) rfl (n := 2) rfl ?_
    refine x_bipush (zdm d_Code_add_0 11 rfl) (by decide) ?_
    obtain ⟨g2, H⟩ := H
    refine x_imul (zdm d_Code_add_0 12 rfl) g2 ?_
    refine x_iload_n (zdm d_Code_add_0 13 rfl) rfl (n := 1) rfl ?_
    obtain ⟨g3, H⟩ := H
    refine x_iadd (zdm d_Code_add_0 14 rfl) g3 ?_
    obtain ⟨g4, H⟩ := H
    refine x_iast (zdm d_Code_add_0 15 rfl) (zs_0 g1).1.2 g4 ?_
    refine x_aload_n (zdm d_Code_add_0 16 rfl) rfl (n := 0) rfl ?_
    refine x_dup (zdm d_Code_add_0 17 rfl) z2n1 ?_
    refine x_getf (zdm d_Code_add_0 18 rfl) f_Code_20 g1 rfl ?_
    refine x_iconst (zdm d_Code_add_0 19 rfl) (zIl rfl) ?_
    obtain ⟨g5, H⟩ := H
    refine x_iadd (zdm d_Code_add_0 20 rfl) g5 ?_
    refine x_putf (zdm d_Code_add_0 21 rfl) f_Code_20 g1 ⟨rfl, trivial⟩ (Or.inl rfl) ?_
    exact x_return (zdm d_Code_add_0 22 rfl) rfl H
set_option maxRecDepth 20000 in
set_option maxHeartbeats 4000000 in
theorem B_Code_run_194 {G : zG} {h sl : Nat} (hsl : 1 ≤ sl) {u : Nat × Nat × Nat × Nat} {l0 l4 : Int} {M : zM} {Q : Int → zM → Prop} (H : (¬ l4 = 1 → Q 0 M) ∧ (¬ (¬ l4 = 1) → (zK l0 = (0, 0)) ∧ (Q (M (l0 + 2) 0) M))) : zX G (y_Code_run, h + 1, sl) u 194 [(0, (2, l0)), (4, (0, l4))] [] M Q := by
  refine x_iload (zdm d_Code_run_1 45 rfl) (n := 1) rfl ?_
  refine x_iconst (zdm d_Code_run_1 46 rfl) (zIl rfl) ?_
  refine x_icmpne (tgt := 209) (zdm d_Code_run_1 47 rfl) (by decide) (fun c => ?_) (fun c => ?_)
  · have H := H.1 c
    refine x_iconst (zdm d_Code_run_1 53 rfl) (zIl rfl) ?_
    exact x_iret (zdm d_Code_run_1 54 rfl) rfl H
  · have H := H.2 c
    refine x_aload_n (zdm d_Code_run_1 48 rfl) rfl (n := 0) rfl ?_
    obtain ⟨g1, H⟩ := H
    refine x_getG (zdm d_Code_run_1 49 rfl) f_Code_17 g1 rfl (by decide) hsl (zs_0 g1).2.1 ?_
    refine x_iconst (zdm d_Code_run_1 50 rfl) (zIl rfl) ?_
    refine x_iald (zdm d_Code_run_1 51 rfl) (zs_0 g1).2.2 ⟨by decide, by decide⟩ ?_
    refine x_goto (tgt := 210) (zdm d_Code_run_1 52 rfl) (by decide) ?_
    exact x_iret (zdm d_Code_run_1 54 rfl) rfl H
set_option maxRecDepth 20000 in
set_option maxHeartbeats 4000000 in
theorem B_Code_run_6 {G : zG} {h sl : Nat} (hsl : 1 ≤ sl) {u : Nat × Nat × Nat × Nat} {l0 l2 l3 l4 l5 : Int} {M : zM} {Q : Int → zM → Prop} (H : (l2 ≤ l5 → zX G (y_Code_run, h + 1, sl) u 194 [(0, (2, l0)), (4, (0, l4))] [] M Q) ∧ (¬ l2 ≤ l5 → (zK l0 = (0, 0)) ∧ (((M l0 2) ≤ l5 → zX G (y_Code_run, h + 1, sl) u 194 [(0, (2, l0)), (4, (0, l4))] [] M Q) ∧ (¬ (M l0 2) ≤ l5 → (0 ≤ l5 ∧ l5 < 1600) ∧ ((zI (Int.tdiv (M (l0 + 1) l5) 16)) ∧ ((1 < (Int.tmod (M (l0 + 1) l5) 16) → (3 < (Int.tmod (M (l0 + 1) l5) 16) → (2 ≤ l4 → (zI (l4 + (-1))) ∧ ((zI ((l4 + (-1)) - 1)) ∧ ((0 ≤ ((l4 + (-1)) - 1) ∧ ((l4 + (-1)) - 1) < 64) ∧ ((0 ≤ (l4 + (-1)) ∧ (l4 + (-1)) < 64) ∧ (zCt G h sl 0 0 y_Code_joined [(0, (Int.tmod (M (l0 + 1) l5) 16)), (0, (M (l0 + 2) ((l4 + (-1)) - 1))), (0, (M (l0 + 2) (l4 + (-1))))] M (fun r8 M9 => (zI (l5 + 1)) ∧ (zX G (y_Code_run, h + 1, sl) u 6 [(0, (2, l0)), (2, (0, l2)), (3, (2, l3)), (4, (0, (l4 + (-1)))), (5, (0, (l5 + 1)))] [] (zwr M9 (l0 + 2) ((l4 + (-1)) - 1) r8) Q))))))) ∧ (¬ 2 ≤ l4 → Q 0 M)) ∧ (¬ 3 < (Int.tmod (M (l0 + 1) l5) 16) → (1 ≤ l4 → (zI (l4 - 1)) ∧ ((0 ≤ (l4 - 1) ∧ (l4 - 1) < 64) ∧ ((¬ (Int.tmod (M (l0 + 1) l5) 16) = 3 → (zK l3 = (8, 0) ∧ zCt G h sl 0 0 y_Tablet_asked [(2, l3), (0, (Int.tdiv (M (l0 + 1) l5) 16)), (0, (M (l0 + 2) (l4 - 1)))] M (fun r13 M14 => (zI (l5 + 1)) ∧ (zX G (y_Code_run, h + 1, sl) u 6 [(0, (2, l0)), (2, (0, l2)), (3, (2, l3)), (4, (0, l4)), (5, (0, (l5 + 1)))] [] (zwr M14 (l0 + 2) (l4 - 1) r13) Q))) ∨ (zK l3 = (6, 0) ∧ zCt G h sl 0 0 y_Question_asked [(2, l3), (0, (Int.tdiv (M (l0 + 1) l5) 16)), (0, (M (l0 + 2) (l4 - 1)))] M (fun r16 M17 => (zI (l5 + 1)) ∧ (zX G (y_Code_run, h + 1, sl) u 6 [(0, (2, l0)), (2, (0, l2)), (3, (2, l3)), (4, (0, l4)), (5, (0, (l5 + 1)))] [] (zwr M17 (l0 + 2) (l4 - 1) r16) Q)))) ∧ (¬ (¬ (Int.tmod (M (l0 + 1) l5) 16) = 3) → (zI (1 - (M (l0 + 2) (l4 - 1)))) ∧ ((zI (l5 + 1)) ∧ (zX G (y_Code_run, h + 1, sl) u 6 [(0, (2, l0)), (2, (0, l2)), (3, (2, l3)), (4, (0, l4)), (5, (0, (l5 + 1)))] [] (zwr M (l0 + 2) (l4 - 1) (1 - (M (l0 + 2) (l4 - 1)))) Q)))))) ∧ (¬ 1 ≤ l4 → Q 0 M))) ∧ (¬ 1 < (Int.tmod (M (l0 + 1) l5) 16) → (l4 < 64 → (¬ (Int.tmod (M (l0 + 1) l5) 16) = 0 → (zK l3 = (8, 0) ∧ zCt G h sl 0 0 y_Tablet_told [(2, l3), (0, (Int.tdiv (M (l0 + 1) l5) 16))] M (fun r21 M22 => (0 ≤ l4 ∧ l4 < 64) ∧ ((zI (l4 + 1)) ∧ ((zI (l5 + 1)) ∧ (zX G (y_Code_run, h + 1, sl) u 6 [(0, (2, l0)), (2, (0, l2)), (3, (2, l3)), (4, (0, (l4 + 1))), (5, (0, (l5 + 1)))] [] (zwr M22 (l0 + 2) l4 r21) Q))))) ∨ (zK l3 = (6, 0) ∧ zCt G h sl 0 0 y_Question_told [(2, l3), (0, (Int.tdiv (M (l0 + 1) l5) 16))] M (fun r26 M27 => (0 ≤ l4 ∧ l4 < 64) ∧ ((zI (l4 + 1)) ∧ ((zI (l5 + 1)) ∧ (zX G (y_Code_run, h + 1, sl) u 6 [(0, (2, l0)), (2, (0, l2)), (3, (2, l3)), (4, (0, (l4 + 1))), (5, (0, (l5 + 1)))] [] (zwr M27 (l0 + 2) l4 r26) Q)))))) ∧ (¬ (¬ (Int.tmod (M (l0 + 1) l5) 16) = 0) → (0 ≤ l4 ∧ l4 < 64) ∧ ((zI (l4 + 1)) ∧ ((zI (l5 + 1)) ∧ (zX G (y_Code_run, h + 1, sl) u 6 [(0, (2, l0)), (2, (0, l2)), (3, (2, l3)), (4, (0, (l4 + 1))), (5, (0, (l5 + 1)))] [] (zwr M (l0 + 2) l4 (Int.tdiv (M (l0 + 1) l5) 16)) Q))))) ∧ (¬ l4 < 64 → Q 0 M)))))))) : zX G (y_Code_run, h + 1, sl) u 6 [(0, (2, l0)), (2, (0, l2)), (3, (2, l3)), (4, (0, l4)), (5, (0, l5))] [] M Q := by
  refine x_iload (zdm d_Code_run_0 4 rfl) (n := 4) rfl ?_
  refine x_iload_n (zdm d_Code_run_0 5 rfl) rfl (n := 1) rfl ?_
  refine x_icmpge (tgt := 194) (zdm d_Code_run_0 6 rfl) (by decide) (fun c => ?_) (fun c => ?_)
  · have H := H.1 c
    exact zX.sub [0, 3] rfl H
  · have H := H.2 c
    refine x_iload (zdm d_Code_run_0 7 rfl) (n := 4) rfl ?_
    refine x_aload_n (zdm d_Code_run_0 8 rfl) rfl (n := 0) rfl ?_
    obtain ⟨g1, H⟩ := H
    refine x_getf (zdm d_Code_run_0 9 rfl) f_Code_20 g1 rfl ?_
    refine x_icmpge (tgt := 194) (zdm d_Code_run_0 10 rfl) (by decide) (fun c => ?_) (fun c => ?_)
    · have H := H.1 c
      exact zX.sub [0, 3] rfl H
    · have H := H.2 c
      refine x_aload_n (zdm d_Code_run_0 11 rfl) rfl (n := 0) rfl ?_
      refine x_getG (zdm d_Code_run_0 12 rfl) f_Code_11 g1 rfl (by decide) hsl (zs_0 g1).1.1 ?_
      refine x_iload (zdm d_Code_run_0 13 rfl) (n := 4) rfl ?_
      obtain ⟨g2, H⟩ := H
      refine x_iald (zdm d_Code_run_0 14 rfl) (zs_0 g1).1.2 g2 ?_
      refine x_bipush (zdm d_Code_run_0 15 rfl) (by decide) ?_
      refine x_irem (zdm d_Code_run_0 16 rfl) (by decide) ?_
      refine x_istore (zdm d_Code_run_0 17 rfl) (zlt rfl) rfl ?_
      refine x_aload_n (zdm d_Code_run_0 18 rfl) rfl (n := 1) rfl ?_
      refine x_getG (zdm d_Code_run_0 19 rfl) f_Code_11 g1 rfl (by decide) hsl (zs_0 g1).1.1 ?_
      refine x_iload (zdm d_Code_run_0 20 rfl) (n := 5) rfl ?_
      refine x_iald (zdm d_Code_run_0 21 rfl) (zs_0 g1).1.2 g2 ?_
      refine x_bipush (zdm d_Code_run_0 22 rfl) (by decide) ?_
      obtain ⟨g3, H⟩ := H
      refine x_idiv (zdm d_Code_run_0 23 rfl) (by decide) g3 ?_
      refine x_istore (zdm d_Code_run_0 24 rfl) (zlt rfl) rfl ?_
      refine x_iload (zdm d_Code_run_0 25 rfl) (n := 1) rfl ?_
      refine x_iconst (zdm d_Code_run_0 26 rfl) (zIl rfl) ?_
      refine x_icmpgt (tgt := 89) (zdm d_Code_run_0 27 rfl) (by decide) (fun c => ?_) (fun c => ?_)
      · have H := H.1 c
        refine x_iload (zdm d_Code_run_0 46 rfl) (n := 1) rfl ?_
        refine x_iconst (zdm d_Code_run_0 47 rfl) (zIl rfl) ?_
        refine x_icmpgt (tgt := 147) (zdm d_Code_run_0 48 rfl) (by decide) (fun c => ?_) (fun c => ?_)
        · have H := H.1 c
          refine x_iload (zdm d_Code_run_1 19 rfl) (n := 5) rfl ?_
          refine x_iconst (zdm d_Code_run_1 20 rfl) (zIl rfl) ?_
          refine x_icmpge (tgt := 155) (zdm d_Code_run_1 21 rfl) (by decide) (fun c => ?_) (fun c => ?_)
          · have H := H.1 c
            obtain ⟨g4, H⟩ := H
            refine x_iinc (zdm d_Code_run_1 24 rfl) (n := 5) rfl g4 (zlt rfl) rfl ?_
            refine x_aload_n (zdm d_Code_run_1 25 rfl) rfl (n := 3) rfl ?_
            refine x_getG (zdm d_Code_run_1 26 rfl) f_Code_17 g1 rfl (by decide) hsl (zs_0 g1).2.1 ?_
            refine x_iload (zdm d_Code_run_1 27 rfl) (n := 0) rfl ?_
            refine x_iconst (zdm d_Code_run_1 28 rfl) (zIl rfl) ?_
            obtain ⟨g5, H⟩ := H
            refine x_isub (zdm d_Code_run_1 29 rfl) g5 ?_
            refine x_iload (zdm d_Code_run_1 30 rfl) (n := 2) rfl ?_
            refine x_aload_n (zdm d_Code_run_1 31 rfl) rfl (n := 3) rfl ?_
            refine x_getG (zdm d_Code_run_1 32 rfl) f_Code_17 g1 rfl (by decide) hsl (zs_0 g1).2.1 ?_
            refine x_iload (zdm d_Code_run_1 33 rfl) (n := 0) rfl ?_
            refine x_iconst (zdm d_Code_run_1 34 rfl) (zIl rfl) ?_
            refine x_isub (zdm d_Code_run_1 35 rfl) g5 ?_
            obtain ⟨g6, H⟩ := H
            refine x_iald (zdm d_Code_run_1 36 rfl) (zs_0 g1).2.2 g6 ?_
            refine x_aload_n (zdm d_Code_run_1 37 rfl) rfl (n := 3) rfl ?_
            refine x_getG (zdm d_Code_run_1 38 rfl) f_Code_17 g1 rfl (by decide) hsl (zs_0 g1).2.1 ?_
            refine x_iload (zdm d_Code_run_1 39 rfl) (n := 0) rfl ?_
            obtain ⟨g7, H⟩ := H
            refine x_iald (zdm d_Code_run_1 40 rfl) (zs_0 g1).2.2 g7 ?_
            refine x_callSi (n := 3) (zdm d_Code_run_1 41 rfl) k_Code_34 (As := [(0, (Int.tmod (M (l0 + 1) l5) 16)), (0, (M (l0 + 2) ((l4 + (-1)) - 1))), (0, (M (l0 + 2) (l4 + (-1))))]) rfl rfl (Nat.le_of_ble_eq_true rfl) trivial H (fun r8 M9 hr H => ?_)
            refine x_iast (zdm d_Code_run_1 42 rfl) (zs_0 g1).2.2 g6 ?_
            obtain ⟨g10, H⟩ := H
            refine x_iinc (zdm d_Code_run_1 43 rfl) (n := 6) rfl g10 (zlt rfl) rfl ?_
            refine x_goto (tgt := 6) (zdm d_Code_run_1 44 rfl) (by decide) ?_
            exact zX.sub [4, 5, 6, 1, 0] rfl H
          · have H := H.2 c
            refine x_iconst (zdm d_Code_run_1 22 rfl) (zIl rfl) ?_
            exact x_iret (zdm d_Code_run_1 23 rfl) rfl H
        · have H := H.2 c
          refine x_iload (zdm d_Code_run_0 49 rfl) (n := 5) rfl ?_
          refine x_iconst (zdm d_Code_run_0 50 rfl) (zIl rfl) ?_
          refine x_icmpge (tgt := 103) (zdm d_Code_run_0 51 rfl) (by decide) (fun c => ?_) (fun c => ?_)
          · have H := H.1 c
            refine x_aload_n (zdm d_Code_run_0 54 rfl) rfl (n := 2) rfl ?_
            refine x_getG (zdm d_Code_run_0 55 rfl) f_Code_17 g1 rfl (by decide) hsl (zs_0 g1).2.1 ?_
            refine x_iload (zdm d_Code_run_0 56 rfl) (n := 5) rfl ?_
            refine x_iconst (zdm d_Code_run_0 57 rfl) (zIl rfl) ?_
            obtain ⟨g11, H⟩ := H
            refine x_isub (zdm d_Code_run_0 58 rfl) g11 ?_
            obtain ⟨g12, H⟩ := H
            refine x_iald (zdm d_Code_run_0 59 rfl) (zs_0 g1).2.2 g12 ?_
            refine x_istore (zdm d_Code_run_1 0 rfl) (zlt rfl) rfl ?_
            refine x_aload_n (zdm d_Code_run_1 1 rfl) rfl (n := 3) rfl ?_
            refine x_getG (zdm d_Code_run_1 2 rfl) f_Code_17 g1 rfl (by decide) hsl (zs_0 g1).2.1 ?_
            refine x_iload (zdm d_Code_run_1 3 rfl) (n := 6) rfl ?_
            refine x_iconst (zdm d_Code_run_1 4 rfl) (zIl rfl) ?_
            refine x_isub (zdm d_Code_run_1 5 rfl) g11 ?_
            refine x_iload (zdm d_Code_run_1 6 rfl) (n := 2) rfl ?_
            refine x_iconst (zdm d_Code_run_1 7 rfl) (zIl rfl) ?_
            refine x_icmpne (tgt := 135) (zdm d_Code_run_1 8 rfl) (by decide) (fun c => ?_) (fun c => ?_)
            · have H := H.1 c
              refine x_aload_n (zdm d_Code_run_1 13 rfl) rfl (n := 5) rfl ?_
              refine x_iload (zdm d_Code_run_1 14 rfl) (n := 1) rfl ?_
              refine x_iload (zdm d_Code_run_1 15 rfl) (n := 0) rfl ?_
              rcases H with ⟨gk, H⟩ | ⟨gk, H⟩
              · refine x_callAi (n := 2) (ci := 8) (zdm d_Code_run_1 16 rfl) ka_Code_30_Tablet (As := [(0, (Int.tdiv (M (l0 + 1) l5) 16)), (0, (M (l0 + 2) (l4 - 1)))]) rfl rfl gk ⟨_, _, rfl⟩ (Nat.le_of_ble_eq_true rfl) trivial H (fun r13 M14 hr H => ?_)
                refine x_iast (zdm d_Code_run_1 17 rfl) (zs_0 g1).2.2 g12 ?_
                refine x_goto (tgt := 188) (zdm d_Code_run_1 18 rfl) (by decide) ?_
                obtain ⟨g15, H⟩ := H
                refine x_iinc (zdm d_Code_run_1 43 rfl) (n := 7) rfl g15 (zlt rfl) rfl ?_
                refine x_goto (tgt := 6) (zdm d_Code_run_1 44 rfl) (by decide) ?_
                exact zX.sub [4, 5, 6, 7, 0] rfl H
              · refine x_callAi (n := 2) (ci := 6) (zdm d_Code_run_1 16 rfl) ka_Code_30_Question (As := [(0, (Int.tdiv (M (l0 + 1) l5) 16)), (0, (M (l0 + 2) (l4 - 1)))]) rfl rfl gk ⟨_, _, rfl⟩ (Nat.le_of_ble_eq_true rfl) trivial H (fun r16 M17 hr H => ?_)
                refine x_iast (zdm d_Code_run_1 17 rfl) (zs_0 g1).2.2 g12 ?_
                refine x_goto (tgt := 188) (zdm d_Code_run_1 18 rfl) (by decide) ?_
                obtain ⟨g18, H⟩ := H
                refine x_iinc (zdm d_Code_run_1 43 rfl) (n := 7) rfl g18 (zlt rfl) rfl ?_
                refine x_goto (tgt := 6) (zdm d_Code_run_1 44 rfl) (by decide) ?_
                exact zX.sub [4, 5, 6, 7, 0] rfl H
            · have H := H.2 c
              refine x_iconst (zdm d_Code_run_1 9 rfl) (zIl rfl) ?_
              refine x_iload (zdm d_Code_run_1 10 rfl) (n := 0) rfl ?_
              obtain ⟨g19, H⟩ := H
              refine x_isub (zdm d_Code_run_1 11 rfl) g19 ?_
              refine x_goto (tgt := 143) (zdm d_Code_run_1 12 rfl) (by decide) ?_
              refine x_iast (zdm d_Code_run_1 17 rfl) (zs_0 g1).2.2 g12 ?_
              refine x_goto (tgt := 188) (zdm d_Code_run_1 18 rfl) (by decide) ?_
              obtain ⟨g20, H⟩ := H
              refine x_iinc (zdm d_Code_run_1 43 rfl) (n := 7) rfl g20 (zlt rfl) rfl ?_
              refine x_goto (tgt := 6) (zdm d_Code_run_1 44 rfl) (by decide) ?_
              exact zX.sub [4, 5, 6, 7, 0] rfl H
          · have H := H.2 c
            refine x_iconst (zdm d_Code_run_0 52 rfl) (zIl rfl) ?_
            exact x_iret (zdm d_Code_run_0 53 rfl) rfl H
      · have H := H.2 c
        refine x_iload (zdm d_Code_run_0 28 rfl) (n := 5) rfl ?_
        refine x_bipush (zdm d_Code_run_0 29 rfl) (by decide) ?_
        refine x_icmplt (tgt := 60) (zdm d_Code_run_0 30 rfl) (by decide) (fun c => ?_) (fun c => ?_)
        · have H := H.1 c
          refine x_aload_n (zdm d_Code_run_0 33 rfl) rfl (n := 2) rfl ?_
          refine x_getG (zdm d_Code_run_0 34 rfl) f_Code_17 g1 rfl (by decide) hsl (zs_0 g1).2.1 ?_
          refine x_iload (zdm d_Code_run_0 35 rfl) (n := 5) rfl ?_
          refine x_iload (zdm d_Code_run_0 36 rfl) (n := 1) rfl ?_
          refine x_ifne (tgt := 76) (zdm d_Code_run_0 37 rfl) (by decide) (fun c => ?_) (fun c => ?_)
          · have H := H.1 c
            refine x_aload_n (zdm d_Code_run_0 40 rfl) rfl (n := 4) rfl ?_
            refine x_iload (zdm d_Code_run_0 41 rfl) (n := 0) rfl ?_
            rcases H with ⟨gk, H⟩ | ⟨gk, H⟩
            · refine x_callAi (n := 1) (ci := 8) (zdm d_Code_run_0 42 rfl) ka_Code_24_Tablet (As := [(0, (Int.tdiv (M (l0 + 1) l5) 16))]) rfl rfl gk ⟨_, _, rfl⟩ (Nat.le_of_ble_eq_true rfl) trivial H (fun r21 M22 hr H => ?_)
              obtain ⟨g23, H⟩ := H
              refine x_iast (zdm d_Code_run_0 43 rfl) (zs_0 g1).2.2 g23 ?_
              obtain ⟨g24, H⟩ := H
              refine x_iinc (zdm d_Code_run_0 44 rfl) (n := 5) rfl g24 (zlt rfl) rfl ?_
              refine x_goto (tgt := 188) (zdm d_Code_run_0 45 rfl) (by decide) ?_
              obtain ⟨g25, H⟩ := H
              refine x_iinc (zdm d_Code_run_1 43 rfl) (n := 6) rfl g25 (zlt rfl) rfl ?_
              refine x_goto (tgt := 6) (zdm d_Code_run_1 44 rfl) (by decide) ?_
              exact zX.sub [4, 5, 6, 1, 0] rfl H
            · refine x_callAi (n := 1) (ci := 6) (zdm d_Code_run_0 42 rfl) ka_Code_24_Question (As := [(0, (Int.tdiv (M (l0 + 1) l5) 16))]) rfl rfl gk ⟨_, _, rfl⟩ (Nat.le_of_ble_eq_true rfl) trivial H (fun r26 M27 hr H => ?_)
              obtain ⟨g28, H⟩ := H
              refine x_iast (zdm d_Code_run_0 43 rfl) (zs_0 g1).2.2 g28 ?_
              obtain ⟨g29, H⟩ := H
              refine x_iinc (zdm d_Code_run_0 44 rfl) (n := 5) rfl g29 (zlt rfl) rfl ?_
              refine x_goto (tgt := 188) (zdm d_Code_run_0 45 rfl) (by decide) ?_
              obtain ⟨g30, H⟩ := H
              refine x_iinc (zdm d_Code_run_1 43 rfl) (n := 6) rfl g30 (zlt rfl) rfl ?_
              refine x_goto (tgt := 6) (zdm d_Code_run_1 44 rfl) (by decide) ?_
              exact zX.sub [4, 5, 6, 1, 0] rfl H
          · have H := H.2 c
            refine x_iload (zdm d_Code_run_0 38 rfl) (n := 0) rfl ?_
            refine x_goto (tgt := 82) (zdm d_Code_run_0 39 rfl) (by decide) ?_
            obtain ⟨g31, H⟩ := H
            refine x_iast (zdm d_Code_run_0 43 rfl) (zs_0 g1).2.2 g31 ?_
            obtain ⟨g32, H⟩ := H
            refine x_iinc (zdm d_Code_run_0 44 rfl) (n := 5) rfl g32 (zlt rfl) rfl ?_
            refine x_goto (tgt := 188) (zdm d_Code_run_0 45 rfl) (by decide) ?_
            obtain ⟨g33, H⟩ := H
            refine x_iinc (zdm d_Code_run_1 43 rfl) (n := 6) rfl g33 (zlt rfl) rfl ?_
            refine x_goto (tgt := 6) (zdm d_Code_run_1 44 rfl) (by decide) ?_
            exact zX.sub [4, 5, 6, 1, 0] rfl H
        · have H := H.2 c
          refine x_iconst (zdm d_Code_run_0 31 rfl) (zIl rfl) ?_
          exact x_iret (zdm d_Code_run_0 32 rfl) rfl H
set_option maxRecDepth 20000 in
set_option maxHeartbeats 4000000 in
theorem E_Code_run {G : zG} {h sl : Nat} (hsl : 1 ≤ sl) {l0 l1 l2 l3 : Int} {M : zM} {Q : Int → zM → Prop} (H : zX G (y_Code_run, h + 1, sl) (0, 0, 0, 0) 6 [(0, (2, l0)), (2, (0, l2)), (3, (2, l3)), (4, (0, 0)), (5, (0, l1))] [] M Q) : zCt G (h + 1) sl 0 0 y_Code_run [(2, l0), (0, l1), (0, l2), (2, l3)] M Q := by
  refine zCt.of (by decide +kernel) (Nat.le_of_ble_eq_true rfl) ?_
  refine x_iconst (zdm d_Code_run_0 0 rfl) (zIl rfl) ?_
  refine x_istore (zdm d_Code_run_0 1 rfl) (zlt rfl) rfl ?_
  refine x_iload_n (zdm d_Code_run_0 2 rfl) rfl (n := 2) rfl ?_
  refine x_istore (zdm d_Code_run_0 3 rfl) (zlt rfl) rfl ?_
  exact zX.sub [2, 4, 5, 1, 0] rfl H
set_option maxRecDepth 20000 in
set_option maxHeartbeats 4000000 in
theorem E_Code_joined {G : zG} {h sl : Nat} (hsl : 1 ≤ sl) {l0 l1 l2 : Int} {M : zM} {Q : Int → zM → Prop} (H : (l0 = 4 → (zL (l1 + l2)) ∧ (zCt G h sl 0 0 y_Jm_min_JJJ [(1, 1000000), (1, (l1 + l2))] M (fun r2 M3 => zCt G h sl 0 0 y_Jm_max_JJJ [(1, (-1000000)), (1, r2)] M3 (fun r4 M5 => Q (zl2i r4) M5)))) ∧ (l0 = 5 → (zL (l1 - l2)) ∧ (zCt G h sl 0 0 y_Jm_min_JJJ [(1, 1000000), (1, (l1 - l2))] M (fun r7 M8 => zCt G h sl 0 0 y_Jm_max_JJJ [(1, (-1000000)), (1, r7)] M8 (fun r9 M10 => Q (zl2i r9) M10)))) ∧ (l0 = 6 → (zL (l1 * l2)) ∧ (zCt G h sl 0 0 y_Jm_min_JJJ [(1, 1000000), (1, (l1 * l2))] M (fun r12 M13 => zCt G h sl 0 0 y_Jm_max_JJJ [(1, (-1000000)), (1, r12)] M13 (fun r14 M15 => Q (zl2i r14) M15)))) ∧ (l0 = 7 → (¬ l2 = 0 → zCt G h sl 0 0 y_Jm_floorDiv [(0, l1), (0, l2)] M (fun r16 M17 => Q r16 M17)) ∧ (¬ (¬ l2 = 0) → Q 0 M)) ∧ (l0 = 8 → zCt G h sl 0 0 y_Jm_min_III [(0, l1), (0, l2)] M (fun r18 M19 => Q r18 M19)) ∧ (l0 = 9 → zCt G h sl 0 0 y_Jm_max_III [(0, l1), (0, l2)] M (fun r20 M21 => Q r20 M21)) ∧ (l0 = 10 → (l2 ≤ l1 → Q 0 M) ∧ (¬ l2 ≤ l1 → Q 1 M)) ∧ (l0 = 11 → (l1 ≤ l2 → Q 0 M) ∧ (¬ l1 ≤ l2 → Q 1 M)) ∧ (l0 = 12 → (¬ l1 = l2 → Q 0 M) ∧ (¬ (¬ l1 = l2) → Q 1 M)) ∧ (l0 = 13 → Q (zand l1 l2) M) ∧ (l0 = 14 → Q (zor l1 l2) M) ∧ ((l0 < 4 ∨ 14 < l0) → Q 0 M)) : zCt G (h + 1) sl 0 0 y_Code_joined [(0, l0), (0, l1), (0, l2)] M Q := by
  refine zCt.of (by decide +kernel) (Nat.le_of_ble_eq_true rfl) ?_
  refine x_iload_n (zdm d_Code_joined_0 0 rfl) rfl (n := 0) rfl ?_
  by_cases c0 : l0 = 4
  · refine x_tsw (tgt := 60) (zdm d_Code_joined_0 1 rfl) c0 (by decide) rfl (by decide) ?_
    have H := H.1 c0
    refine x_ldc2 (zdm d_Code_joined_0 2 rfl) (n := (-1000000)) (zLl rfl) w_Code_38 ?_
    refine x_ldc2 (zdm d_Code_joined_0 3 rfl) (n := 1000000) (zLl rfl) w_Code_40 ?_
    refine x_iload_n (zdm d_Code_joined_0 4 rfl) rfl (n := 1) rfl ?_
    refine x_i2l (zdm d_Code_joined_0 5 rfl) ?_
    refine x_iload_n (zdm d_Code_joined_0 6 rfl) rfl (n := 2) rfl ?_
    refine x_i2l (zdm d_Code_joined_0 7 rfl) ?_
    obtain ⟨g1, H⟩ := H
    refine x_ladd (zdm d_Code_joined_0 8 rfl) g1 ?_
    refine x_callSl (n := 2) (zdm d_Code_joined_0 9 rfl) k_Code_42 (As := [(1, 1000000), (1, (l1 + l2))]) rfl rfl (Nat.le_of_ble_eq_true rfl) rfl H (fun r2 M3 hr H => ?_)
    refine x_callSl (n := 2) (zdm d_Code_joined_0 10 rfl) k_Code_48 (As := [(1, (-1000000)), (1, r2)]) rfl rfl (Nat.le_of_ble_eq_true rfl) rfl H (fun r4 M5 hr H => ?_)
    refine x_l2i (zdm d_Code_joined_0 11 rfl) ?_
    exact x_iret (zdm d_Code_joined_0 12 rfl) rfl H
  · skip
    by_cases c1 : l0 = 5
    · refine x_tsw (tgt := 79) (zdm d_Code_joined_0 1 rfl) c1 (by decide) rfl (by decide) ?_
      have H := H.2.1 c1
      refine x_ldc2 (zdm d_Code_joined_0 13 rfl) (n := (-1000000)) (zLl rfl) w_Code_38 ?_
      refine x_ldc2 (zdm d_Code_joined_0 14 rfl) (n := 1000000) (zLl rfl) w_Code_40 ?_
      refine x_iload_n (zdm d_Code_joined_0 15 rfl) rfl (n := 1) rfl ?_
      refine x_i2l (zdm d_Code_joined_0 16 rfl) ?_
      refine x_iload_n (zdm d_Code_joined_0 17 rfl) rfl (n := 2) rfl ?_
      refine x_i2l (zdm d_Code_joined_0 18 rfl) ?_
      obtain ⟨g6, H⟩ := H
      refine x_lsub (zdm d_Code_joined_0 19 rfl) g6 ?_
      refine x_callSl (n := 2) (zdm d_Code_joined_0 20 rfl) k_Code_42 (As := [(1, 1000000), (1, (l1 - l2))]) rfl rfl (Nat.le_of_ble_eq_true rfl) rfl H (fun r7 M8 hr H => ?_)
      refine x_callSl (n := 2) (zdm d_Code_joined_0 21 rfl) k_Code_48 (As := [(1, (-1000000)), (1, r7)]) rfl rfl (Nat.le_of_ble_eq_true rfl) rfl H (fun r9 M10 hr H => ?_)
      refine x_l2i (zdm d_Code_joined_0 22 rfl) ?_
      exact x_iret (zdm d_Code_joined_0 23 rfl) rfl H
    · skip
      by_cases c2 : l0 = 6
      · refine x_tsw (tgt := 98) (zdm d_Code_joined_0 1 rfl) c2 (by decide) rfl (by decide) ?_
        have H := H.2.2.1 c2
        refine x_ldc2 (zdm d_Code_joined_0 24 rfl) (n := (-1000000)) (zLl rfl) w_Code_38 ?_
        refine x_ldc2 (zdm d_Code_joined_0 25 rfl) (n := 1000000) (zLl rfl) w_Code_40 ?_
        refine x_iload_n (zdm d_Code_joined_0 26 rfl) rfl (n := 1) rfl ?_
        refine x_i2l (zdm d_Code_joined_0 27 rfl) ?_
        refine x_iload_n (zdm d_Code_joined_0 28 rfl) rfl (n := 2) rfl ?_
        refine x_i2l (zdm d_Code_joined_0 29 rfl) ?_
        obtain ⟨g11, H⟩ := H
        refine x_lmul (zdm d_Code_joined_0 30 rfl) g11 ?_
        refine x_callSl (n := 2) (zdm d_Code_joined_0 31 rfl) k_Code_42 (As := [(1, 1000000), (1, (l1 * l2))]) rfl rfl (Nat.le_of_ble_eq_true rfl) rfl H (fun r12 M13 hr H => ?_)
        refine x_callSl (n := 2) (zdm d_Code_joined_0 32 rfl) k_Code_48 (As := [(1, (-1000000)), (1, r12)]) rfl rfl (Nat.le_of_ble_eq_true rfl) rfl H (fun r14 M15 hr H => ?_)
        refine x_l2i (zdm d_Code_joined_0 33 rfl) ?_
        exact x_iret (zdm d_Code_joined_0 34 rfl) rfl H
      · skip
        by_cases c3 : l0 = 7
        · refine x_tsw (tgt := 117) (zdm d_Code_joined_0 1 rfl) c3 (by decide) rfl (by decide) ?_
          have H := H.2.2.2.1 c3
          refine x_iload_n (zdm d_Code_joined_0 35 rfl) rfl (n := 2) rfl ?_
          refine x_ifne (tgt := 125) (zdm d_Code_joined_0 36 rfl) (by decide) (fun c => ?_) (fun c => ?_)
          · have H := H.1 c
            refine x_iload_n (zdm d_Code_joined_0 39 rfl) rfl (n := 1) rfl ?_
            refine x_iload_n (zdm d_Code_joined_0 40 rfl) rfl (n := 2) rfl ?_
            refine x_callSi (n := 2) (zdm d_Code_joined_0 41 rfl) k_Code_51 (As := [(0, l1), (0, l2)]) rfl rfl (Nat.le_of_ble_eq_true rfl) trivial H (fun r16 M17 hr H => ?_)
            exact x_iret (zdm d_Code_joined_0 42 rfl) rfl H
          · have H := H.2 c
            refine x_iconst (zdm d_Code_joined_0 37 rfl) (zIl rfl) ?_
            refine x_goto (tgt := 130) (zdm d_Code_joined_0 38 rfl) (by decide) ?_
            exact x_iret (zdm d_Code_joined_0 42 rfl) rfl H
        · skip
          by_cases c4 : l0 = 8
          · refine x_tsw (tgt := 131) (zdm d_Code_joined_0 1 rfl) c4 (by decide) rfl (by decide) ?_
            have H := H.2.2.2.2.1 c4
            refine x_iload_n (zdm d_Code_joined_0 43 rfl) rfl (n := 1) rfl ?_
            refine x_iload_n (zdm d_Code_joined_0 44 rfl) rfl (n := 2) rfl ?_
            refine x_callSi (n := 2) (zdm d_Code_joined_0 45 rfl) k_Code_54 (As := [(0, l1), (0, l2)]) rfl rfl (Nat.le_of_ble_eq_true rfl) trivial H (fun r18 M19 hr H => ?_)
            exact x_iret (zdm d_Code_joined_0 46 rfl) rfl H
          · skip
            by_cases c5 : l0 = 9
            · refine x_tsw (tgt := 137) (zdm d_Code_joined_0 1 rfl) c5 (by decide) rfl (by decide) ?_
              have H := H.2.2.2.2.2.1 c5
              refine x_iload_n (zdm d_Code_joined_0 47 rfl) rfl (n := 1) rfl ?_
              refine x_iload_n (zdm d_Code_joined_0 48 rfl) rfl (n := 2) rfl ?_
              refine x_callSi (n := 2) (zdm d_Code_joined_0 49 rfl) k_Code_56 (As := [(0, l1), (0, l2)]) rfl rfl (Nat.le_of_ble_eq_true rfl) trivial H (fun r20 M21 hr H => ?_)
              exact x_iret (zdm d_Code_joined_0 50 rfl) rfl H
            · skip
              by_cases c6 : l0 = 10
              · refine x_tsw (tgt := 143) (zdm d_Code_joined_0 1 rfl) c6 (by decide) rfl (by decide) ?_
                have H := H.2.2.2.2.2.2.1 c6
                refine x_iload_n (zdm d_Code_joined_0 51 rfl) rfl (n := 1) rfl ?_
                refine x_iload_n (zdm d_Code_joined_0 52 rfl) rfl (n := 2) rfl ?_
                refine x_icmpge (tgt := 152) (zdm d_Code_joined_0 53 rfl) (by decide) (fun c => ?_) (fun c => ?_)
                · have H := H.1 c
                  refine x_iconst (zdm d_Code_joined_0 56 rfl) (zIl rfl) ?_
                  exact x_iret (zdm d_Code_joined_0 57 rfl) rfl H
                · have H := H.2 c
                  refine x_iconst (zdm d_Code_joined_0 54 rfl) (zIl rfl) ?_
                  refine x_goto (tgt := 153) (zdm d_Code_joined_0 55 rfl) (by decide) ?_
                  exact x_iret (zdm d_Code_joined_0 57 rfl) rfl H
              · skip
                by_cases c7 : l0 = 11
                · refine x_tsw (tgt := 154) (zdm d_Code_joined_0 1 rfl) c7 (by decide) rfl (by decide) ?_
                  have H := H.2.2.2.2.2.2.2.1 c7
                  refine x_iload_n (zdm d_Code_joined_0 58 rfl) rfl (n := 1) rfl ?_
                  refine x_iload_n (zdm d_Code_joined_0 59 rfl) rfl (n := 2) rfl ?_
                  refine x_icmple (tgt := 163) (zdm d_Code_joined_1 0 rfl) (by decide) (fun c => ?_) (fun c => ?_)
                  · have H := H.1 c
                    refine x_iconst (zdm d_Code_joined_1 3 rfl) (zIl rfl) ?_
                    exact x_iret (zdm d_Code_joined_1 4 rfl) rfl H
                  · have H := H.2 c
                    refine x_iconst (zdm d_Code_joined_1 1 rfl) (zIl rfl) ?_
                    refine x_goto (tgt := 164) (zdm d_Code_joined_1 2 rfl) (by decide) ?_
                    exact x_iret (zdm d_Code_joined_1 4 rfl) rfl H
                · skip
                  by_cases c8 : l0 = 12
                  · refine x_tsw (tgt := 165) (zdm d_Code_joined_0 1 rfl) c8 (by decide) rfl (by decide) ?_
                    have H := H.2.2.2.2.2.2.2.2.1 c8
                    refine x_iload_n (zdm d_Code_joined_1 5 rfl) rfl (n := 1) rfl ?_
                    refine x_iload_n (zdm d_Code_joined_1 6 rfl) rfl (n := 2) rfl ?_
                    refine x_icmpne (tgt := 174) (zdm d_Code_joined_1 7 rfl) (by decide) (fun c => ?_) (fun c => ?_)
                    · have H := H.1 c
                      refine x_iconst (zdm d_Code_joined_1 10 rfl) (zIl rfl) ?_
                      exact x_iret (zdm d_Code_joined_1 11 rfl) rfl H
                    · have H := H.2 c
                      refine x_iconst (zdm d_Code_joined_1 8 rfl) (zIl rfl) ?_
                      refine x_goto (tgt := 175) (zdm d_Code_joined_1 9 rfl) (by decide) ?_
                      exact x_iret (zdm d_Code_joined_1 11 rfl) rfl H
                  · skip
                    by_cases c9 : l0 = 13
                    · refine x_tsw (tgt := 176) (zdm d_Code_joined_0 1 rfl) c9 (by decide) rfl (by decide) ?_
                      have H := H.2.2.2.2.2.2.2.2.2.1 c9
                      refine x_iload_n (zdm d_Code_joined_1 12 rfl) rfl (n := 1) rfl ?_
                      refine x_iload_n (zdm d_Code_joined_1 13 rfl) rfl (n := 2) rfl ?_
                      refine x_iand (zdm d_Code_joined_1 14 rfl) ?_
                      exact x_iret (zdm d_Code_joined_1 15 rfl) rfl H
                    · skip
                      by_cases c10 : l0 = 14
                      · refine x_tsw (tgt := 180) (zdm d_Code_joined_0 1 rfl) c10 (by decide) rfl (by decide) ?_
                        have H := H.2.2.2.2.2.2.2.2.2.2.1 c10
                        refine x_iload_n (zdm d_Code_joined_1 16 rfl) rfl (n := 1) rfl ?_
                        refine x_iload_n (zdm d_Code_joined_1 17 rfl) rfl (n := 2) rfl ?_
                        refine x_ior (zdm d_Code_joined_1 18 rfl) ?_
                        exact x_iret (zdm d_Code_joined_1 19 rfl) rfl H
                      · skip
                        have cd : (l0 < 4 ∨ 14 < l0) := by omega
                        refine x_tswd (tgt := 184) (zdm d_Code_joined_0 1 rfl) cd (by decide) ?_
                        have H := H.2.2.2.2.2.2.2.2.2.2.2 cd
                        refine x_iconst (zdm d_Code_joined_1 20 rfl) (zIl rfl) ?_
                        exact x_iret (zdm d_Code_joined_1 21 rfl) rfl H
