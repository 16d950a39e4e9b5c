set_option maxRecDepth 20000 in
set_option maxHeartbeats 4000000 in
theorem E_Line_copy {G : zG} {h sl : Nat} (hsl : 1 ≤ sl) {l0 l1 : Int} {M : zM} {Q : Int → zM → Prop} (H : (zK l1 = (4, 0)) ∧ ((zK l0 = (4, 0)) ∧ (Q 0 (zob (zwr (zwr M l0 1 (M l1 1)) l0 2 ((zwr M l0 1 (M l1 1)) l1 2)) (l0 + 1) (fun b => if 0 ≤ b ∧ b < 0 + 8 then (zwr (zwr M l0 1 (M l1 1)) l0 2 ((zwr M l0 1 (M l1 1)) l1 2)) (l1 + 1) (0 + (b - 0)) else (zwr (zwr M l0 1 (M l1 1)) l0 2 ((zwr M l0 1 (M l1 1)) l1 2)) (l0 + 1) b))))) : zCt G (h + 1) sl 0 0 y_Line_copy [(2, l0), (2, l1)] M Q := by
  refine zCt.of (by decide +kernel) (Nat.le_of_ble_eq_true rfl) ?_
  refine x_aload_n (zdm d_Line_copy_0 0 rfl) rfl (n := 0) rfl ?_
  refine x_aload_n (zdm d_Line_copy_0 1 rfl) rfl (n := 1) rfl ?_
  obtain ⟨g1, H⟩ := H
  refine x_getf (zdm d_Line_copy_0 2 rfl) f_Line_15 g1 rfl ?_
  obtain ⟨g2, H⟩ := H
  refine x_putf (zdm d_Line_copy_0 3 rfl) f_Line_15 g2 ⟨rfl, trivial⟩ (Or.inl rfl) ?_
  refine x_aload_n (zdm d_Line_copy_0 4 rfl) rfl (n := 0) rfl ?_
  refine x_aload_n (zdm d_Line_copy_0 5 rfl) rfl (n := 1) rfl ?_
  refine x_getf (zdm d_Line_copy_0 6 rfl) f_Line_19 g1 rfl ?_
  refine x_putf (zdm d_Line_copy_0 7 rfl) f_Line_19 g2 ⟨rfl, trivial⟩ (Or.inl rfl) ?_
  refine x_aload_n (zdm d_Line_copy_0 8 rfl) rfl (n := 1) rfl ?_
  refine x_getG (zdm d_Line_copy_0 9 rfl) f_Line_9 g1 rfl (by decide) hsl (zs_4 g1).1 ?_
  refine x_iconst (zdm d_Line_copy_0 10 rfl) (zIl rfl) ?_
  refine x_aload_n (zdm d_Line_copy_0 11 rfl) rfl (n := 0) rfl ?_
  refine x_getG (zdm d_Line_copy_0 12 rfl) f_Line_9 g2 rfl (by decide) hsl (zs_4 g2).1 ?_
  refine x_iconst (zdm d_Line_copy_0 13 rfl) (zIl rfl) ?_
  refine x_bipush (zdm d_Line_copy_0 14 rfl) (by decide) ?_
  refine x_copy (zdm d_Line_copy_0 15 rfl) w_Line_22 w_copy_n w_copy_s w_copy_i (zs_4 g1).2 (zs_4 g2).2 (by decide) (by decide) (by decide) (by decide) (by decide) (Nat.le_of_ble_eq_true rfl) ?_
  exact x_return (zdm d_Line_copy_0 16 rfl) rfl H
set_option maxRecDepth 20000 in
set_option maxHeartbeats 4000000 in
theorem E_Line_goesUp {G : zG} {h sl : Nat} (hsl : 1 ≤ sl) {l0 l1 : Int} {M : zM} {Q : Int → zM → Prop} (H : (zK l0 = (4, 0)) ∧ ((¬ (zand (zshr (M l0 2) l1) 1) = 1 → Q 0 M) ∧ (¬ (¬ (zand (zshr (M l0 2) l1) 1) = 1) → Q 1 M))) : zCt G h sl 0 0 y_Line_goesUp [(2, l0), (0, l1)] M Q := by
  refine zCt.of (by decide +kernel) (Nat.le_of_ble_eq_true rfl) ?_
  refine x_aload_n (zdm d_Line_goesUp_0 0 rfl) rfl (n := 0) rfl ?_
  obtain ⟨g1, H⟩ := H
  refine x_getf (zdm d_Line_goesUp_0 1 rfl) f_Line_19 g1 rfl ?_
  refine x_iload_n (zdm d_Line_goesUp_0 2 rfl) rfl (n := 1) rfl ?_
  refine x_ishr (zdm d_Line_goesUp_0 3 rfl) ?_
  refine x_iconst (zdm d_Line_goesUp_0 4 rfl) (zIl rfl) ?_
  refine x_iand (zdm d_Line_goesUp_0 5 rfl) ?_
  refine x_iconst (zdm d_Line_goesUp_0 6 rfl) (zIl rfl) ?_
  refine x_icmpne (tgt := 16) (zdm d_Line_goesUp_0 7 rfl) (by decide) (fun c => ?_) (fun c => ?_)
  · have H := H.1 c
    refine x_iconst (zdm d_Line_goesUp_0 10 rfl) (zIl rfl) ?_
    exact x_ireturn (zdm d_Line_goesUp_0 11 rfl) (ty := .boolean) rfl (by decide) (Or.inl rfl) H
  · have H := H.2 c
    refine x_iconst (zdm d_Line_goesUp_0 8 rfl) (zIl rfl) ?_
    refine x_goto (tgt := 17) (zdm d_Line_goesUp_0 9 rfl) (by decide) ?_
    exact x_ireturn (zdm d_Line_goesUp_0 11 rfl) (ty := .boolean) rfl (by decide) (Or.inr rfl) H
set_option maxRecDepth 20000 in
set_option maxHeartbeats 4000000 in
theorem E_Line_go {G : zG} {h sl : Nat} (hsl : 1 ≤ sl) {l0 l1 l2 : Int} {M : zM} {Q : Int → zM → Prop} (H : (l2 = 0 → (zK l0 = (4, 0)) ∧ (Q 0 (zwr M l0 2 (zand (M l0 2) (zxor (zshl 1 l1) (-1)))))) ∧ (¬ l2 = 0 → (zK l0 = (4, 0)) ∧ (Q 0 (zwr M l0 2 (zor (M l0 2) (zshl 1 l1)))))) : zCt G h sl 0 0 y_Line_go [(2, l0), (0, l1), (0, l2)] M Q := by
  refine zCt.of (by decide +kernel) (Nat.le_of_ble_eq_true rfl) ?_
  refine x_aload_n (zdm d_Line_go_0 0 rfl) rfl (n := 0) rfl ?_
  refine x_iload_n (zdm d_Line_go_0 1 rfl) rfl (n := 2) rfl ?_
  refine x_ifeq (tgt := 16) (zdm d_Line_go_0 2 rfl) (by decide) (fun c => ?_) (fun c => ?_)
  · have H := H.1 c
    refine x_aload_n (zdm d_Line_go_0 10 rfl) rfl (n := 0) rfl ?_
    obtain ⟨g1, H⟩ := H
    refine x_getf (zdm d_Line_go_0 11 rfl) f_Line_19 g1 rfl ?_
    refine x_iconst (zdm d_Line_go_0 12 rfl) (zIl rfl) ?_
    refine x_iload_n (zdm d_Line_go_0 13 rfl) rfl (n := 1) rfl ?_
    refine x_ishl (zdm d_Line_go_0 14 rfl) ?_
    refine x_iconst (zdm d_Line_go_0 15 rfl) (zIl rfl) ?_
    refine x_ixor (zdm d_Line_go_0 16 rfl) ?_
    refine x_iand (zdm d_Line_go_0 17 rfl) ?_
    refine x_putf (zdm d_Line_go_0 18 rfl) f_Line_19 g1 ⟨rfl, trivial⟩ (Or.inl rfl) ?_
    exact x_return (zdm d_Line_go_0 19 rfl) rfl H
  · have H := H.2 c
    refine x_aload_n (zdm d_Line_go_0 3 rfl) rfl (n := 0) rfl ?_
    obtain ⟨g2, H⟩ := H
    refine x_getf (zdm d_Line_go_0 4 rfl) f_Line_19 g2 rfl ?_
    refine x_iconst (zdm d_Line_go_0 5 rfl) (zIl rfl) ?_
    refine x_iload_n (zdm d_Line_go_0 6 rfl) rfl (n := 1) rfl ?_
    refine x_ishl (zdm d_Line_go_0 7 rfl) ?_
    refine x_ior (zdm d_Line_go_0 8 rfl) ?_
    refine x_goto (tgt := 26) (zdm d_Line_go_0 9 rfl) (by decide) ?_
    refine x_putf (zdm d_Line_go_0 18 rfl) f_Line_19 g2 ⟨rfl, trivial⟩ (Or.inl rfl) ?_
    exact x_return (zdm d_Line_go_0 19 rfl) rfl H
