set_option maxRecDepth 20000 in
set_option maxHeartbeats 4000000 in
theorem E_Ji_bitCount {G : zG} {h sl : Nat} (hsl : 1 ≤ sl) {l0 : Int} {M : zM} {Q : Int → zM → Prop} (H : (zI (l0 - (zand (zushr l0 1) 1431655765))) ∧ ((zI ((zand (l0 - (zand (zushr l0 1) 1431655765)) 858993459) + (zand (zushr (l0 - (zand (zushr l0 1) 1431655765)) 2) 858993459))) ∧ ((zI (((zand (l0 - (zand (zushr l0 1) 1431655765)) 858993459) + (zand (zushr (l0 - (zand (zushr l0 1) 1431655765)) 2) 858993459)) + (zushr ((zand (l0 - (zand (zushr l0 1) 1431655765)) 858993459) + (zand (zushr (l0 - (zand (zushr l0 1) 1431655765)) 2) 858993459)) 4))) ∧ ((zI ((zand (((zand (l0 - (zand (zushr l0 1) 1431655765)) 858993459) + (zand (zushr (l0 - (zand (zushr l0 1) 1431655765)) 2) 858993459)) + (zushr ((zand (l0 - (zand (zushr l0 1) 1431655765)) 858993459) + (zand (zushr (l0 - (zand (zushr l0 1) 1431655765)) 2) 858993459)) 4)) 252645135) + (zushr (zand (((zand (l0 - (zand (zushr l0 1) 1431655765)) 858993459) + (zand (zushr (l0 - (zand (zushr l0 1) 1431655765)) 2) 858993459)) + (zushr ((zand (l0 - (zand (zushr l0 1) 1431655765)) 858993459) + (zand (zushr (l0 - (zand (zushr l0 1) 1431655765)) 2) 858993459)) 4)) 252645135) 8))) ∧ ((zI (((zand (((zand (l0 - (zand (zushr l0 1) 1431655765)) 858993459) + (zand (zushr (l0 - (zand (zushr l0 1) 1431655765)) 2) 858993459)) + (zushr ((zand (l0 - (zand (zushr l0 1) 1431655765)) 858993459) + (zand (zushr (l0 - (zand (zushr l0 1) 1431655765)) 2) 858993459)) 4)) 252645135) + (zushr (zand (((zand (l0 - (zand (zushr l0 1) 1431655765)) 858993459) + (zand (zushr (l0 - (zand (zushr l0 1) 1431655765)) 2) 858993459)) + (zushr ((zand (l0 - (zand (zushr l0 1) 1431655765)) 858993459) + (zand (zushr (l0 - (zand (zushr l0 1) 1431655765)) 2) 858993459)) 4)) 252645135) 8)) + (zushr ((zand (((zand (l0 - (zand (zushr l0 1) 1431655765)) 858993459) + (zand (zushr (l0 - (zand (zushr l0 1) 1431655765)) 2) 858993459)) + (zushr ((zand (l0 - (zand (zushr l0 1) 1431655765)) 858993459) + (zand (zushr (l0 - (zand (zushr l0 1) 1431655765)) 2) 858993459)) 4)) 252645135) + (zushr (zand (((zand (l0 - (zand (zushr l0 1) 1431655765)) 858993459) + (zand (zushr (l0 - (zand (zushr l0 1) 1431655765)) 2) 858993459)) + (zushr ((zand (l0 - (zand (zushr l0 1) 1431655765)) 858993459) + (zand (zushr (l0 - (zand (zushr l0 1) 1431655765)) 2) 858993459)) 4)) 252645135) 8)) 16))) ∧ (Q (zand (((zand (((zand (l0 - (zand (zushr l0 1) 1431655765)) 858993459) + (zand (zushr (l0 - (zand (zushr l0 1) 1431655765)) 2) 858993459)) + (zushr ((zand (l0 - (zand (zushr l0 1) 1431655765)) 858993459) + (zand (zushr (l0 - (zand (zushr l0 1) 1431655765)) 2) 858993459)) 4)) 252645135) + (zushr (zand (((zand (l0 - (zand (zushr l0 1) 1431655765)) 858993459) + (zand (zushr (l0 - (zand (zushr l0 1) 1431655765)) 2) 858993459)) + (zushr ((zand (l0 - (zand (zushr l0 1) 1431655765)) 858993459) + (zand (zushr (l0 - (zand (zushr l0 1) 1431655765)) 2) 858993459)) 4)) 252645135) 8)) + (zushr ((zand (((zand (l0 - (zand (zushr l0 1) 1431655765)) 858993459) + (zand (zushr (l0 - (zand (zushr l0 1) 1431655765)) 2) 858993459)) + (zushr ((zand (l0 - (zand (zushr l0 1) 1431655765)) 858993459) + (zand (zushr (l0 - (zand (zushr l0 1) 1431655765)) 2) 858993459)) 4)) 252645135) + (zushr (zand (((zand (l0 - (zand (zushr l0 1) 1431655765)) 858993459) + (zand (zushr (l0 - (zand (zushr l0 1) 1431655765)) 2) 858993459)) + (zushr ((zand (l0 - (zand (zushr l0 1) 1431655765)) 858993459) + (zand (zushr (l0 - (zand (zushr l0 1) 1431655765)) 2) 858993459)) 4)) 252645135) 8)) 16)) 63) M)))))) : zCt G h sl 0 0 y_Ji_bitCount [(0, l0)] M Q := by
  refine zCt.of (by decide +kernel) (Nat.le_of_ble_eq_true rfl) ?_
  refine x_iload_n (zdm d_Ji_bitCount_0 0 rfl) rfl (n := 0) rfl ?_
  refine x_iload_n (zdm d_Ji_bitCount_0 1 rfl) rfl (n := 0) rfl ?_
  refine x_iconst (zdm d_Ji_bitCount_0 2 rfl) (zIl rfl) ?_
  refine x_iushr (zdm d_Ji_bitCount_0 3 rfl) ?_
  refine x_ldcw (zdm d_Ji_bitCount_0 4 rfl) (n := 1431655765) (zIl rfl) w_Ji_265 ?_
  refine x_iand (zdm d_Ji_bitCount_0 5 rfl) ?_
  obtain ⟨g1, H⟩ := H
  refine x_isub (zdm d_Ji_bitCount_0 6 rfl) g1 ?_
  refine x_istore_n (zdm d_Ji_bitCount_0 7 rfl) rfl (zlt rfl) rfl ?_
  refine x_iload_n (zdm d_Ji_bitCount_0 8 rfl) rfl (n := 0) rfl ?_
  refine x_ldcw (zdm d_Ji_bitCount_0 9 rfl) (n := 858993459) (zIl rfl) w_Ji_266 ?_
  refine x_iand (zdm d_Ji_bitCount_0 10 rfl) ?_
  refine x_iload_n (zdm d_Ji_bitCount_0 11 rfl) rfl (n := 0) rfl ?_
  refine x_iconst (zdm d_Ji_bitCount_0 12 rfl) (zIl rfl) ?_
  refine x_iushr (zdm d_Ji_bitCount_0 13 rfl) ?_
  refine x_ldcw (zdm d_Ji_bitCount_0 14 rfl) (n := 858993459) (zIl rfl) w_Ji_266 ?_
  refine x_iand (zdm d_Ji_bitCount_0 15 rfl) ?_
  obtain ⟨g2, H⟩ := H
  refine x_iadd (zdm d_Ji_bitCount_0 16 rfl) g2 ?_
  refine x_istore_n (zdm d_Ji_bitCount_0 17 rfl) rfl (zlt rfl) rfl ?_
  refine x_iload_n (zdm d_Ji_bitCount_0 18 rfl) rfl (n := 0) rfl ?_
  refine x_iload_n (zdm d_Ji_bitCount_0 19 rfl) rfl (n := 0) rfl ?_
  refine x_iconst (zdm d_Ji_bitCount_0 20 rfl) (zIl rfl) ?_
  refine x_iushr (zdm d_Ji_bitCount_0 21 rfl) ?_
  obtain ⟨g3, H⟩ := H
  refine x_iadd (zdm d_Ji_bitCount_0 22 rfl) g3 ?_
  refine x_ldcw (zdm d_Ji_bitCount_0 23 rfl) (n := 252645135) (zIl rfl) w_Ji_267 ?_
  refine x_iand (zdm d_Ji_bitCount_0 24 rfl) ?_
  refine x_istore_n (zdm d_Ji_bitCount_0 25 rfl) rfl (zlt rfl) rfl ?_
  refine x_iload_n (zdm d_Ji_bitCount_0 26 rfl) rfl (n := 0) rfl ?_
  refine x_iload_n (zdm d_Ji_bitCount_0 27 rfl) rfl (n := 0) rfl ?_
  refine x_bipush (zdm d_Ji_bitCount_0 28 rfl) (by decide) ?_
  refine x_iushr (zdm d_Ji_bitCount_0 29 rfl) ?_
  obtain ⟨g4, H⟩ := H
  refine x_iadd (zdm d_Ji_bitCount_0 30 rfl) g4 ?_
  refine x_istore_n (zdm d_Ji_bitCount_0 31 rfl) rfl (zlt rfl) rfl ?_
  refine x_iload_n (zdm d_Ji_bitCount_0 32 rfl) rfl (n := 0) rfl ?_
  refine x_iload_n (zdm d_Ji_bitCount_0 33 rfl) rfl (n := 0) rfl ?_
  refine x_bipush (zdm d_Ji_bitCount_0 34 rfl) (by decide) ?_
  refine x_iushr (zdm d_Ji_bitCount_0 35 rfl) ?_
  obtain ⟨g5, H⟩ := H
  refine x_iadd (zdm d_Ji_bitCount_0 36 rfl) g5 ?_
  refine x_istore_n (zdm d_Ji_bitCount_0 37 rfl) rfl (zlt rfl) rfl ?_
  refine x_iload_n (zdm d_Ji_bitCount_0 38 rfl) rfl (n := 0) rfl ?_
  refine x_bipush (zdm d_Ji_bitCount_0 39 rfl) (by decide) ?_
  refine x_iand (zdm d_Ji_bitCount_0 40 rfl) ?_
  exact x_iret (zdm d_Ji_bitCount_0 41 rfl) rfl H
set_option maxRecDepth 20000 in
set_option maxHeartbeats 4000000 in
theorem E_Jm_floorDiv {G : zG} {h sl : Nat} (hsl : 1 ≤ sl) {l0 l1 : Int} {M : zM} {Q : Int → zM → Prop} (H : (l1 ≠ 0) ∧ ((zI (Int.tdiv l0 l1)) ∧ ((0 ≤ (zxor l0 l1) → Q (Int.tdiv l0 l1) M) ∧ (¬ 0 ≤ (zxor l0 l1) → (zI ((Int.tdiv l0 l1) * l1)) ∧ ((((Int.tdiv l0 l1) * l1) = l0 → Q (Int.tdiv l0 l1) M) ∧ (¬ ((Int.tdiv l0 l1) * l1) = l0 → (zI ((Int.tdiv l0 l1) - 1)) ∧ (Q ((Int.tdiv l0 l1) - 1) M))))))) : zCt G h sl 0 0 y_Jm_floorDiv [(0, l0), (0, l1)] M Q := by
  refine zCt.of (by decide +kernel) (Nat.le_of_ble_eq_true rfl) ?_
  refine x_iload_n (zdm d_Jm_floorDiv_0 0 rfl) rfl (n := 0) rfl ?_
  refine x_iload_n (zdm d_Jm_floorDiv_0 1 rfl) rfl (n := 1) rfl ?_
  obtain ⟨g1, H⟩ := H
  obtain ⟨g2, H⟩ := H
  refine x_idiv (zdm d_Jm_floorDiv_0 2 rfl) g1 g2 ?_
  refine x_istore_n (zdm d_Jm_floorDiv_0 3 rfl) rfl (zlt rfl) rfl ?_
  refine x_iload_n (zdm d_Jm_floorDiv_0 4 rfl) rfl (n := 1) rfl ?_
  refine x_iload_n (zdm d_Jm_floorDiv_0 5 rfl) rfl (n := 2) rfl ?_
  refine x_ixor (zdm d_Jm_floorDiv_0 6 rfl) ?_
  refine x_ifge (tgt := 21) (zdm d_Jm_floorDiv_0 7 rfl) (by decide) (fun c => ?_) (fun c => ?_)
  · have H := H.1 c
    refine x_iload_n (zdm d_Jm_floorDiv_0 17 rfl) rfl (n := 0) rfl ?_
    exact x_iret (zdm d_Jm_floorDiv_0 18 rfl) rfl H
  · have H := H.2 c
    refine x_iload_n (zdm d_Jm_floorDiv_0 8 rfl) rfl (n := 0) rfl ?_
    refine x_iload_n (zdm d_Jm_floorDiv_0 9 rfl) rfl (n := 2) rfl ?_
    obtain ⟨g3, H⟩ := H
    refine x_imul (zdm d_Jm_floorDiv_0 10 rfl) g3 ?_
    refine x_iload_n (zdm d_Jm_floorDiv_0 11 rfl) rfl (n := 1) rfl ?_
    refine x_icmpeq (tgt := 21) (zdm d_Jm_floorDiv_0 12 rfl) (by decide) (fun c => ?_) (fun c => ?_)
    · have H := H.1 c
      refine x_iload_n (zdm d_Jm_floorDiv_0 17 rfl) rfl (n := 0) rfl ?_
      exact x_iret (zdm d_Jm_floorDiv_0 18 rfl) rfl H
    · have H := H.2 c
      refine x_iload_n (zdm d_Jm_floorDiv_0 13 rfl) rfl (n := 0) rfl ?_
      refine x_iconst (zdm d_Jm_floorDiv_0 14 rfl) (zIl rfl) ?_
      obtain ⟨g4, H⟩ := H
      refine x_isub (zdm d_Jm_floorDiv_0 15 rfl) g4 ?_
      exact x_iret (zdm d_Jm_floorDiv_0 16 rfl) rfl H
set_option maxRecDepth 20000 in
set_option maxHeartbeats 4000000 in
theorem E_Jm_floorMod {G : zG} {h sl : Nat} (hsl : 1 ≤ sl) {l0 l1 : Int} {M : zM} {Q : Int → zM → Prop} (H : (l1 ≠ 0) ∧ ((0 ≤ (zxor l0 l1) → Q (Int.tmod l0 l1) M) ∧ (¬ 0 ≤ (zxor l0 l1) → ((Int.tmod l0 l1) = 0 → Q (Int.tmod l0 l1) M) ∧ (¬ (Int.tmod l0 l1) = 0 → (zI ((Int.tmod l0 l1) + l1)) ∧ (Q ((Int.tmod l0 l1) + l1) M))))) : zCt G h sl 0 0 y_Jm_floorMod [(0, l0), (0, l1)] M Q := by
  refine zCt.of (by decide +kernel) (Nat.le_of_ble_eq_true rfl) ?_
  refine x_iload_n (zdm d_Jm_floorMod_0 0 rfl) rfl (n := 0) rfl ?_
  refine x_iload_n (zdm d_Jm_floorMod_0 1 rfl) rfl (n := 1) rfl ?_
  obtain ⟨g1, H⟩ := H
  refine x_irem (zdm d_Jm_floorMod_0 2 rfl) g1 ?_
  refine x_istore_n (zdm d_Jm_floorMod_0 3 rfl) rfl (zlt rfl) rfl ?_
  refine x_iload_n (zdm d_Jm_floorMod_0 4 rfl) rfl (n := 1) rfl ?_
  refine x_iload_n (zdm d_Jm_floorMod_0 5 rfl) rfl (n := 2) rfl ?_
  refine x_ixor (zdm d_Jm_floorMod_0 6 rfl) ?_
  refine x_ifge (tgt := 18) (zdm d_Jm_floorMod_0 7 rfl) (by decide) (fun c => ?_) (fun c => ?_)
  · have H := H.1 c
    refine x_iload_n (zdm d_Jm_floorMod_0 14 rfl) rfl (n := 0) rfl ?_
    exact x_iret (zdm d_Jm_floorMod_0 15 rfl) rfl H
  · have H := H.2 c
    refine x_iload_n (zdm d_Jm_floorMod_0 8 rfl) rfl (n := 0) rfl ?_
    refine x_ifeq (tgt := 18) (zdm d_Jm_floorMod_0 9 rfl) (by decide) (fun c => ?_) (fun c => ?_)
    · have H := H.1 c
      refine x_iload_n (zdm d_Jm_floorMod_0 14 rfl) rfl (n := 0) rfl ?_
      exact x_iret (zdm d_Jm_floorMod_0 15 rfl) rfl H
    · have H := H.2 c
      refine x_iload_n (zdm d_Jm_floorMod_0 10 rfl) rfl (n := 0) rfl ?_
      refine x_iload_n (zdm d_Jm_floorMod_0 11 rfl) rfl (n := 2) rfl ?_
      obtain ⟨g2, H⟩ := H
      refine x_iadd (zdm d_Jm_floorMod_0 12 rfl) g2 ?_
      exact x_iret (zdm d_Jm_floorMod_0 13 rfl) rfl H
set_option maxRecDepth 20000 in
set_option maxHeartbeats 4000000 in
theorem E_Jm_max_III {G : zG} {h sl : Nat} (hsl : 1 ≤ sl) {l0 l1 : Int} {M : zM} {Q : Int → zM → Prop} (H : (l0 < l1 → Q l1 M) ∧ (¬ l0 < l1 → Q l0 M)) : zCt G h sl 0 0 y_Jm_max_III [(0, l0), (0, l1)] M Q := by
  refine zCt.of (by decide +kernel) (Nat.le_of_ble_eq_true rfl) ?_
  refine x_iload_n (zdm d_Jm_max_III_0 0 rfl) rfl (n := 0) rfl ?_
  refine x_iload_n (zdm d_Jm_max_III_0 1 rfl) rfl (n := 1) rfl ?_
  refine x_icmplt (tgt := 9) (zdm d_Jm_max_III_0 2 rfl) (by decide) (fun c => ?_) (fun c => ?_)
  · have H := H.1 c
    refine x_iload_n (zdm d_Jm_max_III_0 5 rfl) rfl (n := 1) rfl ?_
    exact x_iret (zdm d_Jm_max_III_0 6 rfl) rfl H
  · have H := H.2 c
    refine x_iload_n (zdm d_Jm_max_III_0 3 rfl) rfl (n := 0) rfl ?_
    refine x_goto (tgt := 10) (zdm d_Jm_max_III_0 4 rfl) (by decide) ?_
    exact x_iret (zdm d_Jm_max_III_0 6 rfl) rfl H
set_option maxRecDepth 20000 in
set_option maxHeartbeats 4000000 in
theorem E_Jm_max_JJJ {G : zG} {h sl : Nat} (hsl : 1 ≤ sl) {l0 l2 : Int} {M : zM} {Q : Int → zM → Prop} (H : (l0 < l2 → Q l2 M) ∧ (¬ l0 < l2 → Q l0 M)) : zCt G h sl 0 0 y_Jm_max_JJJ [(1, l0), (1, l2)] M Q := by
  refine zCt.of (by decide +kernel) (Nat.le_of_ble_eq_true rfl) ?_
  refine x_lload_n (zdm d_Jm_max_JJJ_0 0 rfl) rfl (n := 0) rfl ?_
  refine x_lload_n (zdm d_Jm_max_JJJ_0 1 rfl) rfl (n := 1) rfl ?_
  refine x_lcmp_lt (tgt := 10) (zdm d_Jm_max_JJJ_0 2 rfl) (zdm d_Jm_max_JJJ_0 3 rfl) (by decide) (fun c => ?_) (fun c => ?_)
  · have H := H.1 c
    refine x_lload_n (zdm d_Jm_max_JJJ_0 6 rfl) rfl (n := 1) rfl ?_
    exact x_lreturn (zdm d_Jm_max_JJJ_0 7 rfl) rfl H
  · have H := H.2 c
    refine x_lload_n (zdm d_Jm_max_JJJ_0 4 rfl) rfl (n := 0) rfl ?_
    refine x_goto (tgt := 11) (zdm d_Jm_max_JJJ_0 5 rfl) (by decide) ?_
    exact x_lreturn (zdm d_Jm_max_JJJ_0 7 rfl) rfl H
set_option maxRecDepth 20000 in
set_option maxHeartbeats 4000000 in
theorem E_Jm_min_III {G : zG} {h sl : Nat} (hsl : 1 ≤ sl) {l0 l1 : Int} {M : zM} {Q : Int → zM → Prop} (H : (l1 < l0 → Q l1 M) ∧ (¬ l1 < l0 → Q l0 M)) : zCt G h sl 0 0 y_Jm_min_III [(0, l0), (0, l1)] M Q := by
  refine zCt.of (by decide +kernel) (Nat.le_of_ble_eq_true rfl) ?_
  refine x_iload_n (zdm d_Jm_min_III_0 0 rfl) rfl (n := 0) rfl ?_
  refine x_iload_n (zdm d_Jm_min_III_0 1 rfl) rfl (n := 1) rfl ?_
  refine x_icmpgt (tgt := 9) (zdm d_Jm_min_III_0 2 rfl) (by decide) (fun c => ?_) (fun c => ?_)
  · have H := H.1 c
    refine x_iload_n (zdm d_Jm_min_III_0 5 rfl) rfl (n := 1) rfl ?_
    exact x_iret (zdm d_Jm_min_III_0 6 rfl) rfl H
  · have H := H.2 c
    refine x_iload_n (zdm d_Jm_min_III_0 3 rfl) rfl (n := 0) rfl ?_
    refine x_goto (tgt := 10) (zdm d_Jm_min_III_0 4 rfl) (by decide) ?_
    exact x_iret (zdm d_Jm_min_III_0 6 rfl) rfl H
set_option maxRecDepth 20000 in
set_option maxHeartbeats 4000000 in
theorem E_Jm_min_JJJ {G : zG} {h sl : Nat} (hsl : 1 ≤ sl) {l0 l2 : Int} {M : zM} {Q : Int → zM → Prop} (H : (l2 < l0 → Q l2 M) ∧ (¬ l2 < l0 → Q l0 M)) : zCt G h sl 0 0 y_Jm_min_JJJ [(1, l0), (1, l2)] M Q := by
  refine zCt.of (by decide +kernel) (Nat.le_of_ble_eq_true rfl) ?_
  refine x_lload_n (zdm d_Jm_min_JJJ_0 0 rfl) rfl (n := 0) rfl ?_
  refine x_lload_n (zdm d_Jm_min_JJJ_0 1 rfl) rfl (n := 1) rfl ?_
  refine x_lcmp_gt (tgt := 10) (zdm d_Jm_min_JJJ_0 2 rfl) (zdm d_Jm_min_JJJ_0 3 rfl) (by decide) (fun c => ?_) (fun c => ?_)
  · have H := H.1 c
    refine x_lload_n (zdm d_Jm_min_JJJ_0 6 rfl) rfl (n := 1) rfl ?_
    exact x_lreturn (zdm d_Jm_min_JJJ_0 7 rfl) rfl H
  · have H := H.2 c
    refine x_lload_n (zdm d_Jm_min_JJJ_0 4 rfl) rfl (n := 0) rfl ?_
    refine x_goto (tgt := 11) (zdm d_Jm_min_JJJ_0 5 rfl) (by decide) ?_
    exact x_lreturn (zdm d_Jm_min_JJJ_0 7 rfl) rfl H
