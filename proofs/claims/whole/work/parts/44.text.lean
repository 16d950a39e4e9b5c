set_option maxRecDepth 100000 in
theorem k_Js_335 : zLnV "java/lang/String" 335 0 y_Js_coder := ⟨⟨(zt_3 _ (zpn (i := 149) rfl)), (zt_3 _ (zpn (i := 152) rfl)), (zt_1 _ (zpn (i := 16) rfl)), ⟨by decide, by decide, by decide +kernel⟩, by decide⟩, (zt_3 _ (zpn (i := 150) rfl)), (zt_3 _ (zpn (i := 151) rfl))⟩
set_option maxRecDepth 100000 in
theorem k_Js_492 : zLnV "java/lang/String" 492 0 y_Js_isLatin1 := ⟨⟨(zt_3 _ (zpn (i := 159) rfl)), (zt_3 _ (zpn (i := 162) rfl)), (zt_1 _ (zpn (i := 16) rfl)), ⟨by decide, by decide, by decide +kernel⟩, by decide⟩, (zt_3 _ (zpn (i := 160) rfl)), (zt_3 _ (zpn (i := 161) rfl))⟩
set_option maxRecDepth 100000 in
theorem k_Js_495 : zLnS "java/lang/String" 495 2 y_Jl_charAt := ⟨⟨(zt_3 _ (zpn (i := 163) rfl)), (zt_3 _ (zpn (i := 165) rfl)), (zt_1 _ (zpn (i := 17) rfl)), ⟨by decide, by decide, by decide +kernel⟩, by decide⟩, (zt_3 _ (zpn (i := 164) rfl))⟩
set_option maxRecDepth 100000 in
theorem k_Jl_9 : zLnS "java/lang/StringLatin1" 9 2 y_Js_checkIndex := ⟨⟨(zt_3 _ (zpn (i := 166) rfl)), (zt_3 _ (zpn (i := 168) rfl)), (zt_1 _ (zpn (i := 16) rfl)), ⟨by decide, by decide, by decide +kernel⟩, by decide⟩, (zt_3 _ (zpn (i := 167) rfl))⟩
set_option maxRecDepth 100000 in
theorem k_Js_1059 : zLnS "java/lang/String" 1059 3 y_Jp_checkIndex := ⟨⟨(zt_3 _ (zpn (i := 171) rfl)), (zt_3 _ (zpn (i := 173) rfl)), (zt_1 _ (zpn (i := 18) rfl)), ⟨by decide, by decide, by decide +kernel⟩, by decide⟩, (zt_3 _ (zpn (i := 172) rfl))⟩
theorem w_val : Cond.fieldLink "java/lang/String" 9 "java/lang/String" "value" "[B" ∈ lw_tbl := (zt_9 _ (zpn (i := 62) rfl))
theorem w_cod : Cond.fieldLink "java/lang/String" 15 "java/lang/String" "coder" "B" ∈ lw_tbl := (zt_9 _ (zpn (i := 63) rfl))
theorem w_cst : Cond.fieldLink "java/lang/String" 38 "java/lang/String" "COMPACT_STRINGS" "Z" ∈ lw_tbl := (zt_3 _ (zpn (i := 153) rfl))
theorem w_fmt : Cond.fieldLink "java/lang/String" 1053 "jdk/internal/util/Preconditions" "SIOOBE_FORMATTER" "Ljava/util/function/BiFunction;" ∈ lw_tbl := (zt_3 _ (zpn (i := 169) rfl))
theorem zcv_str (G : zG) (i : Nat) : zcv G (2, -2 - 2 * (i : Int)) = .ref (G.2.2.1 i) := by show va_rf (zro G _) = _; rw [zro_str]; rfl
theorem zcv_byt (G : zG) (i : Nat) : zcv G (2, -3 - 2 * (i : Int)) = .ref (G.2.2.2 i) := by show va_rf (zro G _) = _; rw [zro_byt]; rfl
def zsl (i : Nat) : Nat := zstL.getD i 0
def zsb (i j : Nat) : Int := ((zstB.getD i []).getD j 0).toInt
section ZTX
variable {G : zG} {a : zYt × Nat × Nat} {u : Nat × Nat × Nat × Nat} {pc h sl : Nat} {lv : List (Nat × zV)} {st : List zV} {M : zM} {Q : Int → zM → Prop}
theorem x_sval {i : Nat} (hd : decode a.1.2.1 pc = .ok (.getfield 9, 3)) (ha : a.1.1.cls = "java/lang/String") (hi : i < zstr.length) (k : zX G a u (pc + 3) lv ((2, -3 - 2 * (i : Int)) :: st) M Q) : zX G a u pc lv ((2, -2 - 2 * (i : Int)) :: st) M Q := by
  refine zX.step (fun p e R s m args below meth c Qs hC k H locs cells slots ls hW hS hl hlo hso h1 h2 h3 h4 => ?_) k
  have kk := k H locs cells slots ls hW hS hl hlo (fun v hv => by
    rcases List.mem_cons.mp hv with rfl | hv
    · show -3 - 2 * (i : Int) ≤ M 0 0
      have := hW.2.2.2.1
      omega
    · exact hso v (List.mem_cons_of_mem _ hv)) h1 h2 h3 h4
  simp only [List.map_cons, zcv_str, zcv_byt] at kk ⊢
  have hE := hC.2.2.2.2.2.2.2.2.2
  exact vk_getf hC.1 hC.2.1 (hE.2.2.1 i hi).2.2.1 hS hC.2.2.2.1 (by rw [ha]; exact hE.1 _ w_val rfl) (fun x hx => hx) hd kk
theorem x_scod {i : Nat} (hd : decode a.1.2.1 pc = .ok (.getfield 15, 3)) (ha : a.1.1.cls = "java/lang/String") (hi : i < zstr.length) (k : zX G a u (pc + 3) lv ((0, 0) :: st) M Q) : zX G a u pc lv ((2, -2 - 2 * (i : Int)) :: st) M Q := by
  refine zX.step (fun p e R s m args below meth c Qs hC k H locs cells slots ls hW hS hl hlo hso h1 h2 h3 h4 => ?_) k
  have kk := k H locs cells slots ls hW hS hl hlo (fun v hv => by
    rcases List.mem_cons.mp hv with rfl | hv
    · exact zI_0
    · exact hso v (List.mem_cons_of_mem _ hv)) h1 h2 h3 h4
  simp only [List.map_cons, zcv_str] at kk ⊢
  have hE := hC.2.2.2.2.2.2.2.2.2
  exact vk_getf hC.1 hC.2.1 (hE.2.2.1 i hi).2.1 hS hC.2.2.2.1 (by rw [ha]; exact hE.1 _ w_cod rfl) (fun x hx => hx) hd kk
theorem x_gets (hd : decode a.1.2.1 pc = .ok (.getstatic 38, 3)) (ha : a.1.1.cls = "java/lang/String") (k : zX G a u (pc + 3) lv ((0, 1) :: st) M Q) : zX G a u pc lv st M Q := by
  refine zX.step (fun p e R s m args below meth c Qs hC k H locs cells slots ls hW hS hl hlo hso h1 h2 h3 h4 => ?_) k
  have kk := k H locs cells slots ls hW hS hl hlo (fun v hv => by
    rcases List.mem_cons.mp hv with rfl | hv
    · show zI 1; unfold zI; omega
    · exact hso v hv) h1 h2 h3 h4
  have hE := hC.2.2.2.2.2.2.2.2.2
  exact va_gets hC.1 hC.2.1 hE.2.2.2.1 hS hC.2.2.2.1 (by rw [ha]; exact hE.1 _ w_cst rfl) (fun x hx => hx) hd kk
theorem x_getf_fm (hd : decode a.1.2.1 pc = .ok (.getstatic 1053, 3)) (ha : a.1.1.cls = "java/lang/String") (k : zX G a u (pc + 3) lv ((2, -2 - 2 * ((500 : Nat) : Int)) :: st) M Q) (k0 : zX G a u (pc + 3) lv ((2, 0) :: st) M Q) : zX G a u pc lv st M Q := by
  intro p e R s m args below meth c Qs hC hR H locs cells slots ls hW hS hl hlo hso h1 h2 h3 h4
  have hE := hC.2.2.2.2.2.2.2.2.2
  rcases hE.2.2.2.2 with hZ | hZ
  · have kk := k p e R s m args below meth c Qs hC hR H locs cells slots ls hW hS hl hlo (fun v hv => by
      rcases List.mem_cons.mp hv with rfl | hv
      · show -2 - 2 * ((500 : Nat) : Int) ≤ M 0 0
        have := hW.2.2.2.1
        omega
      · exact hso v hv) h1 h2 h3 h4
    simp only [List.map_cons, zcv_str] at kk
    exact va_gets hC.1 hC.2.1 hZ hS hC.2.2.2.1 (by rw [ha]; exact hE.1 _ w_fmt rfl) (fun x hx => hx) hd kk
  · have kk := k0 p e R s m args below meth c Qs hC hR H locs cells slots ls hW hS hl hlo (fun v hv => by
      rcases List.mem_cons.mp hv with rfl | hv
      · exact hW.2.2.2.1
      · exact hso v hv) h1 h2 h3 h4
    have e0 : zcv G (2, 0) = .null := rfl
    simp only [List.map_cons, e0] at kk
    exact va_gets hC.1 hC.2.1 hZ hS hC.2.2.2.1 (by rw [ha]; exact hE.1 _ w_fmt rfl) (fun x hx => hx) hd kk
theorem zslI {i : Nat} (hi : i < zstr.length) : zI (zsl i) := by
  have : (List.range zstr.length).all (fun i => decide (zstL.getD i 0 < 2147483648)) = true := by decide +kernel
  have := List.all_eq_true.mp this i (List.mem_range.mpr hi)
  rw [decide_eq_true_eq] at this
  unfold zsl zI
  omega
theorem x_blen {i : Nat} (hd : decode a.1.2.1 pc = .ok (.arraylength, 1)) (hi : i < zstr.length) (k : zX G a u (pc + 1) lv ((0, (zsl i : Int)) :: st) M Q) : zX G a u pc lv ((2, -3 - 2 * (i : Int)) :: st) M Q := by
  refine zX.step (fun p e R s m args below meth c Qs hC k H locs cells slots ls hW hS hl hlo hso h1 h2 h3 h4 => ?_) k
  have kk := k H locs cells slots ls hW hS hl hlo (fun v hv => by
    rcases List.mem_cons.mp hv with rfl | hv
    · exact zslI hi
    · exact hso v (List.mem_cons_of_mem _ hv)) h1 h2 h3 h4
  simp only [List.map_cons, zcv_byt] at kk ⊢
  have hE := hC.2.2.2.2.2.2.2.2.2
  obtain ⟨cell, g1, g2, g3, g4, g5, g6, g7⟩ := ((hE.2.2.1 i hi).2.2.2).kept (zkeep hS)
  exact W.alen hC.1 hC.2.1 g1 g2 (g5.trans (show Int32.ofNat (zsl i) = Int32.ofInt (zsl i) by rw [← Int32.ofInt_eq_ofNat])) rfl rfl hd kk
theorem x_sbyt {i : Nat} {j : Int} (hd : decode a.1.2.1 pc = .ok (.baload, 1)) (hi : i < zstr.length) (hj : 0 ≤ j ∧ j < zsl i) (k : zX G a u (pc + 1) lv ((0, zsb i j.toNat) :: st) M Q) : zX G a u pc lv ((0, j) :: (2, -3 - 2 * (i : Int)) :: st) M Q := by
  refine zX.step (fun p e R s m args below meth c Qs hC k H locs cells slots ls hW hS hl hlo hso h1 h2 h3 h4 => ?_) k
  have hjz : zI j := hso _ List.mem_cons_self
  have kk := k H locs cells slots ls hW hS hl hlo (fun v hv => by
    rcases List.mem_cons.mp hv with rfl | hv
    · exact zi_of _
    · exact hso v (List.mem_cons_of_mem _ (List.mem_cons_of_mem _ hv))) h1 h2 h3 h4
  simp only [List.map_cons, zcv_byt] at kk ⊢
  have hE := hC.2.2.2.2.2.2.2.2.2
  obtain ⟨cell, g1, g2, g3, g4, g5, g6, g7⟩ := ((hE.2.2.1 i hi).2.2.2).kept (zkeep hS)
  have g4 : zsl i ≤ cell.slots.size := g4
  refine W.bald (v := .int (Int32.ofInt (zsb i j.toNat))) hC.1 hC.2.1 g1 g2 g3 ?_ ?_ rfl rfl hd kk
  · rintro (z | z)
    · have := (zi_lt hjz zI_0).mp z
      omega
    · rw [zi_cl hjz] at z
      omega
  · rw [zi_cl hjz, g6 j.toNat (show j.toNat < zsl i by omega)]
    unfold zsb
    rw [Int32.ofInt_toInt]
theorem zand_255 {x : Int} (h0 : 0 ≤ x) (h1 : x < 256) : zand x 255 = x := by
  have e : Int32.ofInt x = nI x.toNat := by
    show Int32.ofInt x = Int32.ofNat x.toNat
    rw [← Int32.ofInt_eq_ofNat]; congr 1; omega
  unfold zand
  rw [e, pk_andN (by omega) (m := Int32.ofInt 255) 8 (by decide), nI_toInt (by omega)]
  omega
theorem x_i2c {x : Int} (hd : decode a.1.2.1 pc = .ok (.i2c, 1)) (hx : 0 ≤ x ∧ x ≤ 65535) (k : zX G a u (pc + 1) lv ((0, x) :: st) M Q) : zX G a u pc lv ((0, x) :: st) M Q := by
  refine zX.step (fun p e R s m args below meth c Qs hC k H locs cells slots ls hW hS hl hlo hso h1 h2 h3 h4 => ?_) k
  refine lv_i2c hC.1 hC.2.1 (v := Int32.ofInt x) hd ?_ (k H locs cells slots ls hW hS hl hlo hso h1 h2 h3 h4)
  have e : Int32.ofInt x = nI x.toNat := by
    show Int32.ofInt x = Int32.ofNat x.toNat
    rw [← Int32.ofInt_eq_ofNat]; congr 1; omega
  rw [e, pk_char, pk_tn (by omega)]
  congr 1
  omega
theorem sp_coder {i : Nat} (hi : i < zstr.length) (hq : Q 0 M) : zCt G h sl 0 0 y_Js_coder [(2, -2 - 2 * (i : Int))] M Q := by
  refine zCt.of (by decide +kernel) (Nat.le_of_ble_eq_true rfl) ?_
  refine x_gets (zdm d_Js_coder_0 0 rfl) rfl ?_
  refine x_ifeq (tgt := 13) (zdm d_Js_coder_0 1 rfl) (by decide) (fun c => absurd c (by decide)) (fun c => ?_)
  refine x_aload_n (zdm d_Js_coder_0 2 rfl) rfl (n := 0) rfl ?_
  refine x_scod (zdm d_Js_coder_0 3 rfl) rfl hi ?_
  refine x_goto (tgt := 14) (zdm d_Js_coder_0 4 rfl) (by decide) ?_
  exact x_ireturn (zdm d_Js_coder_0 6 rfl) (ty := .byte) rfl (by decide) (show (0 : Int) ≤ 0 ∧ (0 : Int) ≤ 127 by decide) hq
theorem sp_latin {i : Nat} (hi : i < zstr.length) (hq : Q 1 M) : zCt G h sl 0 0 y_Js_isLatin1 [(2, -2 - 2 * (i : Int))] M Q := by
  refine zCt.of (by decide +kernel) (Nat.le_of_ble_eq_true rfl) ?_
  refine x_gets (zdm d_Js_isLatin1_0 0 rfl) rfl ?_
  refine x_ifeq (tgt := 17) (zdm d_Js_isLatin1_0 1 rfl) (by decide) (fun c => absurd c (by decide)) (fun c => ?_)
  refine x_aload_n (zdm d_Js_isLatin1_0 2 rfl) rfl (n := 0) rfl ?_
  refine x_scod (zdm d_Js_isLatin1_0 3 rfl) rfl hi ?_
  refine x_ifne (tgt := 17) (zdm d_Js_isLatin1_0 4 rfl) (by decide) (fun c => absurd rfl c) (fun c => ?_)
  refine x_iconst (zdm d_Js_isLatin1_0 5 rfl) (zIl rfl) ?_
  refine x_goto (tgt := 18) (zdm d_Js_isLatin1_0 6 rfl) (by decide) ?_
  exact x_ireturn (zdm d_Js_isLatin1_0 8 rfl) (ty := .boolean) rfl (by decide) (Or.inr rfl) hq
theorem zshr_0 {x : Int} (h : zI x) : zshr x 0 = x := by
  unfold zshr
  rw [show (Int32.ofInt 0 &&& 31) = 0 from by decide, show Int32.ofInt x >>> (0 : Int32) = Int32.ofInt x from by simp]
  exact zi_to h
theorem sp_length {i : Nat} (hi : i < zstr.length) (hq : Q (zsl i) M) : zCt G (h + 1) sl 0 0 y_Js_length [(2, -2 - 2 * (i : Int))] M Q := by
  refine zCt.of (by decide +kernel) (Nat.le_of_ble_eq_true rfl) ?_
  refine x_aload_n (zdm d_Js_length_0 0 rfl) rfl (n := 0) rfl ?_
  refine x_sval (zdm d_Js_length_0 1 rfl) rfl hi ?_
  refine x_blen (zdm d_Js_length_0 2 rfl) hi ?_
  refine x_aload_n (zdm d_Js_length_0 3 rfl) rfl (n := 0) rfl ?_
  refine x_callTi (n := 0) (zdm d_Js_length_0 4 rfl) k_Js_335 (As := []) rfl rfl ⟨i, hi, rfl⟩ rfl (Nat.le_of_ble_eq_true rfl) trivial (sp_coder (Q := fun r M1 => r = 0 ∧ M1 = M) hi ⟨rfl, rfl⟩) (fun r M1 hr H => ?_)
  obtain ⟨rfl, rfl⟩ := H
  refine x_ishr (zdm d_Js_length_0 5 rfl) ?_
  rw [zshr_0 (zslI hi)]
  exact x_iret (zdm d_Js_length_0 6 rfl) rfl hq
theorem sp_chkP {x n f : Int} (hx : 0 ≤ x ∧ x < n) (hq : Q x M) : zCt G h sl 0 0 y_Jp_checkIndex [(0, x), (0, n), (2, f)] M Q := by
  refine zCt.of (by decide +kernel) (Nat.le_of_ble_eq_true rfl) ?_
  refine x_iload_n (zdm d_Jp_checkIndex_0 0 rfl) rfl (n := 0) rfl ?_
  refine x_iflt (tgt := 9) (zdm d_Jp_checkIndex_0 1 rfl) (by decide) (fun c => absurd c (by omega)) (fun c => ?_)
  refine x_iload_n (zdm d_Jp_checkIndex_0 2 rfl) rfl (n := 0) rfl ?_
  refine x_iload_n (zdm d_Jp_checkIndex_0 3 rfl) rfl (n := 1) rfl ?_
  refine x_icmplt (tgt := 16) (zdm d_Jp_checkIndex_0 4 rfl) (by decide) (fun c => ?_) (fun c => absurd hx.2 c)
  refine x_iload_n (zdm d_Jp_checkIndex_0 10 rfl) rfl (n := 0) rfl ?_
  exact x_iret (zdm d_Jp_checkIndex_0 11 rfl) rfl hq
theorem sp_chkS {x n : Int} (hx : 0 ≤ x ∧ x < n) (hq : Q 0 M) : zCt G (h + 1) sl 0 0 y_Js_checkIndex [(0, x), (0, n)] M Q := by
  refine zCt.of (by decide +kernel) (Nat.le_of_ble_eq_true rfl) ?_
  refine x_iload_n (zdm d_Js_checkIndex_0 0 rfl) rfl (n := 0) rfl ?_
  refine x_iload_n (zdm d_Js_checkIndex_0 1 rfl) rfl (n := 1) rfl ?_
  refine x_getf_fm (zdm d_Js_checkIndex_0 2 rfl) rfl ?_ ?_
  · refine x_callSi (n := 3) (zdm d_Js_checkIndex_0 3 rfl) k_Js_1059 (As := [(0, x), (0, n), (2, -2 - 2 * ((500 : Nat) : Int))]) rfl rfl (Nat.le_of_ble_eq_true rfl) trivial (sp_chkP (Q := fun r M1 => M1 = M) hx rfl) (fun r M1 hr H => ?_)
    subst H
    refine x_pop (zdm d_Js_checkIndex_0 4 rfl) z0n1 ?_
    exact x_return (zdm d_Js_checkIndex_0 5 rfl) rfl hq
  · refine x_callSi (n := 3) (zdm d_Js_checkIndex_0 3 rfl) k_Js_1059 (As := [(0, x), (0, n), (2, 0)]) rfl rfl (Nat.le_of_ble_eq_true rfl) trivial (sp_chkP (Q := fun r M1 => M1 = M) hx rfl) (fun r M1 hr H => ?_)
    subst H
    refine x_pop (zdm d_Js_checkIndex_0 4 rfl) z0n1 ?_
    exact x_return (zdm d_Js_checkIndex_0 5 rfl) rfl hq
theorem zsbI {i : Nat} (hi : i < zstr.length) (j : Nat) (hj : j < zsl i) : 0 ≤ zsb i j ∧ zsb i j < 128 := by
  have : (List.range zstr.length).all (fun i => (List.range (zsl i)).all (fun j => decide (0 ≤ zsb i j) && decide (zsb i j < 128))) = true := by decide +kernel
  have := List.all_eq_true.mp this i (List.mem_range.mpr hi)
  have := List.all_eq_true.mp this j (List.mem_range.mpr hj)
  simpa only [Bool.and_eq_true, decide_eq_true_eq] using this
theorem sp_charL {i : Nat} {j : Int} (hi : i < zstr.length) (hj : 0 ≤ j ∧ j < zsl i) (hq : Q (zsb i j.toNat) M) : zCt G (h + 2) sl 0 0 y_Jl_charAt [(2, -3 - 2 * (i : Int)), (0, j)] M Q := by
  have hb := zsbI hi j.toNat (by omega)
  refine zCt.of (by decide +kernel) (Nat.le_of_ble_eq_true rfl) ?_
  refine x_iload_n (zdm d_Jl_charAt_0 0 rfl) rfl (n := 1) rfl ?_
  refine x_aload_n (zdm d_Jl_charAt_0 1 rfl) rfl (n := 0) rfl ?_
  refine x_blen (zdm d_Jl_charAt_0 2 rfl) hi ?_
  refine x_callSv (n := 2) (zdm d_Jl_charAt_0 3 rfl) k_Jl_9 (As := [(0, j), (0, (zsl i : Int))]) rfl rfl (Nat.le_of_ble_eq_true rfl) rfl (sp_chkS (Q := fun r M1 => M1 = M) hj rfl) (fun r M1 hr H => ?_)
  subst H
  refine x_aload_n (zdm d_Jl_charAt_0 4 rfl) rfl (n := 0) rfl ?_
  refine x_iload_n (zdm d_Jl_charAt_0 5 rfl) rfl (n := 1) rfl ?_
  refine x_sbyt (zdm d_Jl_charAt_0 6 rfl) hi hj ?_
  refine x_sipush (zdm d_Jl_charAt_0 7 rfl) (by decide) ?_
  refine x_iand (zdm d_Jl_charAt_0 8 rfl) ?_
  rw [zand_255 hb.1 (by omega)]
  refine x_i2c (zdm d_Jl_charAt_0 9 rfl) ⟨hb.1, by omega⟩ ?_
  exact x_ireturn (zdm d_Jl_charAt_0 10 rfl) (ty := .char) rfl (by decide) (show 0 ≤ zsb i j.toNat ∧ zsb i j.toNat ≤ 65535 from ⟨hb.1, by omega⟩) hq
theorem sp_charAt {i : Nat} {j : Int} (hi : i < zstr.length) (hj : 0 ≤ j ∧ j < zsl i) (hq : Q (zsb i j.toNat) M) : zCt G (h + 3) sl 0 0 y_Js_charAt [(2, -2 - 2 * (i : Int)), (0, j)] M Q := by
  have hb := zsbI hi j.toNat (by omega)
  refine zCt.of (by decide +kernel) (Nat.le_of_ble_eq_true rfl) ?_
  refine x_aload_n (zdm d_Js_charAt_0 0 rfl) rfl (n := 0) rfl ?_
  refine x_callTi (n := 0) (zdm d_Js_charAt_0 1 rfl) k_Js_492 (As := []) rfl rfl ⟨i, hi, rfl⟩ rfl (Nat.le_of_ble_eq_true rfl) trivial (sp_latin (Q := fun r M1 => r = 1 ∧ M1 = M) hi ⟨rfl, rfl⟩) (fun r M1 hr H => ?_)
  obtain ⟨rfl, rfl⟩ := H
  refine x_ifeq (tgt := 16) (zdm d_Js_charAt_0 2 rfl) (by decide) (fun c => absurd c (by decide)) (fun c => ?_)
  refine x_aload_n (zdm d_Js_charAt_0 3 rfl) rfl (n := 0) rfl ?_
  refine x_sval (zdm d_Js_charAt_0 4 rfl) rfl hi ?_
  refine x_iload_n (zdm d_Js_charAt_0 5 rfl) rfl (n := 1) rfl ?_
  refine x_callSi (n := 2) (zdm d_Js_charAt_0 6 rfl) k_Js_495 (As := [(2, -3 - 2 * (i : Int)), (0, j)]) rfl rfl (Nat.le_of_ble_eq_true rfl) trivial (sp_charL (Q := fun r M2 => r = zsb i j.toNat ∧ M2 = M1) hi hj ⟨rfl, rfl⟩) (fun r M2 hr H => ?_)
  obtain ⟨rfl, rfl⟩ := H
  exact x_ireturn (zdm d_Js_charAt_0 7 rfl) (ty := .char) rfl (by decide) (show 0 ≤ zsb i j.toNat ∧ zsb i j.toNat ≤ 65535 from ⟨hb.1, by omega⟩) hq
end ZTX
