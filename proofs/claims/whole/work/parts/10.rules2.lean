/-! rules in the forms that the printed walks use -/
theorem zIl {n : Int} (h : (decide (-2147483648 ≤ n) && decide (n ≤ 2147483647)) = true) : zI n := by
  rw [Bool.and_eq_true, decide_eq_true_eq, decide_eq_true_eq] at h
  exact h
theorem zLl {n : Int} (h : (decide (-9223372036854775808 ≤ n) && decide (n ≤ 9223372036854775807)) = true) : zL n := by
  rw [Bool.and_eq_true, decide_eq_true_eq, decide_eq_true_eq] at h
  exact h
theorem zKe {o : Int} {k : Nat} (h : (zK o).1 = k) : zK o = (k, (zK o).2) := by rw [← h]
/-- rows of all objects, by counting them -/
theorem zall (P : Int → Bool) (h : (List.range 197).all (fun (i : Nat) => P (i : Int)) = true) {o : Int} (h0 : 0 ≤ o) (h1 : o ≤ 196) : P o = true := by
  have := List.all_eq_true.mp h o.toNat (List.mem_range.mpr (by omega))
  rwa [show ((o.toNat : Nat) : Int) = o by omega] at this
theorem zK_le {o : Int} {q : Nat × Int} (h : zK o = q) (hq : q.1 ≠ 999) : 1 ≤ o ∧ o ≤ 196 := by
  refine ⟨zK_pos h hq, ?_⟩
  apply Int.not_lt.mp
  intro hl
  apply hq
  rw [← h]
  unfold zK
  have hlen : zkl.length = 196 := by decide +kernel
  rw [if_neg (by omega), List.getD_eq_getElem?_getD, List.getElem?_eq_none (by rw [hlen]; omega)]
  rfl
theorem zshape (P : Int → Bool) (k : Nat × Int) (h : (List.range 197).all (fun (i : Nat) => !(decide (zK (i : Int) = k)) || P (i : Int)) = true) (hk : k.1 ≠ 999) {o : Int} (ho : zK o = k) : P o = true := by
  obtain ⟨h0, h1⟩ := zK_le ho hk
  have := zall (fun i => !(decide (zK i = k)) || P i) h (by omega) h1
  simpa [ho] using this
section ZR2
variable {G : zG} {a : zYt × Nat × Nat} {y0 : zYt} {u : Nat × Nat × Nat × Nat} {pc tgt h sl : Nat} {off : Int} {lv : List (Nat × zV)} {st : List zV} {M : zM} {Q : Int → zM → Prop}
theorem x_getG {idx ci k0 t : Nat} {fin : Bool} {ty : FieldType} {o v : Int} (hd : decode a.1.2.1 pc = .ok (.getfield idx, 3)) (hf : zFld a.1.1.cls idx ci k0 fin ty) (ho : zK o = (ci, 0)) (ht : ztyt ty = t) (hl0 : 0 < zkf (ci, 0) k0) (hl1 : zkf (ci, 0) k0 ≤ a.2.2) (hv : zFn o k0 = v) (k : zX G a u (pc + 3) lv ((t, v) :: st) M Q) : zX G a u pc lv ((2, o) :: st) M Q :=
  x_getF hd hf ho ht hl0 hl1 (hv ▸ k)
theorem x_aald4G {o j n v : Int} (hd : decode a.1.2.1 pc = .ok (.aaload, 1)) (ho : zK o = (104, n)) (hj : 0 ≤ j ∧ j < n) (hl1 : 1 ≤ a.2.2) (hv : zFn o j = v) (k : zX G a u (pc + 1) lv ((2, v) :: st) M Q) : zX G a u pc lv ((0, j) :: (2, o) :: st) M Q := x_aald4F hd ho hj hl1 (hv ▸ k)
theorem x_aald5G {o j n v : Int} (hd : decode a.1.2.1 pc = .ok (.aaload, 1)) (ho : zK o = (105, n)) (hj : 0 ≤ j ∧ j < n) (hl1 : 1 ≤ a.2.2) (hv : zFn o j = v) (k : zX G a u (pc + 1) lv ((2, v) :: st) M Q) : zX G a u pc lv ((0, j) :: (2, o) :: st) M Q := x_aald5F hd ho hj hl1 (hv ▸ k)
def zti (r : Option FieldType) : Prop := match r with
  | none => False
  | some .long => False
  | some _ => True
theorem zrs_i {r : Option FieldType} (h : zti r) (x : Int) : zrs r x = [(0, x)] := by
  cases r with
  | none => exact absurd h id
  | some ty => cases ty <;> first | rfl | exact absurd h id
theorem x_callVi {idx n ci : Nat} {y : zYt} {o : Int} {As st0 : List zV} {Q1 : Int → zM → Prop} (hd : decode y0.2.1 pc = .ok (.invokevirtual idx, 3)) (hL : zLnV y0.1.cls idx n y) (hs : st0 = As.reverse ++ (2, o) :: st) (hn : As.length = n) (ho : zK o = (ci, 0)) (hci : ∃ T N, zcl[ci]? = some (y.1.cls, T, N)) (hst : zarn st ≤ 8) (hr : zti y.2.2.2)
    (H1 : zCt G h sl 0 0 y ((2, o) :: As) M Q1) (k : ∀ x M', zrok y.2.2.2 x → Q1 x M' → zX G (y0, h + 1, sl) u (pc + 3) lv ((0, x) :: st) M' Q) : zX G (y0, h + 1, sl) u pc lv st0 M Q :=
  x_callV hd hL hs hn ho hci hst H1 (fun x M' h1 h2 => by rw [zrs_i hr]; exact k x M' h1 h2)
theorem x_callVl {idx n ci : Nat} {y : zYt} {o : Int} {As st0 : List zV} {Q1 : Int → zM → Prop} (hd : decode y0.2.1 pc = .ok (.invokevirtual idx, 3)) (hL : zLnV y0.1.cls idx n y) (hs : st0 = As.reverse ++ (2, o) :: st) (hn : As.length = n) (ho : zK o = (ci, 0)) (hci : ∃ T N, zcl[ci]? = some (y.1.cls, T, N)) (hst : zarn st ≤ 8) (hr : y.2.2.2 = some .long)
    (H1 : zCt G h sl 0 0 y ((2, o) :: As) M Q1) (k : ∀ x M', zL x → Q1 x M' → zX G (y0, h + 1, sl) u (pc + 3) lv ((1, x) :: st) M' Q) : zX G (y0, h + 1, sl) u pc lv st0 M Q :=
  x_callV hd hL hs hn ho hci hst H1 (fun x M' h1 h2 => by rw [hr] at h1 ⊢; exact k x M' h1 h2)
theorem x_callVv {idx n ci : Nat} {y : zYt} {o : Int} {As st0 : List zV} {Q1 : Int → zM → Prop} (hd : decode y0.2.1 pc = .ok (.invokevirtual idx, 3)) (hL : zLnV y0.1.cls idx n y) (hs : st0 = As.reverse ++ (2, o) :: st) (hn : As.length = n) (ho : zK o = (ci, 0)) (hci : ∃ T N, zcl[ci]? = some (y.1.cls, T, N)) (hst : zarn st ≤ 8) (hr : y.2.2.2 = none)
    (H1 : zCt G h sl 0 0 y ((2, o) :: As) M Q1) (k : ∀ x M', x = 0 → Q1 x M' → zX G (y0, h + 1, sl) u (pc + 3) lv st M' Q) : zX G (y0, h + 1, sl) u pc lv st0 M Q :=
  x_callV hd hL hs hn ho hci hst H1 (fun x M' h1 h2 => by rw [hr] at h1 ⊢; exact k x M' h1 h2)
theorem x_callSi {idx n : Nat} {y : zYt} {As st0 : List zV} {Q1 : Int → zM → Prop} (hd : decode y0.2.1 pc = .ok (.invokestatic idx, 3)) (hL : zLnS y0.1.cls idx n y) (hs : st0 = As.reverse ++ st) (hn : As.length = n) (hst : zarn st ≤ 8) (hr : zti y.2.2.2)
    (H1 : zCt G h sl 0 0 y As M Q1) (k : ∀ x M', zrok y.2.2.2 x → Q1 x M' → zX G (y0, h + 1, sl) u (pc + 3) lv ((0, x) :: st) M' Q) : zX G (y0, h + 1, sl) u pc lv st0 M Q :=
  x_callS hd hL hs hn hst H1 (fun x M' h1 h2 => by rw [zrs_i hr]; exact k x M' h1 h2)
theorem x_callSl {idx n : Nat} {y : zYt} {As st0 : List zV} {Q1 : Int → zM → Prop} (hd : decode y0.2.1 pc = .ok (.invokestatic idx, 3)) (hL : zLnS y0.1.cls idx n y) (hs : st0 = As.reverse ++ st) (hn : As.length = n) (hst : zarn st ≤ 8) (hr : y.2.2.2 = some .long)
    (H1 : zCt G h sl 0 0 y As M Q1) (k : ∀ x M', zL x → Q1 x M' → zX G (y0, h + 1, sl) u (pc + 3) lv ((1, x) :: st) M' Q) : zX G (y0, h + 1, sl) u pc lv st0 M Q :=
  x_callS hd hL hs hn hst H1 (fun x M' h1 h2 => by rw [hr] at h1 ⊢; exact k x M' h1 h2)
theorem x_callSv {idx n : Nat} {y : zYt} {As st0 : List zV} {Q1 : Int → zM → Prop} (hd : decode y0.2.1 pc = .ok (.invokestatic idx, 3)) (hL : zLnS y0.1.cls idx n y) (hs : st0 = As.reverse ++ st) (hn : As.length = n) (hst : zarn st ≤ 8) (hr : y.2.2.2 = none)
    (H1 : zCt G h sl 0 0 y As M Q1) (k : ∀ x M', x = 0 → Q1 x M' → zX G (y0, h + 1, sl) u (pc + 3) lv st M' Q) : zX G (y0, h + 1, sl) u pc lv st0 M Q :=
  x_callS hd hL hs hn hst H1 (fun x M' h1 h2 => by rw [hr] at h1 ⊢; exact k x M' h1 h2)
theorem x_callAi {idx n ci : Nat} {xn : MethodName} {y : zYt} {o : Int} {As st0 : List zV} {Q1 : Int → zM → Prop} (hd : decode y0.2.1 pc = .ok (.invokevirtual idx, 3)) (hL : zLnA y0.1.cls idx n xn y) (hs : st0 = As.reverse ++ (2, o) :: st) (hn : As.length = n) (ho : zK o = (ci, 0)) (hci : ∃ T N, zcl[ci]? = some (y.1.cls, T, N)) (hst : zarn st ≤ 8) (hr : zti y.2.2.2)
    (H1 : zCt G h sl 0 0 y ((2, o) :: As) M Q1) (k : ∀ x M', zrok y.2.2.2 x → Q1 x M' → zX G (y0, h + 1, sl) u (pc + 3) lv ((0, x) :: st) M' Q) : zX G (y0, h + 1, sl) u pc lv st0 M Q :=
  x_callA hd hL hs hn ho hci hst H1 (fun x M' h1 h2 => by rw [zrs_i hr]; exact k x M' h1 h2)
theorem x_tsw {dflt lo hi x i : Int} {offs : Array Int} {len : Nat} (hd : decode a.1.2.1 pc = .ok (.tableswitch dflt lo hi offs, len)) (hx : x = i) (hb : lo ≤ i ∧ i ≤ hi) (ho : offs[(i - lo).toNat]? = some off) (ht : (pc : Int) + off = (tgt : Int)) (k : zX G a u tgt lv st M Q) : zX G a u pc lv ((0, x) :: st) M Q := by
  refine zX.step (fun p e R s m args below meth c Qs hC k H locs cells slots ls hW hS hl hlo hso h1 h2 h3 h4 => ?_) k
  have hz : zI x := hso _ List.mem_cons_self
  exact lv_tableIn hC.1 hC.2.1 hd (by rw [zi_to hz]; omega) (by rw [zi_to hz]; omega) (by rw [zi_to hz, hx]; exact ho) ht (k H locs cells slots ls hW hS hl hlo (fun v hv => hso v (List.mem_cons_of_mem _ hv)) h1 h2 h3 h4)
theorem x_tswd {dflt lo hi x : Int} {offs : Array Int} {len : Nat} (hd : decode a.1.2.1 pc = .ok (.tableswitch dflt lo hi offs, len)) (hx : x < lo ∨ hi < x) (ht : (pc : Int) + dflt = (tgt : Int)) (k : zX G a u tgt lv st M Q) : zX G a u pc lv ((0, x) :: st) M Q := by
  refine zX.step (fun p e R s m args below meth c Qs hC k H locs cells slots ls hW hS hl hlo hso h1 h2 h3 h4 => ?_) k
  have hz : zI x := hso _ List.mem_cons_self
  exact lv_tableOut hC.1 hC.2.1 hd (by rw [zi_to hz]; exact hx) ht (k H locs cells slots ls hW hS hl hlo (fun v hv => hso v (List.mem_cons_of_mem _ hv)) h1 h2 h3 h4)
theorem x_lsw {dflt x : Int} {ps : Array (Int × Int)} {len : Nat} (hd : decode a.1.2.1 pc = .ok (.lookupswitch dflt ps, len)) (hp : (ps.toList.zip (ps.toList.drop 1)).all (fun (a, next) => a.1 < next.1) = true) (ho : Op.lookupswitch.offset ps.toList dflt x = off) (ht : (pc : Int) + off = (tgt : Int)) (k : zX G a u tgt lv st M Q) : zX G a u pc lv ((0, x) :: st) M Q := by
  refine zX.step (fun p e R s m args below meth c Qs hC k H locs cells slots ls hW hS hl hlo hso h1 h2 h3 h4 => ?_) k
  have hz : zI x := hso _ List.mem_cons_self
  exact lv_lookup hC.1 hC.2.1 hd hp (by rw [zi_to hz]; exact ho) ht (k H locs cells slots ls hW hS hl hlo (fun v hv => hso v (List.mem_cons_of_mem _ hv)) h1 h2 h3 h4)
theorem x_iret {x : Int} (hd : decode a.1.2.1 pc = .ok (.ireturn, 1)) (hr : a.1.2.2.2 = some .int) (hq : Q x M) : zX G a u pc lv [(0, x)] M Q := by
  intro p e R s m args below meth c Qs hC hR H locs cells slots ls hW hS hl' hlo hso h1 h2 h3 h4
  have hx : zI x := hso _ List.mem_cons_self
  exact x_ireturn (ty := .int) hd hr (by decide) hx hq p e R s m args below meth c Qs hC hR H locs cells slots ls hW hS hl' hlo hso h1 h2 h3 h4
/-- the number of a constant text -/
def zSt (o : Int) : Prop := ∃ i : Nat, i < zstr.length ∧ o = -2 - 2 * (i : Int)
theorem zSt_i (i : Nat) {o : Int} (hi : i < zstr.length := by decide) (ho : o = -2 - 2 * (i : Int) := by decide) : zSt o := ⟨i, hi, ho⟩
theorem x_callTi {idx n : Nat} {y : zYt} {o : Int} {As st0 : List zV} {Q1 : Int → zM → Prop} (hd : decode y0.2.1 pc = .ok (.invokevirtual idx, 3)) (hL : zLnV y0.1.cls idx n y) (hs : st0 = As.reverse ++ (2, o) :: st) (hn : As.length = n) (ho : zSt o) (hci : y.1.cls = "java/lang/String") (hst : zarn st ≤ 8) (hr : zti y.2.2.2)
    (H1 : zCt G h sl 0 0 y ((2, o) :: As) M Q1) (k : ∀ x M', zrok y.2.2.2 x → Q1 x M' → zX G (y0, h + 1, sl) u (pc + 3) lv ((0, x) :: st) M' Q) : zX G (y0, h + 1, sl) u pc lv st0 M Q := by
  intro p e R s m args below meth c Qs hC hR H locs cells slots ls hW hS hl hlo hso h1 h2 h3 h4
  subst hs
  obtain ⟨i, hi, rfl⟩ := ho
  obtain ⟨c1, c2, c3, c4, c5, c6, c7, c8, c9, hE⟩ := hC
  have hcb := zcallB (h := h) (mc := 0) (ms := 0) (R := R) hE hL.1 c6 c7
  have hrest : ((st.map (zcv G)).map fun v => v.category).sum ≤ 8 := by rw [zcats]; exact hst
  have eo : zcv G (2, -2 - 2 * (i : Int)) = .ref (G.2.2.1 i) := by show va_rf (zro G _) = _; rw [zro_str]; rfl
  have e0 : (As.reverse ++ (2, -2 - 2 * (i : Int)) :: st).map (zcv G) = (As.map (zcv G)).reverse ++ .ref (G.2.2.1 i) :: st.map (zcv G) := by
    rw [List.map_append, List.map_reverse, List.map_cons, eo]
  rw [e0]
  have eA : (Value.ref (G.2.2.1 i) :: As.map (zcv G)) = ((2, -2 - 2 * (i : Int)) :: As).map (zcv G) := by rw [List.map_cons, eo]
  refine zgo (va_runV (Ts := []) (As := As.map (zcv G)) (rest := st.map (zcv G)) ⟨c1, c2, c3, c4, fun w hw => by cases hw⟩ H1 ⟨hcb, hE.1 _ hL.2.1 rfl, hE.1 _ hL.2.2 rfl⟩ ⟨zblind, by rw [hci]; obtain ⟨cell, w1, w2, w3, -⟩ := ((hE.2.2.1 i hi).1).kept (zkeep hS); exact ⟨cell, w1, w2, w3⟩, fun U hU hWm => ⟨by rw [eA], hE.warm hWm (fun q q1 q2 => by rw [hU]; exact zkeep hS q q1 q2), by rw [hU]; exact hW.moved hWm.alike, fun v hv => ?_⟩⟩ rfl (by rw [List.length_map]; exact hn) hl.1 rfl (lv_room hrest) hd ⟨by omega, by omega⟩) hS (fun x M' H' locs' hrk hge hW' hq hS' => ?_)
  · rcases List.mem_cons.mp hv with rfl | hv
    · exact hso _ (List.mem_append_right _ List.mem_cons_self)
    · exact hso _ (List.mem_append_left _ (List.mem_reverse.mpr hv))
  · rw [← List.map_append]
    have k2 := k x M' hrk hq p e R s m args below meth c Qs ⟨c1, c2, c3, c4, c5, c6, c7, c8, c9, hE⟩ hR H' locs' cells slots ls hW' hS' hl (fun q hq => zok_le hge (hlo q hq)) (fun v hv => ?_) h1 h2 h3 h4
    · rw [zrs_i hr]
      exact k2
    · rcases List.mem_cons.mp hv with rfl | hv
      · exact zrs_ok hrk _ (by rw [zrs_i hr]; exact List.mem_cons_self)
      · exact zok_le hge (hso v (List.mem_append_right _ (List.mem_cons_of_mem _ hv)))
end ZR2
