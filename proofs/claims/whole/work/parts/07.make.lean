/-! what is made; rows copied; constant texts and the library's statics -/
theorem zws_push (G : zG) (M : zM) {c : Int} (h0 : 0 ≤ c) (hc : M 0 0 = c) : zws G (zwr M 0 0 (c + 1)) = zws G M ++ [(G.2.1.1 + c.toNat, zcell G (zK (c + 1)) (M (c + 1)))] := by
  subst hc
  have e : ∀ i : Nat, zwr M 0 0 (M 0 0 + 1) ((i : Int) + 1) = M ((i : Int) + 1) := fun i => by funext b; exact zwr_o M (by omega)
  have e2 : (M 0 0 + 1).toNat = (M 0 0).toNat + 1 := by omega
  have e3 : (((M 0 0).toNat : Nat) : Int) = M 0 0 := by omega
  unfold zws
  rw [zwr_s, e2, List.range_succ, List.map_append]
  simp only [e, List.map_cons, List.map_nil, e3]
/-- a new cell behind the others -/
theorem zW.push {G : zG} {sl : Nat} {M : zM} {s : State} {H H1 : Heap} {c : Int} (hW : zW G sl M s H) (hc : M 0 0 = c) (he : va_at G.1.2.1 zcl (G.2.1.1 + c.toNat, zcell G (zK (c + 1)) (fun _ => 0)) H1) (z : H1.size = H.size + 1) (oq : ∀ q : Nat, q < H.size → H1[q]? = H[q]?) : zW G sl (zwr M 0 0 (c + 1)) s H1 := by
  obtain ⟨w1, w2, w3, w4, w5, w6, w7, w8, w9⟩ := hW
  have hM : M (c + 1) = fun _ => 0 := by funext j; exact (w5 (c + 1) j (by omega)).2 (by omega)
  have hne : ∀ o j : Int, o ≠ 0 → zwr M 0 0 (c + 1) o j = M o j := fun o j h => zwr_o M h
  refine ⟨w1, ?_, by rw [z, zwr_s]; omega, by rw [zwr_s]; omega, fun o j ho => ?_, fun o k hl hs => ?_, w7, ?_, by rw [hne _ _ (by omega)]; exact w9.1, by rw [hne _ _ (by omega)]; exact w9.2.1, fun j => by rw [hne _ _ (by omega)]; exact w9.2.2 j⟩
  · rw [zws_push G M (by omega) hc, hM]
    refine (w2.kept (fun k q hk => oq q.1 ((w2 k q hk).lt))).app (fun k q hk => ?_)
    have hz : k < 1 := (List.getElem?_eq_some_iff.mp hk).1
    rw [show k = 0 by omega] at hk
    cases hk
    exact he
  · rw [zwr_s, hne o j (by omega)]
    exact ⟨zok_le (by omega) (w5 o j ho).1, fun h => (w5 o j ho).2 (by omega)⟩
  · rw [zwr_o M (by
      intro e
      subst e
      have : zlv 0 k = 0 := by
        unfold zlv
        rw [show zK 0 = (999, 0) from rfl]
        unfold zkf
        split
        · rfl
        · rfl
      omega)]
    exact w6 o k hl hs
  · rw [hne _ _ (by omega)]
    have e : (fun j : Nat => Int32.ofInt (zwr M 0 0 (c + 1) (-1) j)) = fun j : Nat => Int32.ofInt (M (-1) j) := by funext j; rw [hne _ _ (by omega)]
    rw [e]
    exact w8.kept (oq _ (by omega))
def zob (M : zM) (o : Int) (f : Int → Int) : zM := fun a b => if a = o then f b else M a b
theorem zob_s (M : zM) (o : Int) (f : Int → Int) : zob M o f o = f := by funext b; simp [zob]
theorem zob_o (M : zM) {o a : Int} (f : Int → Int) (h : a ≠ o) : zob M o f a = M a := by funext b; simp [zob, h]
theorem zob_i (M : zM) (o : Int) (f : Int → Int) (a b : Int) : zob M o f a b = if a = o then f b else M a b := rfl
theorem zws_obj (G : zG) (M : zM) {o : Int} {f : Int → Int} {e : va_E} (h1 : 1 ≤ o) (h2 : o ≤ M 0 0) (he : e = zcell G (zK o) f) : (zws G M).set (o.toNat - 1) (G.2.1.1 + (o.toNat - 1), e) = zws G (zob M o f) := by
  subst he
  have h0 : zob M o f 0 0 = M 0 0 := by rw [zob_o M f (by omega)]
  apply List.ext_getElem?
  intro i
  by_cases hi : i = o.toNat - 1
  · subst hi
    have := zws_get G (zob M o f) h1 (by omega)
    rw [zob_s] at this
    rw [this, List.getElem?_set_self]
    simp [zws]
    omega
  · rw [List.getElem?_set_ne (Ne.symm hi)]
    simp only [zws, List.getElem?_map, h0]
    cases hr : (List.range (M 0 0).toNat)[i]? with
    | none => rfl
    | some j =>
      obtain ⟨h9, h5⟩ := List.getElem?_eq_some_iff.mp hr
      rw [List.getElem_range] at h5
      subst h5
      have h6 : zob M o f ((i : Int) + 1) = M ((i : Int) + 1) := zob_o M f (by omega)
      simp [h6]
theorem zW.obj {G : zG} {sl : Nat} {M : zM} {s : State} {H H1 : Heap} {o : Int} {f : Int → Int} (hW : zW G sl M s H) (ho : 1 ≤ o) (hn : o ≤ M 0 0) (he : va_at G.1.2.1 zcl (G.2.1.1 + (o.toNat - 1), zcell G (zK o) f) H1) (z : H1.size = H.size) (oq : ∀ q : Nat, q ≠ G.2.1.1 + (o.toNat - 1) → H1[q]? = H[q]?)
    (hok : ∀ k, zok (M 0 0) (ztag o k, f k)) (hz : ∀ k, zlv o k = 0) : zW G sl (zob M o f) s H1 := by
  obtain ⟨w1, w2, w3, w4, w5, w6, w7, w8, w9⟩ := hW
  have hne : ∀ a b : Int, a ≠ o → zob M o f a b = M a b := fun a b h => by rw [zob_o M f h]
  have h0 : zob M o f 0 0 = M 0 0 := hne _ _ (by omega)
  have h1 : ∀ j, zob M o f (-1) j = M (-1) j := fun j => hne _ _ (by omega)
  have h2 : zob M o f (-2) 0 = M (-2) 0 := hne _ _ (by omega)
  refine ⟨w1, ?_, by rw [z, h0]; exact w3, by rw [h0]; exact w4, ?_, ?_, w7, ?_, by rw [h2]; exact w9.1, by rw [h2]; exact w9.2.1, fun j => by rw [h1]; exact w9.2.2 j⟩
  · have := w2.set (zws_D G M) (zws_get G M ho hn) he oq
    rwa [zws_obj G M (f := f) ho hn rfl] at this
  · intro a b ha
    rw [h0]
    by_cases hab : a = o
    · subst hab
      rw [zob_s]
      exact ⟨hok b, fun z => by omega⟩
    · rw [hne a b hab]
      exact w5 a b ha
  · intro a b hl hs
    by_cases hab : a = o
    · subst hab
      have := hz b
      omega
    · rw [hne a b hab]
      exact w6 a b hl hs
  · rw [h2]
    have e : (fun j : Nat => Int32.ofInt (zob M o f (-1) j)) = fun j : Nat => Int32.ofInt (M (-1) j) := by funext j; rw [h1]
    rw [e]
    exact w8.kept (oq _ (by omega))
def zdv : Nat → Value
  | 0 => .int (Int32.ofInt 0)
  | 1 => .long (Int64.ofInt 0)
  | _ => .null
theorem zdv_cv (G : zG) (t : Nat) : zcv G (t, 0) = zdv t := by
  match t with
  | 0 => rfl
  | 1 => rfl
  | k + 2 => show va_rf (zro G 0) = .null; rfl
def zCls (own : String) (idx ci N : Nat) : Prop := ∃ (C : String) (T : u_T) (tyf : Nat → FieldType), zcl[ci]? = some (C, T, N) ∧ (∀ w ∈ u_ws C T N, w ∈ lw_tbl) ∧ (∀ j, j < N → parseFieldDescriptor (T j).2.2.1 = some (tyf j)) ∧ (∀ j, j < N → defaultValue (tyf j) = zdv (zft ci j)) ∧
  Cond.classLink own idx C ∈ lw_tbl ∧ Cond.instantiable C N ∈ lw_tbl ∧ Cond.initialized C ∈ lw_tbl ∧ (zftl.getD ci []).length = N ∧ ci < 100
section ZMK
variable {G : zG} {a : zYt × Nat × Nat} {y0 : zYt} {u : Nat × Nat × Nat × Nat} {pc h sl k0 z0 cc ss : Nat} {lv : List (Nat × zV)} {st : List zV} {M : zM} {Q : Int → zM → Prop}
theorem x_new {idx ci N : Nat} {c c' : Int} (hd : decode a.1.2.1 pc = .ok (.new idx, 3)) (hL : zCls a.1.1.cls idx ci N) (hc : M 0 0 = c) (hc' : c + 1 = c') (hK : zK c' = (ci, 0)) (hu1 : k0 + 1 ≤ cc) (hu2 : z0 + N ≤ ss)
    (k : zX G a (cc, ss, k0 + 1, z0 + N) (pc + 3) lv ((2, c') :: st) (zwr M 0 0 c') Q) : zX G a (cc, ss, k0, z0) pc lv st M Q := by
  intro p e R s m args below meth c0 Qs hC hR H locs cells slots ls hW hS hl hlo hso h1 h2 h3 h4
  subst hc'
  obtain ⟨c1, c2, c3, c4, c5, c6, c7, c8, c9, hE⟩ := hC
  obtain ⟨C, T, tyf, l1, l2, l3, l4, l5, l6, l7, l8, l9⟩ := hL
  have c8 : cc ≤ R.cells := c8
  have c9 : ss ≤ R.slots := c9
  have h1 : cells ≤ k0 := h1
  have h2 : slots ≤ z0 := h2
  have hc0 : 0 ≤ c := by rw [← hc]; exact hW.2.2.2.1
  have hsz := hW.2.2.1
  have hts : ∀ w ∈ u_ws C T N, w.before args s = true := fun w hw => hE.1 w (l2 w hw) (by
    obtain ⟨j, hj, rfl⟩ := List.mem_map.mp hw
    unfold u_lay; split <;> rfl)
  have hKn := hW.1.1 ci _ l1
  have ha : H.size = G.2.1.1 + c.toNat := by omega
  refine W.newcK c1 c2 c4 (hE.1 _ l5 rfl) (hE.1 _ l6 rfl) (hE.1 _ l7 rfl) rfl hd (by omega) (by omega) hKn.2.1 rfl fun H1 kC hkC e1 z1 o1 => ?_
  have hw' : zW G a.2.2 (zwr M 0 0 (c + 1)) s H1 := by
    refine hW.push hc ?_ z1 o1
    rw [zcell_o G hK l9]
    refine ⟨_, l1, ?_⟩
    rw [← ha]
    refine (u_born tyf hts (fun w hw => hw) hKn hkC e1 l3).to (fun j hj => ?_)
    rw [l4 j hj]
    show _ = (zfs G ci fun _ => 0).getD j .null
    rw [List.getD_eq_getElem?_getD, zfs_get G ci _ (by rw [l8]; exact hj), zdv_cv]
    rfl
  have hle : M 0 0 ≤ zwr M 0 0 (c + 1) 0 0 := by rw [zwr_s]; omega
  have := k p e R s m args below meth c0 Qs ⟨c1, c2, c3, c4, c5, c6, c7, c8, c9, hE⟩ hR H1 locs (cells + 1) (slots + N) ls hw' ⟨by rw [z1]; exact Nat.le_trans hS.1 (Nat.le_succ _), fun q g1 g2 => by rw [o1 q (Nat.lt_of_lt_of_le g1 hS.1)]; exact hS.2.1 q g1 g2, hS.2.2⟩ hl (fun q hq => zok_le hle (hlo q hq)) (fun v hv => by
    rcases List.mem_cons.mp hv with rfl | hv
    · show c + 1 ≤ _; rw [zwr_s]; omega
    · exact zok_le hle (hso v hv)) (by show cells + 1 ≤ k0 + 1; omega) (by show slots + N ≤ z0 + N; omega) hu1 hu2
  simp only [List.map_cons, zcv_pos G (show (1 : Int) ≤ c + 1 by omega)] at this
  rw [show (c + 1).toNat - 1 = c.toNat by omega, ← ha] at this
  exact this
theorem zarr_id {G : zG} {s : State} {ai : Nat} {ty : FieldType} {cA : ClassId} (hK : va_K G.1.2.1 zcl (ztys G) s) (hi : (ztys G)[ai]? = some (G.1.2.2 ai, ty)) (hf : s.vm.findClass ("[" ++ ty.toString) = some cA) : cA = G.1.2.2 ai := by
  have h := (hK.2 ai _ hi).2
  unfold va_RA at h
  cases ty with
  | object C =>
    obtain ⟨kA, comp, q1, q2, q3, q4⟩ := h
    exact Option.some.inj (hf.symm.trans q4)
  | _ => exact Option.some.inj (hf.symm.trans h)

theorem x_newaI {n c c' : Int} (hd : decode a.1.2.1 pc = .ok (.newarray .int, 2)) (hw : Cond.arrayClass .int ∈ lw_tbl) (hc : M 0 0 = c) (hc' : c + 1 = c') (hK : zK c' = (100, n)) (hn : 0 ≤ n ∧ n ≤ 100000) (hu1 : k0 + 1 ≤ cc) (hu2 : z0 + n.toNat ≤ ss)
    (k : zX G a (cc, ss, k0 + 1, z0 + n.toNat) (pc + 2) lv ((2, c') :: st) (zwr M 0 0 c') Q) : zX G a (cc, ss, k0, z0) pc lv ((0, n) :: st) M Q := by
  intro p e R s m args below meth c0 Qs hC hR H locs cells slots ls hW hS hl hlo hso h1 h2 h3 h4
  subst hc'
  obtain ⟨c1, c2, c3, c4, c5, c6, c7, c8, c9, hE⟩ := hC
  have c8 : cc ≤ R.cells := c8
  have c9 : ss ≤ R.slots := c9
  have h1 : cells ≤ k0 := h1
  have h2 : slots ≤ z0 := h2
  have hc0 : 0 ≤ c := by rw [← hc]; exact hW.2.2.2.1
  have hsz := hW.2.2.1
  have ha : H.size = G.2.1.1 + c.toNat := by omega
  have hnz : zI n := by unfold zI; omega
  have hcb : componentBytes .int ≤ 8 := by decide
  have hby : n.toNat * componentBytes .int ≤ 536870912 := Nat.le_trans (Nat.mul_le_mul_left _ hcb) (by omega)
  refine va_newaK c1 c2 (atype := .int) (hE.1 _ hw rfl) rfl hd (n := Int32.ofInt n) (N := n.toNat) rfl (fun z => by have := (zi_lt hnz zI_0).mp z; omega) (zi_cl hnz) hby (by omega) (by omega) rfl fun H1 cA e1 z1 o1 hAr hNm => ?_
  have hid := zarr_id (ai := 0) (ty := .int) hW.1 rfl hNm
  have hw' : zW G a.2.2 (zwr M 0 0 (c + 1)) s H1 := by
    refine hW.push hc ?_ z1 o1
    rw [zcell_a G (ai := 0) hK]
    refine (show H1[G.2.1.1 + c.toNat]? = some (arrV (G.1.2.2 0) n.toNat (fun _ => .int (Int32.ofInt 0))) from ?_)
    rw [← ha, e1, hid]
    rfl
  have hle : M 0 0 ≤ zwr M 0 0 (c + 1) 0 0 := by rw [zwr_s]; omega
  have := k p e R s m args below meth c0 Qs ⟨c1, c2, c3, c4, c5, c6, c7, c8, c9, hE⟩ hR H1 locs (cells + 1) (slots + n.toNat) ls hw' ⟨by rw [z1]; exact Nat.le_trans hS.1 (Nat.le_succ _), fun q g1 g2 => by rw [o1 q (Nat.lt_of_lt_of_le g1 hS.1)]; exact hS.2.1 q g1 g2, hS.2.2⟩ hl (fun q hq => zok_le hle (hlo q hq)) (fun v hv => by
    rcases List.mem_cons.mp hv with rfl | hv
    · show c + 1 ≤ _; rw [zwr_s]; omega
    · exact zok_le hle (hso v (List.mem_cons_of_mem _ hv))) (by show cells + 1 ≤ k0 + 1; omega) (by show slots + n.toNat ≤ z0 + n.toNat; omega) hu1 hu2
  simp only [List.map_cons, zcv_pos G (show (1 : Int) ≤ c + 1 by omega)] at this
  rw [show (c + 1).toNat - 1 = c.toNat by omega, ← ha] at this
  exact this


theorem x_newaJ {n c c' : Int} (hd : decode a.1.2.1 pc = .ok (.newarray .long, 2)) (hw : Cond.arrayClass .long ∈ lw_tbl) (hc : M 0 0 = c) (hc' : c + 1 = c') (hK : zK c' = (101, n)) (hn : 0 ≤ n ∧ n ≤ 100000) (hu1 : k0 + 1 ≤ cc) (hu2 : z0 + n.toNat ≤ ss)
    (k : zX G a (cc, ss, k0 + 1, z0 + n.toNat) (pc + 2) lv ((2, c') :: st) (zwr M 0 0 c') Q) : zX G a (cc, ss, k0, z0) pc lv ((0, n) :: st) M Q := by
  intro p e R s m args below meth c0 Qs hC hR H locs cells slots ls hW hS hl hlo hso h1 h2 h3 h4
  subst hc'
  obtain ⟨c1, c2, c3, c4, c5, c6, c7, c8, c9, hE⟩ := hC
  have c8 : cc ≤ R.cells := c8
  have c9 : ss ≤ R.slots := c9
  have h1 : cells ≤ k0 := h1
  have h2 : slots ≤ z0 := h2
  have hc0 : 0 ≤ c := by rw [← hc]; exact hW.2.2.2.1
  have hsz := hW.2.2.1
  have ha : H.size = G.2.1.1 + c.toNat := by omega
  have hnz : zI n := by unfold zI; omega
  have hcb : componentBytes .long ≤ 8 := by decide
  have hby : n.toNat * componentBytes .long ≤ 536870912 := Nat.le_trans (Nat.mul_le_mul_left _ hcb) (by omega)
  refine va_newaK c1 c2 (atype := .long) (hE.1 _ hw rfl) rfl hd (n := Int32.ofInt n) (N := n.toNat) rfl (fun z => by have := (zi_lt hnz zI_0).mp z; omega) (zi_cl hnz) hby (by omega) (by omega) rfl fun H1 cA e1 z1 o1 hAr hNm => ?_
  have hid := zarr_id (ai := 1) (ty := .long) hW.1 rfl hNm
  have hw' : zW G a.2.2 (zwr M 0 0 (c + 1)) s H1 := by
    refine hW.push hc ?_ z1 o1
    rw [zcell_a G (ai := 1) hK]
    refine (show H1[G.2.1.1 + c.toNat]? = some (arrV (G.1.2.2 1) n.toNat (fun _ => .long (Int64.ofInt 0))) from ?_)
    rw [← ha, e1, hid]
    rfl
  have hle : M 0 0 ≤ zwr M 0 0 (c + 1) 0 0 := by rw [zwr_s]; omega
  have := k p e R s m args below meth c0 Qs ⟨c1, c2, c3, c4, c5, c6, c7, c8, c9, hE⟩ hR H1 locs (cells + 1) (slots + n.toNat) ls hw' ⟨by rw [z1]; exact Nat.le_trans hS.1 (Nat.le_succ _), fun q g1 g2 => by rw [o1 q (Nat.lt_of_lt_of_le g1 hS.1)]; exact hS.2.1 q g1 g2, hS.2.2⟩ hl (fun q hq => zok_le hle (hlo q hq)) (fun v hv => by
    rcases List.mem_cons.mp hv with rfl | hv
    · show c + 1 ≤ _; rw [zwr_s]; omega
    · exact zok_le hle (hso v (List.mem_cons_of_mem _ hv))) (by show cells + 1 ≤ k0 + 1; omega) (by show slots + n.toNat ≤ z0 + n.toNat; omega) hu1 hu2
  simp only [List.map_cons, zcv_pos G (show (1 : Int) ≤ c + 1 by omega)] at this
  rw [show (c + 1).toNat - 1 = c.toNat by omega, ← ha] at this
  exact this


theorem x_newaC {n c c' : Int} (hd : decode a.1.2.1 pc = .ok (.newarray .char, 2)) (hw : Cond.arrayClass .char ∈ lw_tbl) (hc : M 0 0 = c) (hc' : c + 1 = c') (hK : zK c' = (102, n)) (hn : 0 ≤ n ∧ n ≤ 100000) (hu1 : k0 + 1 ≤ cc) (hu2 : z0 + n.toNat ≤ ss)
    (k : zX G a (cc, ss, k0 + 1, z0 + n.toNat) (pc + 2) lv ((2, c') :: st) (zwr M 0 0 c') Q) : zX G a (cc, ss, k0, z0) pc lv ((0, n) :: st) M Q := by
  intro p e R s m args below meth c0 Qs hC hR H locs cells slots ls hW hS hl hlo hso h1 h2 h3 h4
  subst hc'
  obtain ⟨c1, c2, c3, c4, c5, c6, c7, c8, c9, hE⟩ := hC
  have c8 : cc ≤ R.cells := c8
  have c9 : ss ≤ R.slots := c9
  have h1 : cells ≤ k0 := h1
  have h2 : slots ≤ z0 := h2
  have hc0 : 0 ≤ c := by rw [← hc]; exact hW.2.2.2.1
  have hsz := hW.2.2.1
  have ha : H.size = G.2.1.1 + c.toNat := by omega
  have hnz : zI n := by unfold zI; omega
  have hcb : componentBytes .char ≤ 8 := by decide
  have hby : n.toNat * componentBytes .char ≤ 536870912 := Nat.le_trans (Nat.mul_le_mul_left _ hcb) (by omega)
  refine va_newaK c1 c2 (atype := .char) (hE.1 _ hw rfl) rfl hd (n := Int32.ofInt n) (N := n.toNat) rfl (fun z => by have := (zi_lt hnz zI_0).mp z; omega) (zi_cl hnz) hby (by omega) (by omega) rfl fun H1 cA e1 z1 o1 hAr hNm => ?_
  have hid := zarr_id (ai := 2) (ty := .char) hW.1 rfl hNm
  have hw' : zW G a.2.2 (zwr M 0 0 (c + 1)) s H1 := by
    refine hW.push hc ?_ z1 o1
    rw [zcell_a G (ai := 2) hK]
    refine (show H1[G.2.1.1 + c.toNat]? = some (arrV (G.1.2.2 2) n.toNat (fun _ => .int (Int32.ofInt 0))) from ?_)
    rw [← ha, e1, hid]
    rfl
  have hle : M 0 0 ≤ zwr M 0 0 (c + 1) 0 0 := by rw [zwr_s]; omega
  have := k p e R s m args below meth c0 Qs ⟨c1, c2, c3, c4, c5, c6, c7, c8, c9, hE⟩ hR H1 locs (cells + 1) (slots + n.toNat) ls hw' ⟨by rw [z1]; exact Nat.le_trans hS.1 (Nat.le_succ _), fun q g1 g2 => by rw [o1 q (Nat.lt_of_lt_of_le g1 hS.1)]; exact hS.2.1 q g1 g2, hS.2.2⟩ hl (fun q hq => zok_le hle (hlo q hq)) (fun v hv => by
    rcases List.mem_cons.mp hv with rfl | hv
    · show c + 1 ≤ _; rw [zwr_s]; omega
    · exact zok_le hle (hso v (List.mem_cons_of_mem _ hv))) (by show cells + 1 ≤ k0 + 1; omega) (by show slots + n.toNat ≤ z0 + n.toNat; omega) hu1 hu2
  simp only [List.map_cons, zcv_pos G (show (1 : Int) ≤ c + 1 by omega)] at this
  rw [show (c + 1).toNat - 1 = c.toNat by omega, ← ha] at this
  exact this


theorem x_newaZ {n c c' : Int} (hd : decode a.1.2.1 pc = .ok (.newarray .boolean, 2)) (hw : Cond.arrayClass .boolean ∈ lw_tbl) (hc : M 0 0 = c) (hc' : c + 1 = c') (hK : zK c' = (103, n)) (hn : 0 ≤ n ∧ n ≤ 100000) (hu1 : k0 + 1 ≤ cc) (hu2 : z0 + n.toNat ≤ ss)
    (k : zX G a (cc, ss, k0 + 1, z0 + n.toNat) (pc + 2) lv ((2, c') :: st) (zwr M 0 0 c') Q) : zX G a (cc, ss, k0, z0) pc lv ((0, n) :: st) M Q := by
  intro p e R s m args below meth c0 Qs hC hR H locs cells slots ls hW hS hl hlo hso h1 h2 h3 h4
  subst hc'
  obtain ⟨c1, c2, c3, c4, c5, c6, c7, c8, c9, hE⟩ := hC
  have c8 : cc ≤ R.cells := c8
  have c9 : ss ≤ R.slots := c9
  have h1 : cells ≤ k0 := h1
  have h2 : slots ≤ z0 := h2
  have hc0 : 0 ≤ c := by rw [← hc]; exact hW.2.2.2.1
  have hsz := hW.2.2.1
  have ha : H.size = G.2.1.1 + c.toNat := by omega
  have hnz : zI n := by unfold zI; omega
  have hcb : componentBytes .boolean ≤ 8 := by decide
  have hby : n.toNat * componentBytes .boolean ≤ 536870912 := Nat.le_trans (Nat.mul_le_mul_left _ hcb) (by omega)
  refine va_newaK c1 c2 (atype := .boolean) (hE.1 _ hw rfl) rfl hd (n := Int32.ofInt n) (N := n.toNat) rfl (fun z => by have := (zi_lt hnz zI_0).mp z; omega) (zi_cl hnz) hby (by omega) (by omega) rfl fun H1 cA e1 z1 o1 hAr hNm => ?_
  have hid := zarr_id (ai := 3) (ty := .boolean) hW.1 rfl hNm
  have hw' : zW G a.2.2 (zwr M 0 0 (c + 1)) s H1 := by
    refine hW.push hc ?_ z1 o1
    rw [zcell_a G (ai := 3) hK]
    refine (show H1[G.2.1.1 + c.toNat]? = some (arrV (G.1.2.2 3) n.toNat (fun _ => .int (Int32.ofInt 0))) from ?_)
    rw [← ha, e1, hid]
    rfl
  have hle : M 0 0 ≤ zwr M 0 0 (c + 1) 0 0 := by rw [zwr_s]; omega
  have := k p e R s m args below meth c0 Qs ⟨c1, c2, c3, c4, c5, c6, c7, c8, c9, hE⟩ hR H1 locs (cells + 1) (slots + n.toNat) ls hw' ⟨by rw [z1]; exact Nat.le_trans hS.1 (Nat.le_succ _), fun q g1 g2 => by rw [o1 q (Nat.lt_of_lt_of_le g1 hS.1)]; exact hS.2.1 q g1 g2, hS.2.2⟩ hl (fun q hq => zok_le hle (hlo q hq)) (fun v hv => by
    rcases List.mem_cons.mp hv with rfl | hv
    · show c + 1 ≤ _; rw [zwr_s]; omega
    · exact zok_le hle (hso v (List.mem_cons_of_mem _ hv))) (by show cells + 1 ≤ k0 + 1; omega) (by show slots + n.toNat ≤ z0 + n.toNat; omega) hu1 hu2
  simp only [List.map_cons, zcv_pos G (show (1 : Int) ≤ c + 1 by omega)] at this
  rw [show (c + 1).toNat - 1 = c.toNat by omega, ← ha] at this
  exact this


theorem x_anew4 {idx : Nat} {n c c' : Int} (hd : decode a.1.2.1 pc = .ok (.anewarray idx, 3)) (hw1 : Cond.classLink a.1.1.cls idx "ZigzagTablets$Line" ∈ lw_tbl) (hw : Cond.arrayOver (.object "ZigzagTablets$Line") ∈ lw_tbl) (hc : M 0 0 = c) (hc' : c + 1 = c') (hK : zK c' = (104, n)) (hn : 0 ≤ n ∧ n ≤ 100000) (hu1 : k0 + 1 ≤ cc) (hu2 : z0 + n.toNat ≤ ss)
    (k : zX G a (cc, ss, k0 + 1, z0 + n.toNat) (pc + 3) lv ((2, c') :: st) (zwr M 0 0 c') Q) : zX G a (cc, ss, k0, z0) pc lv ((0, n) :: st) M Q := by
  intro p e R s m args below meth c0 Qs hC hR H locs cells slots ls hW hS hl hlo hso h1 h2 h3 h4
  subst hc'
  obtain ⟨c1, c2, c3, c4, c5, c6, c7, c8, c9, hE⟩ := hC
  have c8 : cc ≤ R.cells := c8
  have c9 : ss ≤ R.slots := c9
  have h1 : cells ≤ k0 := h1
  have h2 : slots ≤ z0 := h2
  have hc0 : 0 ≤ c := by rw [← hc]; exact hW.2.2.2.1
  have hsz := hW.2.2.1
  have ha : H.size = G.2.1.1 + c.toNat := by omega
  have hnz : zI n := by unfold zI; omega
  refine W.anew c1 c2 c4 (hE.1 _ hw1 rfl) (hE.1 _ hw rfl) rfl hd (n := Int32.ofInt n) rfl (fun z => by have := (zi_lt hnz zI_0).mp z; omega) (by rw [zi_cl hnz]; omega) (by omega) (by rw [zi_cl hnz]; omega) fun cA kA comp f1 f2 f3 f4 => ?_
  rw [zi_cl hnz]
  generalize hH1 : H.push ({ cls := cA, slots := Array.replicate n.toNat .null, vm := .none } : Cell) = H1
  have z1 : H1.size = H.size + 1 := by rw [← hH1, Array.size_push]
  have e1 : H1[H.size]? = some (arrV cA n.toNat (fun _ => .null)) := by rw [← hH1, Array.getElem?_push_size, ← arrV_new]
  have o1 : ∀ q : Nat, q < H.size → H1[q]? = H[q]? := fun q hq => by rw [← hH1, Array.getElem?_push, if_neg (Nat.ne_of_lt hq)]
  have hid := zarr_id (ai := 4) (ty := .object "ZigzagTablets$Line") hW.1 rfl f1
  have hw' : zW G a.2.2 (zwr M 0 0 (c + 1)) s H1 := by
    refine hW.push hc ?_ z1 o1
    rw [zcell_a G (ai := 4) hK]
    refine (show H1[G.2.1.1 + c.toNat]? = some (arrV (G.1.2.2 4) n.toNat (fun _ => va_rf (zro G 0))) from ?_)
    rw [← ha, e1, hid]
    rfl
  have hle : M 0 0 ≤ zwr M 0 0 (c + 1) 0 0 := by rw [zwr_s]; omega
  have := k p e R s m args below meth c0 Qs ⟨c1, c2, c3, c4, c5, c6, c7, c8, c9, hE⟩ hR H1 locs (cells + 1) (slots + n.toNat) ls hw' ⟨by rw [z1]; exact Nat.le_trans hS.1 (Nat.le_succ _), fun q g1 g2 => by rw [o1 q (Nat.lt_of_lt_of_le g1 hS.1)]; exact hS.2.1 q g1 g2, hS.2.2⟩ hl (fun q hq => zok_le hle (hlo q hq)) (fun v hv => by
    rcases List.mem_cons.mp hv with rfl | hv
    · show c + 1 ≤ _; rw [zwr_s]; omega
    · exact zok_le hle (hso v (List.mem_cons_of_mem _ hv))) (by show cells + 1 ≤ k0 + 1; omega) (by show slots + n.toNat ≤ z0 + n.toNat; omega) hu1 hu2
  simp only [List.map_cons, zcv_pos G (show (1 : Int) ≤ c + 1 by omega)] at this
  rw [show (c + 1).toNat - 1 = c.toNat by omega, ← ha] at this
  exact this
theorem x_aast4 {o j n x : Int} {ci : Nat} (hd : decode a.1.2.1 pc = .ok (.aastore, 1)) (ho : zK o = (104, n)) (hj : 0 ≤ j ∧ j < n) (hx : zK x = (ci, 0)) (hci : ∃ T N, zcl[ci]? = some ("ZigzagTablets$Line", T, N)) (hz0 : a.2.2 = 0) (k : zX G a u (pc + 1) lv st (zwr M o j x) Q) : zX G a u pc lv ((2, x) :: (0, j) :: (2, o) :: st) M Q := by
  refine zX.step (fun p e R s m args below meth c Qs hC k H locs cells slots ls hW hS hl hlo hso h1 h2 h3 h4 => ?_) k
  obtain ⟨T, N, hcl⟩ := hci
  have hcr : ci < 100 := by
    have := (List.getElem?_eq_some_iff.mp hcl).1
    exact Nat.lt_of_lt_of_le this (by decide)
  have p1 : 1 ≤ o := zK_pos ho (by show 104 ≠ 999; omega)
  have p2 : o ≤ M 0 0 := hso _ (List.mem_cons_of_mem _ (List.mem_cons_of_mem _ List.mem_cons_self))
  have px1 : 1 ≤ x := zK_pos hx (by show ci ≠ 999; omega)
  have px2 : x ≤ M 0 0 := hso _ List.mem_cons_self
  have hjz : zI j := hso _ (List.mem_cons_of_mem _ List.mem_cons_self)
  have hg := zws_get G M p1 p2
  rw [zcell_a G (ai := 4) ho] at hg
  have hgx := zws_get G M px1 px2
  rw [zcell_o G hx hcr] at hgx
  have hin := zi_ix (n := n) hjz hj.1 hj.2
  simp only [List.map_cons, zcv_pos G p1, zcv_pos G px1]
  obtain ⟨r', hr', cellV, g1, g2, g3, -⟩ := hW.2.1 _ _ hgx
  have hcls := (hW.1.1 ci _ hcl).2
  obtain ⟨kA, comp, k1, k2, k3, -⟩ := (hW.1.2 4 _ rfl).2
  have hcomp : comp = G.1.2.1.1 ci := Option.some.inj (k3.symm.trans hcls.1)
  subst hcomp
  obtain ⟨kC, hkC, -⟩ := hcls.2
  have hlt : (Int32.ofInt j).toNatClampNeg < n.toNat := by rw [zi_cl hjz]; omega
  refine W.aast hC.1 hC.2.1 (hW.2.1 _ _ hg) (fun q h => by cases h) (fun h => by cases h) k1 k2 rfl hkC ⟨fun z => by have := (zi_lt hjz zI_0).mp z; omega, by show _ < (arrV _ _ _).slots.size; rw [arrV_size]; exact hlt⟩ g1 (fun q h => by rw [g3] at h; cases h) (by rw [g2]; exact hkC) (by rw [g2]; exact va_assign hcls) rfl rfl hd fun H' e1 e2 e3 => ?_
  refine k H' _ cells slots ls (hW.store p1 p2 ?_ e2 e3 ?_ (Or.inr hz0)) (hS.put e2 e3 (by show G.2.1.1 ≤ _; omega)) hl (fun q hq => ?_) (fun q hq => ?_) h1 h2 h3 h4
  · rw [zcell_a G (ai := 4) ho]
    refine (show H'[G.2.1.1 + (o.toNat - 1)]? = some (arrV (G.1.2.2 4) n.toNat (fun i => va_rf (zro G (zwr M o j x o i)))) from ?_)
    rw [e1]
    refine (show some ((arrV (G.1.2.2 4) n.toNat (fun i => va_rf (zro G (M o i)))).setSlot _ _) = _ from ?_)
    rw [arrV_store]
    congr 2
    funext q
    have hq : (q = (Int32.ofInt j).toNatClampNeg) ↔ ((q : Int) = j) := by rw [zi_cl hjz]; omega
    by_cases e : q = (Int32.ofInt j).toNatClampNeg
    · have e2 := hq.mp e
      simp only [updV, if_pos e, zwr, e2, and_self, if_true, zro_pos G px1]
      rfl
    · have e2 : ¬ ((q : Int) = j) := fun z => e (hq.mpr z)
      simp only [updV, if_neg e, zwr, e2, and_false, if_false]
  · unfold ztag
    rw [ho]
    exact px2
  · rw [zwr_o M (by omega)]
    exact hlo q hq
  · rw [zwr_o M (by omega)]
    exact hso q (List.mem_cons_of_mem _ (List.mem_cons_of_mem _ (List.mem_cons_of_mem _ hq)))


theorem x_anew5 {idx : Nat} {n c c' : Int} (hd : decode a.1.2.1 pc = .ok (.anewarray idx, 3)) (hw1 : Cond.classLink a.1.1.cls idx "ZigzagTablets$Column" ∈ lw_tbl) (hw : Cond.arrayOver (.object "ZigzagTablets$Column") ∈ lw_tbl) (hc : M 0 0 = c) (hc' : c + 1 = c') (hK : zK c' = (105, n)) (hn : 0 ≤ n ∧ n ≤ 100000) (hu1 : k0 + 1 ≤ cc) (hu2 : z0 + n.toNat ≤ ss)
    (k : zX G a (cc, ss, k0 + 1, z0 + n.toNat) (pc + 3) lv ((2, c') :: st) (zwr M 0 0 c') Q) : zX G a (cc, ss, k0, z0) pc lv ((0, n) :: st) M Q := by
  intro p e R s m args below meth c0 Qs hC hR H locs cells slots ls hW hS hl hlo hso h1 h2 h3 h4
  subst hc'
  obtain ⟨c1, c2, c3, c4, c5, c6, c7, c8, c9, hE⟩ := hC
  have c8 : cc ≤ R.cells := c8
  have c9 : ss ≤ R.slots := c9
  have h1 : cells ≤ k0 := h1
  have h2 : slots ≤ z0 := h2
  have hc0 : 0 ≤ c := by rw [← hc]; exact hW.2.2.2.1
  have hsz := hW.2.2.1
  have ha : H.size = G.2.1.1 + c.toNat := by omega
  have hnz : zI n := by unfold zI; omega
  refine W.anew c1 c2 c4 (hE.1 _ hw1 rfl) (hE.1 _ hw rfl) rfl hd (n := Int32.ofInt n) rfl (fun z => by have := (zi_lt hnz zI_0).mp z; omega) (by rw [zi_cl hnz]; omega) (by omega) (by rw [zi_cl hnz]; omega) fun cA kA comp f1 f2 f3 f4 => ?_
  rw [zi_cl hnz]
  generalize hH1 : H.push ({ cls := cA, slots := Array.replicate n.toNat .null, vm := .none } : Cell) = H1
  have z1 : H1.size = H.size + 1 := by rw [← hH1, Array.size_push]
  have e1 : H1[H.size]? = some (arrV cA n.toNat (fun _ => .null)) := by rw [← hH1, Array.getElem?_push_size, ← arrV_new]
  have o1 : ∀ q : Nat, q < H.size → H1[q]? = H[q]? := fun q hq => by rw [← hH1, Array.getElem?_push, if_neg (Nat.ne_of_lt hq)]
  have hid := zarr_id (ai := 5) (ty := .object "ZigzagTablets$Column") hW.1 rfl f1
  have hw' : zW G a.2.2 (zwr M 0 0 (c + 1)) s H1 := by
    refine hW.push hc ?_ z1 o1
    rw [zcell_a G (ai := 5) hK]
    refine (show H1[G.2.1.1 + c.toNat]? = some (arrV (G.1.2.2 5) n.toNat (fun _ => va_rf (zro G 0))) from ?_)
    rw [← ha, e1, hid]
    rfl
  have hle : M 0 0 ≤ zwr M 0 0 (c + 1) 0 0 := by rw [zwr_s]; omega
  have := k p e R s m args below meth c0 Qs ⟨c1, c2, c3, c4, c5, c6, c7, c8, c9, hE⟩ hR H1 locs (cells + 1) (slots + n.toNat) ls hw' ⟨by rw [z1]; exact Nat.le_trans hS.1 (Nat.le_succ _), fun q g1 g2 => by rw [o1 q (Nat.lt_of_lt_of_le g1 hS.1)]; exact hS.2.1 q g1 g2, hS.2.2⟩ hl (fun q hq => zok_le hle (hlo q hq)) (fun v hv => by
    rcases List.mem_cons.mp hv with rfl | hv
    · show c + 1 ≤ _; rw [zwr_s]; omega
    · exact zok_le hle (hso v (List.mem_cons_of_mem _ hv))) (by show cells + 1 ≤ k0 + 1; omega) (by show slots + n.toNat ≤ z0 + n.toNat; omega) hu1 hu2
  simp only [List.map_cons, zcv_pos G (show (1 : Int) ≤ c + 1 by omega)] at this
  rw [show (c + 1).toNat - 1 = c.toNat by omega, ← ha] at this
  exact this
theorem x_aast5 {o j n x : Int} {ci : Nat} (hd : decode a.1.2.1 pc = .ok (.aastore, 1)) (ho : zK o = (105, n)) (hj : 0 ≤ j ∧ j < n) (hx : zK x = (ci, 0)) (hci : ∃ T N, zcl[ci]? = some ("ZigzagTablets$Column", T, N)) (hz0 : a.2.2 = 0) (k : zX G a u (pc + 1) lv st (zwr M o j x) Q) : zX G a u pc lv ((2, x) :: (0, j) :: (2, o) :: st) M Q := by
  refine zX.step (fun p e R s m args below meth c Qs hC k H locs cells slots ls hW hS hl hlo hso h1 h2 h3 h4 => ?_) k
  obtain ⟨T, N, hcl⟩ := hci
  have hcr : ci < 100 := by
    have := (List.getElem?_eq_some_iff.mp hcl).1
    exact Nat.lt_of_lt_of_le this (by decide)
  have p1 : 1 ≤ o := zK_pos ho (by show 105 ≠ 999; omega)
  have p2 : o ≤ M 0 0 := hso _ (List.mem_cons_of_mem _ (List.mem_cons_of_mem _ List.mem_cons_self))
  have px1 : 1 ≤ x := zK_pos hx (by show ci ≠ 999; omega)
  have px2 : x ≤ M 0 0 := hso _ List.mem_cons_self
  have hjz : zI j := hso _ (List.mem_cons_of_mem _ List.mem_cons_self)
  have hg := zws_get G M p1 p2
  rw [zcell_a G (ai := 5) ho] at hg
  have hgx := zws_get G M px1 px2
  rw [zcell_o G hx hcr] at hgx
  have hin := zi_ix (n := n) hjz hj.1 hj.2
  simp only [List.map_cons, zcv_pos G p1, zcv_pos G px1]
  obtain ⟨r', hr', cellV, g1, g2, g3, -⟩ := hW.2.1 _ _ hgx
  have hcls := (hW.1.1 ci _ hcl).2
  obtain ⟨kA, comp, k1, k2, k3, -⟩ := (hW.1.2 5 _ rfl).2
  have hcomp : comp = G.1.2.1.1 ci := Option.some.inj (k3.symm.trans hcls.1)
  subst hcomp
  obtain ⟨kC, hkC, -⟩ := hcls.2
  have hlt : (Int32.ofInt j).toNatClampNeg < n.toNat := by rw [zi_cl hjz]; omega
  refine W.aast hC.1 hC.2.1 (hW.2.1 _ _ hg) (fun q h => by cases h) (fun h => by cases h) k1 k2 rfl hkC ⟨fun z => by have := (zi_lt hjz zI_0).mp z; omega, by show _ < (arrV _ _ _).slots.size; rw [arrV_size]; exact hlt⟩ g1 (fun q h => by rw [g3] at h; cases h) (by rw [g2]; exact hkC) (by rw [g2]; exact va_assign hcls) rfl rfl hd fun H' e1 e2 e3 => ?_
  refine k H' _ cells slots ls (hW.store p1 p2 ?_ e2 e3 ?_ (Or.inr hz0)) (hS.put e2 e3 (by show G.2.1.1 ≤ _; omega)) hl (fun q hq => ?_) (fun q hq => ?_) h1 h2 h3 h4
  · rw [zcell_a G (ai := 5) ho]
    refine (show H'[G.2.1.1 + (o.toNat - 1)]? = some (arrV (G.1.2.2 5) n.toNat (fun i => va_rf (zro G (zwr M o j x o i)))) from ?_)
    rw [e1]
    refine (show some ((arrV (G.1.2.2 5) n.toNat (fun i => va_rf (zro G (M o i)))).setSlot _ _) = _ from ?_)
    rw [arrV_store]
    congr 2
    funext q
    have hq : (q = (Int32.ofInt j).toNatClampNeg) ↔ ((q : Int) = j) := by rw [zi_cl hjz]; omega
    by_cases e : q = (Int32.ofInt j).toNatClampNeg
    · have e2 := hq.mp e
      simp only [updV, if_pos e, zwr, e2, and_self, if_true, zro_pos G px1]
      rfl
    · have e2 : ¬ ((q : Int) = j) := fun z => e (hq.mpr z)
      simp only [updV, if_neg e, zwr, e2, and_false, if_false]
  · unfold ztag
    rw [ho]
    exact px2
  · rw [zwr_o M (by omega)]
    exact hlo q hq
  · rw [zwr_o M (by omega)]
    exact hso q (List.mem_cons_of_mem _ (List.mem_cons_of_mem _ (List.mem_cons_of_mem _ hq)))


end ZMK
