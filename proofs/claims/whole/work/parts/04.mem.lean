def ztyt : FieldType → Nat
  | .long => 1
  | .object _ => 2
  | .array _ => 2
  | _ => 0
/-- what a pool number of a class says: a field of class ci at slot k -/
def zFld (own : String) (idx ci k : Nat) (fin : Bool) (ty : FieldType) : Prop := ∃ (C : String) (T : u_T) (N : Nat) (tyf : Nat → FieldType), zcl[ci]? = some (C, T, N) ∧ (∀ w ∈ u_ws C T N, w ∈ lw_tbl) ∧ (∀ j, j < N → parseFieldDescriptor (T j).2.2.1 = some (tyf j)) ∧
  (∀ x, x < N → ∀ y, y < N → x ≠ y → (T x).2.1 ≠ (T y).2.1) ∧ k < N ∧ (T k).1 = C ∧ (T k).2.2.2 = fin ∧ tyf k = ty ∧ Cond.fieldLink own idx C (T k).2.1 (T k).2.2.1 ∈ lw_tbl ∧ (zftl.getD ci []).length = N ∧ zft ci k = ztyt ty ∧ ci < 100
def zfit (ty : FieldType) (v : zV) : Prop := v.1 = ztyt ty ∧ match ty with
  | .int => True
  | .boolean => v.2 = 0 ∨ v.2 = 1
  | .long => True
  | .object _ => True
  | .array _ => True
  | _ => False
theorem zfit_ok {G : zG} {ty : FieldType} {v : zV} (h : zfit ty v) : narrow ty (zcv G v) = zcv G v ∧ fits ty (zcv G v) = true := by
  obtain ⟨t, x⟩ := v
  obtain ⟨h1, h2⟩ := h
  have h1 : t = ztyt ty := h1
  subst h1
  cases ty with
  | int => exact ⟨rfl, rfl⟩
  | long => exact ⟨rfl, rfl⟩
  | boolean =>
    have h2 : x = 0 ∨ x = 1 := h2
    rcases h2 with rfl | rfl
    · show narrow .boolean (.int (Int32.ofInt 0)) = .int (Int32.ofInt 0) ∧ fits .boolean (.int (Int32.ofInt 0)) = true
      decide
    · show narrow .boolean (.int (Int32.ofInt 1)) = .int (Int32.ofInt 1) ∧ fits .boolean (.int (Int32.ofInt 1)) = true
      decide
  | object n =>
    show narrow _ (va_rf (zro G x)) = va_rf (zro G x) ∧ fits _ (va_rf (zro G x)) = true
    cases zro G x <;> exact ⟨rfl, rfl⟩
  | array n =>
    show narrow _ (va_rf (zro G x)) = va_rf (zro G x) ∧ fits _ (va_rf (zro G x)) = true
    cases zro G x <;> exact ⟨rfl, rfl⟩
  | byte => exact absurd h2 id
  | char => exact absurd h2 id
  | short => exact absurd h2 id
  | float => exact absurd h2 id
  | double => exact absurd h2 id
theorem zfs_get (G : zG) (ci : Nat) (f : Int → Int) {k : Nat} (hk : k < (zftl.getD ci []).length) : (zfs G ci f)[k]? = some (zcv G (zft ci k, f k)) := by
  unfold zfs
  rw [List.getElem?_map, List.getElem?_range hk]
  rfl
theorem zfs_len (G : zG) (ci : Nat) (f : Int → Int) : (zfs G ci f).length = (zftl.getD ci []).length := by simp [zfs]
theorem zfs_set (G : zG) (ci : Nat) (M : zM) (o : Int) {k : Nat} (hk : k < (zftl.getD ci []).length) (v : Int) : (zfs G ci (M o)).set k (zcv G (zft ci k, v)) = zfs G ci (zwr M o k v o) := by
  apply List.ext_getElem?
  intro i
  by_cases h : i = k
  · subst h
    rw [List.getElem?_set_self (by rw [zfs_len]; exact hk), zfs_get _ _ _ hk, zwr_s]
  · rw [List.getElem?_set_ne (Ne.symm h)]
    by_cases hi : i < (zftl.getD ci []).length
    · rw [zfs_get _ _ _ hi, zfs_get _ _ _ hi, zwr_k M (by omega)]
    · rw [List.getElem?_eq_none (by rw [zfs_len]; omega), List.getElem?_eq_none (by rw [zfs_len]; omega)]
theorem zcell_o (G : zG) {q : Nat × Int} {ci : Nat} (hq : q = (ci, 0)) (h : ci < 100) (f : Int → Int) : zcell G q f = .inr (ci, zfs G ci f) := by
  subst hq
  unfold zcell
  rw [if_pos (show ((ci, 0) : Nat × Int).1 < 100 from h)]
theorem zcell_a (G : zG) {q : Nat × Int} {ai : Nat} {n : Int} (hq : q = (100 + ai, n)) (f : Int → Int) : zcell G q f = .inl (G.1.2.2 ai, n.toNat, zarr G ai f) := by
  subst hq
  unfold zcell
  rw [if_neg (show ¬ ((100 + ai, n) : Nat × Int).1 < 100 from by show ¬ 100 + ai < 100; omega), show ((100 + ai, n) : Nat × Int).1 - 100 = ai from by show 100 + ai - 100 = ai; omega]
/-- one place of one object is written: the world moves with the store -/
theorem zW.store {G : zG} {sl : Nat} {M : zM} {s : State} {H H1 : Heap} {o k v : Int} (hW : zW G sl M s H) (ho : 1 ≤ o) (hn : o ≤ M 0 0) (he : va_at G.1.2.1 zcl (G.2.1.1 + (o.toNat - 1), zcell G (zK o) (zwr M o k v o)) H1) (z : H1.size = H.size) (oq : ∀ q : Nat, q ≠ G.2.1.1 + (o.toNat - 1) → H1[q]? = H[q]?)
    (hok : zok (M 0 0) (ztag o k, v)) (hz : zlv o k = 0 ∨ sl = 0) : zW G sl (zwr M o k v) s H1 := by
  obtain ⟨w1, w2, w3, w4, w5, w6, w7, w8, w9⟩ := hW
  have h0 : zwr M o k v 0 0 = M 0 0 := zwr_o M (by omega)
  have h1 : ∀ j, zwr M o k v (-1) j = M (-1) j := fun j => zwr_o M (by omega)
  have h2 : zwr M o k v (-2) 0 = M (-2) 0 := zwr_o M (by omega)
  refine ⟨w1, ?_, by rw [z, h0]; exact w3, by rw [h0]; exact w4, ?_, ?_, w7, ?_, by rw [h2]; exact w9.1, by rw [h2]; exact w9.2.1, fun j => by rw [h1]; exact w9.2.2 j⟩
  · have := w2.set (zws_D G M) (zws_get G M ho hn) he oq
    rwa [zws_set G M (k := k) (v := v) ho hn rfl] at this
  · intro a b ha
    rw [h0]
    by_cases hab : a = o ∧ b = k
    · obtain ⟨rfl, rfl⟩ := hab
      rw [zwr_s]
      exact ⟨hok, fun z => by omega⟩
    · rw [zwr_i, if_neg hab]
      exact w5 a b ha
  · intro a b hl hs
    by_cases hab : a = o ∧ b = k
    · obtain ⟨rfl, rfl⟩ := hab
      rcases hz with hz | hz
      · omega
      · omega
    · rw [zwr_i, if_neg hab]
      exact w6 a b hl hs
  · rw [h2]
    have e : (fun j : Nat => Int32.ofInt (zwr M o k v (-1) j)) = fun j : Nat => Int32.ofInt (M (-1) j) := by funext j; rw [h1]
    rw [e]
    exact w8.kept (oq _ (by omega))
theorem zn_char {x : Int} (h : 0 ≤ x ∧ x ≤ 65535) : narrow .char (.int (Int32.ofInt x)) = .int (Int32.ofInt x) := by
  have e : Int32.ofInt x = nI x.toNat := by
    show Int32.ofInt x = Int32.ofNat x.toNat
    rw [← Int32.ofInt_eq_ofNat]; congr 1; omega
  rw [e]
  exact (pk_charN (by omega)).1
section ZM
variable {G : zG} {a : zYt × Nat × Nat} {u : Nat × Nat × Nat × Nat} {pc : Nat} {lv : List (Nat × zV)} {st : List zV} {M : zM} {Q : Int → zM → Prop}
theorem x_getf {idx ci k0 t : Nat} {fin : Bool} {ty : FieldType} {o : Int} (hd : decode a.1.2.1 pc = .ok (.getfield idx, 3)) (hf : zFld a.1.1.cls idx ci k0 fin ty) (ho : zK o = (ci, 0)) (ht : ztyt ty = t) (k : zX G a u (pc + 3) lv ((t, M o k0) :: st) M Q) : zX G a u pc lv ((2, o) :: st) M Q := by
  refine zX.step (fun p e R s m args below meth c Qs hC k H locs cells slots ls hW hS hl hlo hso h1 h2 h3 h4 => ?_) k
  subst ht
  obtain ⟨C, T, N, tyf, f1, f2, f3, f4, f5, f6, f7, f8, f9, f10, f11, f12⟩ := hf
  have p1 : 1 ≤ o := zK_pos ho (by show ci ≠ 999; omega)
  have p2 : o ≤ M 0 0 := hso _ List.mem_cons_self
  have hg := zws_get G M p1 p2
  rw [zcell_o G ho f12] at hg
  have hv : (zfs G ci (M o))[k0]? = some (zcv G (zft ci k0, M o k0)) := zfs_get G ci (M o) (by rw [f10]; exact f5)
  rw [f11] at hv
  simp only [List.map_cons, zcv_pos G p1]
  refine va_get hC.1 hC.2.1 (ref := C) (Ts := u_ws C T N) (fun w hw => hC.2.2.2.2.2.2.2.2.2.1 w (f2 w hw) (by
    obtain ⟨j, hj, rfl⟩ := List.mem_map.mp hw
    unfold u_lay; split <;> rfl)) (fun w hw => hw) hC.2.2.2.1 hW.1 hW.2.1 _ hg f1 k0 f5 (hC.2.2.2.2.2.2.2.2.2.1 _ f9 rfl) (fun x hx => by rw [f6] at hx; exact hx) hv hd ?_
  refine k H locs cells slots ls hW hS hl hlo (fun v hv => ?_) h1 h2 h3 h4
  rcases List.mem_cons.mp hv with rfl | hv
  · have := (hW.2.2.2.2.1 o k0 p1).1
    unfold ztag at this
    rw [ho] at this
    unfold zkt at this
    rw [if_pos (show ((ci, 0) : Nat × Int).1 < 100 from f12)] at this
    rw [← f11]
    exact this
  · exact hso v (List.mem_cons_of_mem _ hv)
theorem x_getF {idx ci k0 t : Nat} {fin : Bool} {ty : FieldType} {o : Int} (hd : decode a.1.2.1 pc = .ok (.getfield idx, 3)) (hf : zFld a.1.1.cls idx ci k0 fin ty) (ho : zK o = (ci, 0)) (ht : ztyt ty = t) (hl0 : 0 < zkf (ci, 0) k0) (hl1 : zkf (ci, 0) k0 ≤ a.2.2) (k : zX G a u (pc + 3) lv ((t, zFn o k0) :: st) M Q) : zX G a u pc lv ((2, o) :: st) M Q := by
  intro p e R s m args below meth c Qs hC hR H locs cells slots ls hW
  have hz : zlv o k0 = zkf (ci, 0) k0 := by unfold zlv; rw [ho]
  have e0 : M o k0 = zFn o k0 := hW.2.2.2.2.2.1 o k0 (by rw [hz]; exact hl0) (by rw [hz]; exact hl1)
  rw [← e0] at k
  exact x_getf hd hf ho ht k p e R s m args below meth c Qs hC hR H locs cells slots ls hW
theorem x_putf {idx ci k0 : Nat} {ty : FieldType} {o : Int} {v : zV} (hd : decode a.1.2.1 pc = .ok (.putfield idx, 3)) (hf : zFld a.1.1.cls idx ci k0 false ty) (ho : zK o = (ci, 0)) (hv : zfit ty v) (hz : zkf (ci, 0) k0 = 0 ∨ a.2.2 = 0) (k : zX G a u (pc + 3) lv st (zwr M o k0 v.2) Q) : zX G a u pc lv (v :: (2, o) :: st) M Q := by
  refine zX.step (fun p e R s m args below meth c Qs hC k H locs cells slots ls hW hS hl hlo hso h1 h2 h3 h4 => ?_) k
  obtain ⟨C, T, N, tyf, f1, f2, f3, f4, f5, f6, f7, f8, f9, f10, f11, f12⟩ := hf
  have p1 : 1 ≤ o := zK_pos ho (by show ci ≠ 999; omega)
  have p2 : o ≤ M 0 0 := hso _ (List.mem_cons_of_mem _ List.mem_cons_self)
  have hg := zws_get G M p1 p2
  rw [zcell_o G ho f12] at hg
  have hok : zok (M 0 0) v := hso _ List.mem_cons_self
  obtain ⟨hn, hfi⟩ := zfit_ok (G := G) hv
  have hvt : v = (zft ci k0, v.2) := by rw [f11, ← hv.1]
  simp only [List.map_cons, zcv_pos G p1]
  have hts : ∀ w ∈ u_ws C T N, w.before args s = true := fun w hw => hC.2.2.2.2.2.2.2.2.2.1 w (f2 w hw) (by
    obtain ⟨j, hj, rfl⟩ := List.mem_map.mp hw
    unfold u_lay; split <;> rfl)
  have hap := va_apart (own := C) (D := G.1.2.1) (tys := ztys G) hts (fun w hw => hw) tyf f3 f4 hW.1 f1
  obtain ⟨r, hr1, cell, q1, q2, q3, q4⟩ := hW.2.1 _ _ hg
  have hr : r = (C, T, N) := Option.some.inj (hr1.symm.trans f1)
  subst hr
  obtain ⟨hSl, hfc, kC, hkC, hkind⟩ := hW.1.1 ci _ f1
  obtain ⟨cf, kf, fi, f, hi, hsl⟩ := hSl k0 f5
  have hlay := hts _ (u_in_lay f5)
  unfold u_lay at hlay
  rw [if_neg (by rw [f7]; decide)] at hlay
  have hst := (u_facts hfc hkC (u_lays hts (fun w hw => hw) f5) hi).1
  have h6 := u_store hfc hkC hkind hlay hi (by rw [f3 k0 f5, f8]) hn hfi
  refine W.putK hC.1 hC.2.1 (own := a.1.1.cls) (ref := C) (f := f) ⟨hC.2.2.2.1, hC.2.2.2.2.2.2.2.2.2.1 _ f9 rfl, ⟨_, _, _, by rw [← f6] ; exact hi⟩, hst⟩ (by rw [q2]; exact h6) q1 q3 (by rw [hsl]; exact k2_hasslot (q4 k0 f5)) rfl rfl hd fun H' e1 e2 e3 => ?_
  rw [hsl] at e1
  refine k H' _ cells slots ls (hW.store p1 p2 ?_ e2 e3 ?_ ?_) (hS.put e2 e3 (by show G.2.1.1 ≤ _; omega)) hl (fun q hq => ?_) (fun q hq => ?_) h1 h2 h3 h4
  · rw [zcell_o G ho f12, ← zfs_set G ci M o (by rw [f10]; exact f5), ← hvt]
    exact ⟨_, f1, t_OB.to (V := updV (vp_V (zfs G ci (M o))) k0 (zcv G v)) ⟨_, e1, q2, q3, t_set q4 hap f5 (zcv G v)⟩ (fun j _ => vp_updV_set (by rw [zfs_len, f10]; exact f5) (zcv G v) j)⟩
  · unfold ztag
    rw [ho]
    unfold zkt
    rw [if_pos (show ((ci, 0) : Nat × Int).1 < 100 from f12)]
    show zok _ (zft ci k0, v.2)
    rw [← hvt]
    exact hok
  · unfold zlv
    rw [ho]
    exact hz
  · rw [zwr_o M (by omega)]
    exact hlo q hq
  · rw [zwr_o M (by omega)]
    exact hso q (List.mem_cons_of_mem _ (List.mem_cons_of_mem _ hq))
theorem x_putF {idx ci k0 : Nat} {ty : FieldType} {o : Int} {v : zV} (hd : decode a.1.2.1 pc = .ok (.putfield idx, 3)) (hf : zFld a.1.1.cls idx ci k0 true ty) (hin : a.1.1.name = "<init>") (hcl : ∃ T N, zcl[ci]? = some (a.1.1.cls, T, N)) (ho : zK o = (ci, 0)) (hv : zfit ty v) (hz : a.2.2 = 0) (k : zX G a u (pc + 3) lv st (zwr M o k0 v.2) Q) : zX G a u pc lv (v :: (2, o) :: st) M Q := by
  refine zX.step (fun p e R s m args below meth c Qs hC k H locs cells slots ls hW hS hl hlo hso h1 h2 h3 h4 => ?_) k
  obtain ⟨C, T, N, tyf, f1, f2, f3, f4, f5, f6, f7, f8, f9, f10, f11, f12⟩ := hf
  have hC0 : C = a.1.1.cls := by
    obtain ⟨T', N', e⟩ := hcl
    have := f1.symm.trans e
    simp only [Option.some.injEq, Prod.mk.injEq] at this
    exact this.1
  have p1 : 1 ≤ o := zK_pos ho (by show ci ≠ 999; omega)
  have p2 : o ≤ M 0 0 := hso _ (List.mem_cons_of_mem _ List.mem_cons_self)
  have hg := zws_get G M p1 p2
  rw [zcell_o G ho f12] at hg
  have hok : zok (M 0 0) v := hso _ List.mem_cons_self
  obtain ⟨hn, hfi⟩ := zfit_ok (G := G) hv
  have hvt : v = (zft ci k0, v.2) := by rw [f11, ← hv.1]
  simp only [List.map_cons, zcv_pos G p1]
  have hts : ∀ w ∈ u_ws C T N, w.before args s = true := fun w hw => hC.2.2.2.2.2.2.2.2.2.1 w (f2 w hw) (by
    obtain ⟨j, hj, rfl⟩ := List.mem_map.mp hw
    unfold u_lay; split <;> rfl)
  have hap := va_apart (own := C) (D := G.1.2.1) (tys := ztys G) hts (fun w hw => hw) tyf f3 f4 hW.1 f1
  obtain ⟨r, hr1, cell, q1, q2, q3, q4⟩ := hW.2.1 _ _ hg
  have hr : r = (C, T, N) := Option.some.inj (hr1.symm.trans f1)
  subst hr
  obtain ⟨hSl, hfc, kC, hkC, hkind⟩ := hW.1.1 ci _ f1
  obtain ⟨cf, kf, fi, f, hi, hsl⟩ := hSl k0 f5
  have hlay := hts _ (u_in_lay f5)
  unfold u_lay at hlay
  rw [if_pos f7] at hlay
  have hst := (u_facts hfc hkC (u_lays hts (fun w hw => hw) f5) hi).1
  have hcf : m.cls = cf := by
    obtain ⟨_, _, c', _, _, _, -, -, hf', -, -, -, hown2, -⟩ := Cond.laysFinal_spec hlay
    have e1 : c' = cf := by have := hi.symm.trans hf'; simp at this; exact this.1.symm
    rw [f6, hC0] at hown2
    rw [← e1]; exact Option.some.inj (hC.2.2.2.1.symm.trans hown2)
  have h6 := u_fits hfc hkC hkind (Or.inr hlay) hi (by rw [f3 k0 f5, f8]) hn hfi
  refine W.putFinK hC.1 hC.2.1 hC.2.2.2.1 (hC.2.2.2.2.2.2.2.2.2.1 _ f9 rfl) (by rw [← f6]; exact hi) hst hcf (hC.2.2.2.2.1 hin) (by rw [q2]; exact h6) q1 q3 (by rw [hsl]; exact k2_hasslot (q4 k0 f5)) rfl rfl hd fun H' e1 e2 e3 => ?_
  rw [hsl] at e1
  refine k H' _ cells slots ls (hW.store p1 p2 ?_ e2 e3 ?_ (Or.inr hz)) (hS.put e2 e3 (by show G.2.1.1 ≤ _; omega)) hl (fun q hq => ?_) (fun q hq => ?_) h1 h2 h3 h4
  · rw [zcell_o G ho f12, ← zfs_set G ci M o (by rw [f10]; exact f5), ← hvt]
    exact ⟨_, f1, t_OB.to (V := updV (vp_V (zfs G ci (M o))) k0 (zcv G v)) ⟨_, e1, q2, q3, t_set q4 hap f5 (zcv G v)⟩ (fun j _ => vp_updV_set (by rw [zfs_len, f10]; exact f5) (zcv G v) j)⟩
  · unfold ztag
    rw [ho]
    unfold zkt
    rw [if_pos (show ((ci, 0) : Nat × Int).1 < 100 from f12)]
    show zok _ (zft ci k0, v.2)
    rw [← hvt]
    exact hok
  · rw [zwr_o M (by omega)]
    exact hlo q hq
  · rw [zwr_o M (by omega)]
    exact hso q (List.mem_cons_of_mem _ (List.mem_cons_of_mem _ hq))
theorem x_iald {o j n : Int} (hd : decode a.1.2.1 pc = .ok (.iaload, 1)) (ho : zK o = (100, n)) (hj : 0 ≤ j ∧ j < n) (k : zX G a u (pc + 1) lv ((0, M o j) :: st) M Q) : zX G a u pc lv ((0, j) :: (2, o) :: st) M Q := by
  refine zX.step (fun p e R s m args below meth c Qs hC k H locs cells slots ls hW hS hl hlo hso h1 h2 h3 h4 => ?_) k
  have p1 : 1 ≤ o := zK_pos ho (by show 100 ≠ 999; omega)
  have p2 : o ≤ M 0 0 := hso _ (List.mem_cons_of_mem _ List.mem_cons_self)
  have hjz : zI j := hso _ List.mem_cons_self
  have hg := zws_get G M p1 p2
  rw [zcell_a G (ai := 0) ho] at hg
  have hm := (hW.2.2.2.2.1 o j p1).1
  unfold ztag at hm
  rw [ho] at hm
  have kk := k H locs cells slots ls hW hS hl hlo (fun v hv => by
    rcases List.mem_cons.mp hv with rfl | hv
    · exact hm
    · exact hso v (List.mem_cons_of_mem _ (List.mem_cons_of_mem _ hv))) h1 h2 h3 h4
  simp only [List.map_cons, zcv_pos G p1]
  refine va_iald hC.1 hC.2.1 hW.1 hW.2.1 _ 0 hg rfl (zi_ix hjz hj.1 hj.2) hd ?_
  rw [zi_cl hjz, show ((j.toNat : Nat) : Int) = j from by omega]
  exact kk
theorem x_lald {o j n : Int} (hd : decode a.1.2.1 pc = .ok (.laload, 1)) (ho : zK o = (101, n)) (hj : 0 ≤ j ∧ j < n) (k : zX G a u (pc + 1) lv ((1, M o j) :: st) M Q) : zX G a u pc lv ((0, j) :: (2, o) :: st) M Q := by
  refine zX.step (fun p e R s m args below meth c Qs hC k H locs cells slots ls hW hS hl hlo hso h1 h2 h3 h4 => ?_) k
  have p1 : 1 ≤ o := zK_pos ho (by show 101 ≠ 999; omega)
  have p2 : o ≤ M 0 0 := hso _ (List.mem_cons_of_mem _ List.mem_cons_self)
  have hjz : zI j := hso _ List.mem_cons_self
  have hg := zws_get G M p1 p2
  rw [zcell_a G (ai := 1) ho] at hg
  have hm := (hW.2.2.2.2.1 o j p1).1
  unfold ztag at hm
  rw [ho] at hm
  have kk := k H locs cells slots ls hW hS hl hlo (fun v hv => by
    rcases List.mem_cons.mp hv with rfl | hv
    · exact hm
    · exact hso v (List.mem_cons_of_mem _ (List.mem_cons_of_mem _ hv))) h1 h2 h3 h4
  simp only [List.map_cons, zcv_pos G p1]
  refine va_lald hC.1 hC.2.1 hW.1 hW.2.1 _ 1 hg rfl (zi_ix hjz hj.1 hj.2) hd ?_
  rw [zi_cl hjz, show ((j.toNat : Nat) : Int) = j from by omega]
  exact kk
theorem x_cald {o j n : Int} (hd : decode a.1.2.1 pc = .ok (.caload, 1)) (ho : zK o = (102, n)) (hj : 0 ≤ j ∧ j < n) (k : zX G a u (pc + 1) lv ((0, M o j) :: st) M Q) : zX G a u pc lv ((0, j) :: (2, o) :: st) M Q := by
  refine zX.step (fun p e R s m args below meth c Qs hC k H locs cells slots ls hW hS hl hlo hso h1 h2 h3 h4 => ?_) k
  have p1 : 1 ≤ o := zK_pos ho (by show 102 ≠ 999; omega)
  have p2 : o ≤ M 0 0 := hso _ (List.mem_cons_of_mem _ List.mem_cons_self)
  have hjz : zI j := hso _ List.mem_cons_self
  have hg := zws_get G M p1 p2
  rw [zcell_a G (ai := 2) ho] at hg
  have hm := (hW.2.2.2.2.1 o j p1).1
  unfold ztag at hm
  rw [ho] at hm
  have kk := k H locs cells slots ls hW hS hl hlo (fun v hv => by
    rcases List.mem_cons.mp hv with rfl | hv
    · exact hm
    · exact hso v (List.mem_cons_of_mem _ (List.mem_cons_of_mem _ hv))) h1 h2 h3 h4
  simp only [List.map_cons, zcv_pos G p1]
  refine va_cald hC.1 hC.2.1 hW.1 hW.2.1 _ 2 hg rfl (zi_ix hjz hj.1 hj.2) hd ?_
  rw [zi_cl hjz, show ((j.toNat : Nat) : Int) = j from by omega]
  exact kk
theorem x_zald {o j n : Int} (hd : decode a.1.2.1 pc = .ok (.baload, 1)) (ho : zK o = (103, n)) (hj : 0 ≤ j ∧ j < n) (k : zX G a u (pc + 1) lv ((0, M o j) :: st) M Q) : zX G a u pc lv ((0, j) :: (2, o) :: st) M Q := by
  refine zX.step (fun p e R s m args below meth c Qs hC k H locs cells slots ls hW hS hl hlo hso h1 h2 h3 h4 => ?_) k
  have p1 : 1 ≤ o := zK_pos ho (by show 103 ≠ 999; omega)
  have p2 : o ≤ M 0 0 := hso _ (List.mem_cons_of_mem _ List.mem_cons_self)
  have hjz : zI j := hso _ List.mem_cons_self
  have hg := zws_get G M p1 p2
  rw [zcell_a G (ai := 3) ho] at hg
  have hm := (hW.2.2.2.2.1 o j p1).1
  unfold ztag at hm
  rw [ho] at hm
  have kk := k H locs cells slots ls hW hS hl hlo (fun v hv => by
    rcases List.mem_cons.mp hv with rfl | hv
    · exact hm
    · exact hso v (List.mem_cons_of_mem _ (List.mem_cons_of_mem _ hv))) h1 h2 h3 h4
  simp only [List.map_cons, zcv_pos G p1]
  refine va_zald hC.1 hC.2.1 hW.1 hW.2.1 _ 3 hg rfl (zi_ix hjz hj.1 hj.2) hd ?_
  rw [zi_cl hjz, show ((j.toNat : Nat) : Int) = j from by omega]
  exact kk
theorem x_aald4 {o j n : Int} (hd : decode a.1.2.1 pc = .ok (.aaload, 1)) (ho : zK o = (104, n)) (hj : 0 ≤ j ∧ j < n) (k : zX G a u (pc + 1) lv ((2, M o j) :: st) M Q) : zX G a u pc lv ((0, j) :: (2, o) :: st) M Q := by
  refine zX.step (fun p e R s m args below meth c Qs hC k H locs cells slots ls hW hS hl hlo hso h1 h2 h3 h4 => ?_) k
  have p1 : 1 ≤ o := zK_pos ho (by show 104 ≠ 999; omega)
  have p2 : o ≤ M 0 0 := hso _ (List.mem_cons_of_mem _ List.mem_cons_self)
  have hjz : zI j := hso _ List.mem_cons_self
  have hg := zws_get G M p1 p2
  rw [zcell_a G (ai := 4) ho] at hg
  have hm := (hW.2.2.2.2.1 o j p1).1
  unfold ztag at hm
  rw [ho] at hm
  have kk := k H locs cells slots ls hW hS hl hlo (fun v hv => by
    rcases List.mem_cons.mp hv with rfl | hv
    · exact hm
    · exact hso v (List.mem_cons_of_mem _ (List.mem_cons_of_mem _ hv))) h1 h2 h3 h4
  simp only [List.map_cons, zcv_pos G p1]
  refine va_aldq hC.1 hC.2.1 hW.1 hW.2.1 _ 4 hg rfl (zi_ix hjz hj.1 hj.2) hd ?_
  rw [zi_cl hjz, show ((j.toNat : Nat) : Int) = j from by omega]
  exact kk
theorem x_aald4F {o j n : Int} (hd : decode a.1.2.1 pc = .ok (.aaload, 1)) (ho : zK o = (104, n)) (hj : 0 ≤ j ∧ j < n) (hl1 : 1 ≤ a.2.2) (k : zX G a u (pc + 1) lv ((2, zFn o j) :: st) M Q) : zX G a u pc lv ((0, j) :: (2, o) :: st) M Q := by
  intro p e R s m args below meth c Qs hC hR H locs cells slots ls hW
  have hz : zlv o j = 1 := by unfold zlv; rw [ho]; unfold zkf; rw [if_neg (by omega)]; rfl
  have e0 : M o j = zFn o j := hW.2.2.2.2.2.1 o j (by omega) (by omega)
  rw [← e0] at k
  exact x_aald4 hd ho hj k p e R s m args below meth c Qs hC hR H locs cells slots ls hW
theorem x_aald5 {o j n : Int} (hd : decode a.1.2.1 pc = .ok (.aaload, 1)) (ho : zK o = (105, n)) (hj : 0 ≤ j ∧ j < n) (k : zX G a u (pc + 1) lv ((2, M o j) :: st) M Q) : zX G a u pc lv ((0, j) :: (2, o) :: st) M Q := by
  refine zX.step (fun p e R s m args below meth c Qs hC k H locs cells slots ls hW hS hl hlo hso h1 h2 h3 h4 => ?_) k
  have p1 : 1 ≤ o := zK_pos ho (by show 105 ≠ 999; omega)
  have p2 : o ≤ M 0 0 := hso _ (List.mem_cons_of_mem _ List.mem_cons_self)
  have hjz : zI j := hso _ List.mem_cons_self
  have hg := zws_get G M p1 p2
  rw [zcell_a G (ai := 5) ho] at hg
  have hm := (hW.2.2.2.2.1 o j p1).1
  unfold ztag at hm
  rw [ho] at hm
  have kk := k H locs cells slots ls hW hS hl hlo (fun v hv => by
    rcases List.mem_cons.mp hv with rfl | hv
    · exact hm
    · exact hso v (List.mem_cons_of_mem _ (List.mem_cons_of_mem _ hv))) h1 h2 h3 h4
  simp only [List.map_cons, zcv_pos G p1]
  refine va_aldq hC.1 hC.2.1 hW.1 hW.2.1 _ 5 hg rfl (zi_ix hjz hj.1 hj.2) hd ?_
  rw [zi_cl hjz, show ((j.toNat : Nat) : Int) = j from by omega]
  exact kk
theorem x_aald5F {o j n : Int} (hd : decode a.1.2.1 pc = .ok (.aaload, 1)) (ho : zK o = (105, n)) (hj : 0 ≤ j ∧ j < n) (hl1 : 1 ≤ a.2.2) (k : zX G a u (pc + 1) lv ((2, zFn o j) :: st) M Q) : zX G a u pc lv ((0, j) :: (2, o) :: st) M Q := by
  intro p e R s m args below meth c Qs hC hR H locs cells slots ls hW
  have hz : zlv o j = 1 := by unfold zlv; rw [ho]; unfold zkf; rw [if_neg (by omega)]; rfl
  have e0 : M o j = zFn o j := hW.2.2.2.2.2.1 o j (by omega) (by omega)
  rw [← e0] at k
  exact x_aald5 hd ho hj k p e R s m args below meth c Qs hC hR H locs cells slots ls hW
theorem x_caldF {o j n : Int} (hd : decode a.1.2.1 pc = .ok (.caload, 1)) (ho : zK o = (102, n)) (hj : 0 ≤ j ∧ j < n) (hl1 : 2 ≤ a.2.2) (k : zX G a u (pc + 1) lv ((0, zFn o j) :: st) M Q) : zX G a u pc lv ((0, j) :: (2, o) :: st) M Q := by
  intro p e R s m args below meth c Qs hC hR H locs cells slots ls hW
  have hz : zlv o j = 2 := by unfold zlv; rw [ho]; unfold zkf; rw [if_neg (by omega)]; rfl
  have e0 : M o j = zFn o j := hW.2.2.2.2.2.1 o j (by omega) (by omega)
  rw [← e0] at k
  exact x_cald hd ho hj k p e R s m args below meth c Qs hC hR H locs cells slots ls hW
theorem x_iast {o j n x : Int} (hd : decode a.1.2.1 pc = .ok (.iastore, 1)) (ho : zK o = (100, n)) (hj : 0 ≤ j ∧ j < n) (k : zX G a u (pc + 1) lv st (zwr M o j x) Q) : zX G a u pc lv ((0, x) :: (0, j) :: (2, o) :: st) M Q := by
  refine zX.step (fun p e R s m args below meth c Qs hC k H locs cells slots ls hW hS hl hlo hso h1 h2 h3 h4 => ?_) k
  have p1 : 1 ≤ o := zK_pos ho (by show 100 ≠ 999; omega)
  have p2 : o ≤ M 0 0 := hso _ (List.mem_cons_of_mem _ (List.mem_cons_of_mem _ List.mem_cons_self))
  have hxz : zok (M 0 0) (0, x) := hso _ List.mem_cons_self
  have hjz : zI j := hso _ (List.mem_cons_of_mem _ List.mem_cons_self)
  have hg := zws_get G M p1 p2
  rw [zcell_a G (ai := 0) ho] at hg
  have hin := zi_ix (n := n) hjz hj.1 hj.2
  simp only [List.map_cons, zcv_pos G p1]
  refine W.iast hC.1 hC.2.1 (hW.2.1 _ _ hg) ((hW.1.2 0 _ rfl).1 n.toNat (fun i => .int (Int32.ofInt (M o i)))) (fun q => by cases q) (by show ¬ (_ ∨ (arrV _ _ _).slots.size ≤ _); rw [arrV_size]; exact hin) rfl rfl hd fun H' e1 e2 e3 => ?_
  refine k H' _ cells slots ls (hW.store p1 p2 ?_ e2 e3 ?_ (Or.inl (by unfold zlv; rw [ho]; unfold zkf; rw [if_neg (by omega)]; rfl))) (hS.put e2 e3 (by show G.2.1.1 ≤ _; omega)) hl (fun q hq => ?_) (fun q hq => ?_) h1 h2 h3 h4
  · rw [zcell_a G (ai := 0) ho]
    refine (show H'[G.2.1.1 + (o.toNat - 1)]? = some (arrV (G.1.2.2 0) n.toNat (fun i => .int (Int32.ofInt (zwr M o j x o i)))) from ?_)
    rw [e1]
    refine (show some ((arrV (G.1.2.2 0) n.toNat (fun i => .int (Int32.ofInt (M o i)))).setSlot _ _) = _ from ?_)
    rw [arrV_store]
    congr 2
    funext q
    have hq : (q = (Int32.ofInt j).toNatClampNeg) ↔ ((q : Int) = j) := by rw [zi_cl hjz]; omega
    by_cases e : q = (Int32.ofInt j).toNatClampNeg
    · have e2 := hq.mp e
      simp only [updV, if_pos e, zwr, e2, and_self, if_true]
      try rfl
    · have e2 : ¬ ((q : Int) = j) := fun z => e (hq.mpr z)
      simp only [updV, if_neg e, zwr, e2, and_false, if_false]
      try rfl
  · unfold ztag
    rw [ho]
    exact hxz
  · rw [zwr_o M (by omega)]
    exact hlo q hq
  · rw [zwr_o M (by omega)]
    exact hso q (List.mem_cons_of_mem _ (List.mem_cons_of_mem _ (List.mem_cons_of_mem _ hq)))
theorem x_last {o j n x : Int} (hd : decode a.1.2.1 pc = .ok (.lastore, 1)) (ho : zK o = (101, n)) (hj : 0 ≤ j ∧ j < n) (k : zX G a u (pc + 1) lv st (zwr M o j x) Q) : zX G a u pc lv ((1, x) :: (0, j) :: (2, o) :: st) M Q := by
  refine zX.step (fun p e R s m args below meth c Qs hC k H locs cells slots ls hW hS hl hlo hso h1 h2 h3 h4 => ?_) k
  have p1 : 1 ≤ o := zK_pos ho (by show 101 ≠ 999; omega)
  have p2 : o ≤ M 0 0 := hso _ (List.mem_cons_of_mem _ (List.mem_cons_of_mem _ List.mem_cons_self))
  have hxz : zok (M 0 0) (1, x) := hso _ List.mem_cons_self
  have hjz : zI j := hso _ (List.mem_cons_of_mem _ List.mem_cons_self)
  have hg := zws_get G M p1 p2
  rw [zcell_a G (ai := 1) ho] at hg
  have hin := zi_ix (n := n) hjz hj.1 hj.2
  simp only [List.map_cons, zcv_pos G p1]
  refine W.last hC.1 hC.2.1 (hW.2.1 _ _ hg) ((hW.1.2 1 _ rfl).1 n.toNat (fun i => .long (Int64.ofInt (M o i)))) (fun q => by cases q) (by show ¬ (_ ∨ (arrV _ _ _).slots.size ≤ _); rw [arrV_size]; exact hin) rfl rfl hd fun H' e1 e2 e3 => ?_
  refine k H' _ cells slots ls (hW.store p1 p2 ?_ e2 e3 ?_ (Or.inl (by unfold zlv; rw [ho]; unfold zkf; rw [if_neg (by omega)]; rfl))) (hS.put e2 e3 (by show G.2.1.1 ≤ _; omega)) hl (fun q hq => ?_) (fun q hq => ?_) h1 h2 h3 h4
  · rw [zcell_a G (ai := 1) ho]
    refine (show H'[G.2.1.1 + (o.toNat - 1)]? = some (arrV (G.1.2.2 1) n.toNat (fun i => .long (Int64.ofInt (zwr M o j x o i)))) from ?_)
    rw [e1]
    refine (show some ((arrV (G.1.2.2 1) n.toNat (fun i => .long (Int64.ofInt (M o i)))).setSlot _ _) = _ from ?_)
    rw [arrV_store]
    congr 2
    funext q
    have hq : (q = (Int32.ofInt j).toNatClampNeg) ↔ ((q : Int) = j) := by rw [zi_cl hjz]; omega
    by_cases e : q = (Int32.ofInt j).toNatClampNeg
    · have e2 := hq.mp e
      simp only [updV, if_pos e, zwr, e2, and_self, if_true]
      try rfl
    · have e2 : ¬ ((q : Int) = j) := fun z => e (hq.mpr z)
      simp only [updV, if_neg e, zwr, e2, and_false, if_false]
      try rfl
  · unfold ztag
    rw [ho]
    exact hxz
  · rw [zwr_o M (by omega)]
    exact hlo q hq
  · rw [zwr_o M (by omega)]
    exact hso q (List.mem_cons_of_mem _ (List.mem_cons_of_mem _ (List.mem_cons_of_mem _ hq)))
theorem x_cast {o j n x : Int} (hd : decode a.1.2.1 pc = .ok (.castore, 1)) (ho : zK o = (102, n)) (hj : 0 ≤ j ∧ j < n) (hx : 0 ≤ x ∧ x ≤ 65535) (hz0 : a.2.2 = 0) (k : zX G a u (pc + 1) lv st (zwr M o j x) Q) : zX G a u pc lv ((0, x) :: (0, j) :: (2, o) :: st) M Q := by
  refine zX.step (fun p e R s m args below meth c Qs hC k H locs cells slots ls hW hS hl hlo hso h1 h2 h3 h4 => ?_) k
  have p1 : 1 ≤ o := zK_pos ho (by show 102 ≠ 999; omega)
  have p2 : o ≤ M 0 0 := hso _ (List.mem_cons_of_mem _ (List.mem_cons_of_mem _ List.mem_cons_self))
  have hxz : zok (M 0 0) (0, x) := hso _ List.mem_cons_self
  have hjz : zI j := hso _ (List.mem_cons_of_mem _ List.mem_cons_self)
  have hg := zws_get G M p1 p2
  rw [zcell_a G (ai := 2) ho] at hg
  have hin := zi_ix (n := n) hjz hj.1 hj.2
  simp only [List.map_cons, zcv_pos G p1]
  refine W.cast hC.1 hC.2.1 (hW.2.1 _ _ hg) ((hW.1.2 2 _ rfl).1 n.toNat (fun i => .int (Int32.ofInt (M o i)))) (fun q => by cases q) (by show ¬ (_ ∨ (arrV _ _ _).slots.size ≤ _); rw [arrV_size]; exact hin) rfl rfl hd fun H' e1 e2 e3 => ?_
  have hnar : narrow .char (.int (Int32.ofInt x)) = .int (Int32.ofInt x) := zn_char hx
  rw [hnar] at e1
  refine k H' _ cells slots ls (hW.store p1 p2 ?_ e2 e3 ?_ (Or.inr hz0)) (hS.put e2 e3 (by show G.2.1.1 ≤ _; omega)) hl (fun q hq => ?_) (fun q hq => ?_) h1 h2 h3 h4
  · rw [zcell_a G (ai := 2) ho]
    refine (show H'[G.2.1.1 + (o.toNat - 1)]? = some (arrV (G.1.2.2 2) n.toNat (fun i => .int (Int32.ofInt (zwr M o j x o i)))) from ?_)
    rw [e1]
    refine (show some ((arrV (G.1.2.2 2) n.toNat (fun i => .int (Int32.ofInt (M o i)))).setSlot _ _) = _ from ?_)
    rw [arrV_store]
    congr 2
    funext q
    have hq : (q = (Int32.ofInt j).toNatClampNeg) ↔ ((q : Int) = j) := by rw [zi_cl hjz]; omega
    by_cases e : q = (Int32.ofInt j).toNatClampNeg
    · have e2 := hq.mp e
      simp only [updV, if_pos e, zwr, e2, and_self, if_true]
      try rfl
    · have e2 : ¬ ((q : Int) = j) := fun z => e (hq.mpr z)
      simp only [updV, if_neg e, zwr, e2, and_false, if_false]
      try rfl
  · unfold ztag
    rw [ho]
    exact hxz
  · rw [zwr_o M (by omega)]
    exact hlo q hq
  · rw [zwr_o M (by omega)]
    exact hso q (List.mem_cons_of_mem _ (List.mem_cons_of_mem _ (List.mem_cons_of_mem _ hq)))
theorem x_zast {o j n x : Int} (hd : decode a.1.2.1 pc = .ok (.bastore, 1)) (ho : zK o = (103, n)) (hj : 0 ≤ j ∧ j < n) (hx : x = 0 ∨ x = 1) (k : zX G a u (pc + 1) lv st (zwr M o j x) Q) : zX G a u pc lv ((0, x) :: (0, j) :: (2, o) :: st) M Q := by
  refine zX.step (fun p e R s m args below meth c Qs hC k H locs cells slots ls hW hS hl hlo hso h1 h2 h3 h4 => ?_) k
  have p1 : 1 ≤ o := zK_pos ho (by show 103 ≠ 999; omega)
  have p2 : o ≤ M 0 0 := hso _ (List.mem_cons_of_mem _ (List.mem_cons_of_mem _ List.mem_cons_self))
  have hxz : zok (M 0 0) (0, x) := hso _ List.mem_cons_self
  have hjz : zI j := hso _ (List.mem_cons_of_mem _ List.mem_cons_self)
  have hg := zws_get G M p1 p2
  rw [zcell_a G (ai := 3) ho] at hg
  have hin := zi_ix (n := n) hjz hj.1 hj.2
  simp only [List.map_cons, zcv_pos G p1]
  refine W.zast hC.1 hC.2.1 (hW.2.1 _ _ hg) ((hW.1.2 3 _ rfl).1 n.toNat (fun i => .int (Int32.ofInt (M o i)))) (fun q => by cases q) (by show ¬ (_ ∨ (arrV _ _ _).slots.size ≤ _); rw [arrV_size]; exact hin) rfl rfl hd fun H' e1 e2 e3 => ?_
  have hnar : narrow .boolean (.int (Int32.ofInt x)) = .int (Int32.ofInt x) := by rcases hx with rfl | rfl <;> decide
  rw [hnar] at e1
  refine k H' _ cells slots ls (hW.store p1 p2 ?_ e2 e3 ?_ (Or.inl (by unfold zlv; rw [ho]; unfold zkf; rw [if_neg (by omega)]; rfl))) (hS.put e2 e3 (by show G.2.1.1 ≤ _; omega)) hl (fun q hq => ?_) (fun q hq => ?_) h1 h2 h3 h4
  · rw [zcell_a G (ai := 3) ho]
    refine (show H'[G.2.1.1 + (o.toNat - 1)]? = some (arrV (G.1.2.2 3) n.toNat (fun i => .int (Int32.ofInt (zwr M o j x o i)))) from ?_)
    rw [e1]
    refine (show some ((arrV (G.1.2.2 3) n.toNat (fun i => .int (Int32.ofInt (M o i)))).setSlot _ _) = _ from ?_)
    rw [arrV_store]
    congr 2
    funext q
    have hq : (q = (Int32.ofInt j).toNatClampNeg) ↔ ((q : Int) = j) := by rw [zi_cl hjz]; omega
    by_cases e : q = (Int32.ofInt j).toNatClampNeg
    · have e2 := hq.mp e
      simp only [updV, if_pos e, zwr, e2, and_self, if_true]
      try rfl
    · have e2 : ¬ ((q : Int) = j) := fun z => e (hq.mpr z)
      simp only [updV, if_neg e, zwr, e2, and_false, if_false]
      try rfl
  · unfold ztag
    rw [ho]
    exact hxz
  · rw [zwr_o M (by omega)]
    exact hlo q hq
  · rw [zwr_o M (by omega)]
    exact hso q (List.mem_cons_of_mem _ (List.mem_cons_of_mem _ (List.mem_cons_of_mem _ hq)))
theorem x_alen0 {o n : Int} (hd : decode a.1.2.1 pc = .ok (.arraylength, 1)) (ho : zK o = (100, n)) (hn : 0 ≤ n ∧ n ≤ 100000) (k : zX G a u (pc + 1) lv ((0, n) :: st) M Q) : zX G a u pc lv ((2, o) :: st) M Q := by
  refine zX.step (fun p e R s m args below meth c Qs hC k H locs cells slots ls hW hS hl hlo hso h1 h2 h3 h4 => ?_) k
  have p1 : 1 ≤ o := zK_pos ho (by show 100 ≠ 999; omega)
  have p2 : o ≤ M 0 0 := hso _ List.mem_cons_self
  have hg := zws_get G M p1 p2
  rw [zcell_a G (ai := 0) ho] at hg
  simp only [List.map_cons, zcv_pos G p1]
  refine va_alen hC.1 hC.2.1 hW.1 hW.2.1 _ 0 hg rfl (v := Int32.ofInt n) (by show Int32.ofNat n.toNat = _; rw [← Int32.ofInt_eq_ofNat]; congr 1; omega) hd ?_
  exact k H locs cells slots ls hW hS hl hlo (fun v hv => by
    rcases List.mem_cons.mp hv with rfl | hv
    · show zI n; unfold zI; omega
    · exact hso v (List.mem_cons_of_mem _ hv)) h1 h2 h3 h4
theorem x_alen1 {o n : Int} (hd : decode a.1.2.1 pc = .ok (.arraylength, 1)) (ho : zK o = (101, n)) (hn : 0 ≤ n ∧ n ≤ 100000) (k : zX G a u (pc + 1) lv ((0, n) :: st) M Q) : zX G a u pc lv ((2, o) :: st) M Q := by
  refine zX.step (fun p e R s m args below meth c Qs hC k H locs cells slots ls hW hS hl hlo hso h1 h2 h3 h4 => ?_) k
  have p1 : 1 ≤ o := zK_pos ho (by show 101 ≠ 999; omega)
  have p2 : o ≤ M 0 0 := hso _ List.mem_cons_self
  have hg := zws_get G M p1 p2
  rw [zcell_a G (ai := 1) ho] at hg
  simp only [List.map_cons, zcv_pos G p1]
  refine va_alen hC.1 hC.2.1 hW.1 hW.2.1 _ 1 hg rfl (v := Int32.ofInt n) (by show Int32.ofNat n.toNat = _; rw [← Int32.ofInt_eq_ofNat]; congr 1; omega) hd ?_
  exact k H locs cells slots ls hW hS hl hlo (fun v hv => by
    rcases List.mem_cons.mp hv with rfl | hv
    · show zI n; unfold zI; omega
    · exact hso v (List.mem_cons_of_mem _ hv)) h1 h2 h3 h4
theorem x_alen2 {o n : Int} (hd : decode a.1.2.1 pc = .ok (.arraylength, 1)) (ho : zK o = (102, n)) (hn : 0 ≤ n ∧ n ≤ 100000) (k : zX G a u (pc + 1) lv ((0, n) :: st) M Q) : zX G a u pc lv ((2, o) :: st) M Q := by
  refine zX.step (fun p e R s m args below meth c Qs hC k H locs cells slots ls hW hS hl hlo hso h1 h2 h3 h4 => ?_) k
  have p1 : 1 ≤ o := zK_pos ho (by show 102 ≠ 999; omega)
  have p2 : o ≤ M 0 0 := hso _ List.mem_cons_self
  have hg := zws_get G M p1 p2
  rw [zcell_a G (ai := 2) ho] at hg
  simp only [List.map_cons, zcv_pos G p1]
  refine va_alen hC.1 hC.2.1 hW.1 hW.2.1 _ 2 hg rfl (v := Int32.ofInt n) (by show Int32.ofNat n.toNat = _; rw [← Int32.ofInt_eq_ofNat]; congr 1; omega) hd ?_
  exact k H locs cells slots ls hW hS hl hlo (fun v hv => by
    rcases List.mem_cons.mp hv with rfl | hv
    · show zI n; unfold zI; omega
    · exact hso v (List.mem_cons_of_mem _ hv)) h1 h2 h3 h4
theorem x_alen3 {o n : Int} (hd : decode a.1.2.1 pc = .ok (.arraylength, 1)) (ho : zK o = (103, n)) (hn : 0 ≤ n ∧ n ≤ 100000) (k : zX G a u (pc + 1) lv ((0, n) :: st) M Q) : zX G a u pc lv ((2, o) :: st) M Q := by
  refine zX.step (fun p e R s m args below meth c Qs hC k H locs cells slots ls hW hS hl hlo hso h1 h2 h3 h4 => ?_) k
  have p1 : 1 ≤ o := zK_pos ho (by show 103 ≠ 999; omega)
  have p2 : o ≤ M 0 0 := hso _ List.mem_cons_self
  have hg := zws_get G M p1 p2
  rw [zcell_a G (ai := 3) ho] at hg
  simp only [List.map_cons, zcv_pos G p1]
  refine va_alen hC.1 hC.2.1 hW.1 hW.2.1 _ 3 hg rfl (v := Int32.ofInt n) (by show Int32.ofNat n.toNat = _; rw [← Int32.ofInt_eq_ofNat]; congr 1; omega) hd ?_
  exact k H locs cells slots ls hW hS hl hlo (fun v hv => by
    rcases List.mem_cons.mp hv with rfl | hv
    · show zI n; unfold zI; omega
    · exact hso v (List.mem_cons_of_mem _ hv)) h1 h2 h3 h4
theorem x_alen4 {o n : Int} (hd : decode a.1.2.1 pc = .ok (.arraylength, 1)) (ho : zK o = (104, n)) (hn : 0 ≤ n ∧ n ≤ 100000) (k : zX G a u (pc + 1) lv ((0, n) :: st) M Q) : zX G a u pc lv ((2, o) :: st) M Q := by
  refine zX.step (fun p e R s m args below meth c Qs hC k H locs cells slots ls hW hS hl hlo hso h1 h2 h3 h4 => ?_) k
  have p1 : 1 ≤ o := zK_pos ho (by show 104 ≠ 999; omega)
  have p2 : o ≤ M 0 0 := hso _ List.mem_cons_self
  have hg := zws_get G M p1 p2
  rw [zcell_a G (ai := 4) ho] at hg
  simp only [List.map_cons, zcv_pos G p1]
  refine va_alen hC.1 hC.2.1 hW.1 hW.2.1 _ 4 hg rfl (v := Int32.ofInt n) (by show Int32.ofNat n.toNat = _; rw [← Int32.ofInt_eq_ofNat]; congr 1; omega) hd ?_
  exact k H locs cells slots ls hW hS hl hlo (fun v hv => by
    rcases List.mem_cons.mp hv with rfl | hv
    · show zI n; unfold zI; omega
    · exact hso v (List.mem_cons_of_mem _ hv)) h1 h2 h3 h4
theorem x_alen5 {o n : Int} (hd : decode a.1.2.1 pc = .ok (.arraylength, 1)) (ho : zK o = (105, n)) (hn : 0 ≤ n ∧ n ≤ 100000) (k : zX G a u (pc + 1) lv ((0, n) :: st) M Q) : zX G a u pc lv ((2, o) :: st) M Q := by
  refine zX.step (fun p e R s m args below meth c Qs hC k H locs cells slots ls hW hS hl hlo hso h1 h2 h3 h4 => ?_) k
  have p1 : 1 ≤ o := zK_pos ho (by show 105 ≠ 999; omega)
  have p2 : o ≤ M 0 0 := hso _ List.mem_cons_self
  have hg := zws_get G M p1 p2
  rw [zcell_a G (ai := 5) ho] at hg
  simp only [List.map_cons, zcv_pos G p1]
  refine va_alen hC.1 hC.2.1 hW.1 hW.2.1 _ 5 hg rfl (v := Int32.ofInt n) (by show Int32.ofNat n.toNat = _; rw [← Int32.ofInt_eq_ofNat]; congr 1; omega) hd ?_
  exact k H locs cells slots ls hW hS hl hlo (fun v hv => by
    rcases List.mem_cons.mp hv with rfl | hv
    · show zI n; unfold zI; omega
    · exact hso v (List.mem_cons_of_mem _ hv)) h1 h2 h3 h4
/-- the law's script -/
theorem x_sld {j : Int} (hd : decode a.1.2.1 pc = .ok (.iaload, 1)) (hj : 0 ≤ j ∧ j < M (-2) 0) (k : zX G a u (pc + 1) lv ((0, M (-1) j) :: st) M Q) : zX G a u pc lv ((0, j) :: (2, -1) :: st) M Q := by
  refine zX.step (fun p e R s m args below meth c Qs hC k H locs cells slots ls hW hS hl hlo hso h1 h2 h3 h4 => ?_) k
  have hjz : zI j := hso _ List.mem_cons_self
  obtain ⟨s1, ⟨scr, s2, s3, s4, s5, s6⟩, s7, s8, s9⟩ := hW.2.2.2.2.2.2
  have hlt : j.toNat < (M (-2) 0).toNat := by omega
  show W _ _ _ _ _ _ _ _ _ _ _ _ _ _ _ (F0 m pc ls (.int (Int32.ofInt j) :: .ref G.2.1.2 :: st.map (zcv G)))
  refine W.iald (v := .int (Int32.ofInt (M (-1) j))) hC.1 hC.2.1 s2 s3 s4 (by rw [s5]; exact zi_ix hjz hj.1 hj.2) (by rw [zi_cl hjz, s6 _ hlt]; show some (Value.int (Int32.ofInt (M (-1) ((j.toNat : Nat) : Int)))) = _; rw [show ((j.toNat : Nat) : Int) = j from by omega]) rfl rfl hd ?_
  exact k H locs cells slots ls hW hS hl hlo (fun v hv => by
    rcases List.mem_cons.mp hv with rfl | hv
    · exact s9 j
    · exact hso v (List.mem_cons_of_mem _ (List.mem_cons_of_mem _ hv))) h1 h2 h3 h4
theorem x_slen (hd : decode a.1.2.1 pc = .ok (.arraylength, 1)) (k : zX G a u (pc + 1) lv ((0, M (-2) 0) :: st) M Q) : zX G a u pc lv ((2, -1) :: st) M Q := by
  refine zX.step (fun p e R s m args below meth c Qs hC k H locs cells slots ls hW hS hl hlo hso h1 h2 h3 h4 => ?_) k
  obtain ⟨s1, ⟨scr, s2, s3, s4, s5, s6⟩, s7, s8, s9⟩ := hW.2.2.2.2.2.2
  show W _ _ _ _ _ _ _ _ _ _ _ _ _ _ _ (F0 m pc ls (.ref G.2.1.2 :: st.map (zcv G)))
  refine W.alen (n := Int32.ofInt (M (-2) 0)) hC.1 hC.2.1 s2 s3 (by rw [s5]; show Int32.ofNat _ = _; rw [← Int32.ofInt_eq_ofNat]; congr 1; omega) rfl rfl hd ?_
  exact k H locs cells slots ls hW hS hl hlo (fun v hv => by
    rcases List.mem_cons.mp hv with rfl | hv
    · show zI _; unfold zI; omega
    · exact hso v (List.mem_cons_of_mem _ hv)) h1 h2 h3 h4
/-- what the numbers at hand are -/
theorem zX.see (h : (∀ q ∈ lv, zok (M 0 0) q.2) → (∀ v ∈ st, zok (M 0 0) v) → (∀ o j, 1 ≤ o → zok (M 0 0) (ztag o j, M o j)) → (∀ j, zI (M (-1) j)) → 0 ≤ M (-2) 0 ∧ M (-2) 0 ≤ 3072 → zX G a u pc lv st M Q) : zX G a u pc lv st M Q :=
  fun p e R s m args below meth c Qs hC hR H locs cells slots ls hW hS hl hlo hso => h hlo hso (fun o j z => (hW.2.2.2.2.1 o j z).1) hW.2.2.2.2.2.2.2.2.2.2 ⟨hW.2.2.2.2.2.2.2.2.1, hW.2.2.2.2.2.2.2.2.2.1⟩ p e R s m args below meth c Qs hC hR H locs cells slots ls hW hS hl hlo hso
end ZM
