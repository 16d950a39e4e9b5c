/-! static calls, constructors, methods that are chosen by the object's class; what is made; rows copied; constant texts -/
section ZMO
variable {G : zG} {a : zYt × Nat × Nat} {y0 : zYt} {u : Nat × Nat × Nat × Nat} {pc h sl : Nat} {lv : List (Nat × zV)} {st : List zV} {M : zM} {Q : Int → zM → Prop}
theorem zkeep {H : Heap} {s : State} {locs : List Loc} (hS : va_S (zAd G) s.heap H locs) : ∀ q : Nat, q < s.heap.size → ¬ zAd G q → H[q]? = s.heap[q]? := fun q q1 q2 => hS.2.1 q q1 q2
theorem x_callS {idx n : Nat} {y : zYt} {As st0 : List zV} {Q1 : Int → zM → Prop} (hd : decode y0.2.1 pc = .ok (.invokestatic idx, 3)) (hL : zLnS y0.1.cls idx n y) (hs : st0 = As.reverse ++ st) (hn : As.length = n) (hst : zarn st ≤ 8)
    (H1 : zCt G h sl 0 0 y As M Q1) (k : ∀ x M', zrok y.2.2.2 x → Q1 x M' → zX G (y0, h + 1, sl) u (pc + 3) lv (zrs y.2.2.2 x ++ st) M' Q) : zX G (y0, h + 1, sl) u pc lv st0 M Q := by
  intro p e R s m args below meth c Qs hC hR H locs cells slots ls hW hS hl hlo hso h1 h2 h3 h4
  subst hs
  obtain ⟨c1, c2, c3, c4, c5, c6, c7, c8, c9, hE⟩ := hC
  have hcb := zcallB (h := h) (mc := 0) (ms := 0) (R := R) hE hL.1 c6 c7
  have hrest : ((st.map (zcv G)).map fun v => v.category).sum ≤ 8 := by rw [zcats]; exact hst
  have e0 : (As.reverse ++ st).map (zcv G) = (As.map (zcv G)).reverse ++ st.map (zcv G) := by rw [List.map_append, List.map_reverse]
  rw [e0]
  refine zgo (va_runS (Ts := []) (As := As.map (zcv G)) (rest := st.map (zcv G)) ⟨c1, c2, c3, c4, fun w hw => by cases hw⟩ H1 ⟨hcb, hE.1 _ hL.2 rfl⟩ ⟨zblind, fun U hU hWm => ⟨rfl, hE.warm hWm (fun q q1 q2 => by rw [hU]; exact zkeep hS q q1 q2), by rw [hU]; exact hW.moved hWm.alike, fun v hv => hso _ (List.mem_append_left _ (List.mem_reverse.mpr hv))⟩⟩ rfl (by rw [List.length_map]; exact hn) hl.1 rfl (lv_room hrest) hd ⟨by omega, by omega⟩) hS (fun x M' H' locs' hrk hge hW' hq hS' => ?_)
  rw [← List.map_append]
  refine k x M' hrk hq p e R s m args below meth c Qs ⟨c1, c2, c3, c4, c5, c6, c7, c8, c9, hE⟩ hR H' locs' cells slots ls hW' hS' hl (fun q hq => zok_le hge (hlo q hq)) (fun v hv => ?_) h1 h2 h3 h4
  rcases List.mem_append.mp hv with hv | hv
  · exact zrs_ok hrk v hv
  · exact zok_le hge (hso v (List.mem_append_right _ hv))
/-- a method that is chosen by the object's class: x is what the text names, y what is run -/
def zLnA (own : String) (idx n : Nat) (x : MethodName) (y : zYt) : Prop := Cond.methodLink own idx x ∈ lw_tbl ∧ Cond.sameMethod x.cls x.cls x.name x.desc ∈ lw_tbl ∧ Cond.selects y.1.cls x y.1 ∈ lw_tbl ∧ Cond.instanceMethod y.1 ∈ lw_tbl ∧ Cond.initialized y.1.cls ∈ lw_tbl ∧ Cond.declares x ∈ lw_tbl ∧ Cond.code y.1 y.2.1 y.2.2.1 y.2.2.2 ∈ lw_tbl ∧
  (x.cls ≠ "java/lang/invoke/MethodHandle" ∧ x.cls ≠ "java/lang/invoke/VarHandle") ∧ (parseMethodDescriptor x.desc).map (fun d => d.parameters.length) = some n ∧ y.2.2.1 ≤ 22
theorem x_callA {idx n ci : Nat} {xn : MethodName} {y : zYt} {o : Int} {As st0 : List zV} {Q1 : Int → zM → Prop} (hd : decode y0.2.1 pc = .ok (.invokevirtual idx, 3)) (hL : zLnA y0.1.cls idx n xn y) (hs : st0 = As.reverse ++ (2, o) :: st) (hn : As.length = n) (ho : zK o = (ci, 0)) (hci : ∃ T N, zcl[ci]? = some (y.1.cls, T, N)) (hst : zarn st ≤ 8)
    (H1 : zCt G h sl 0 0 y ((2, o) :: As) M Q1) (k : ∀ x M', zrok y.2.2.2 x → Q1 x M' → zX G (y0, h + 1, sl) u (pc + 3) lv (zrs y.2.2.2 x ++ st) M' Q) : zX G (y0, h + 1, sl) u pc lv st0 M Q := by
  intro p e R s m args below meth c Qs hC hR H locs cells slots ls hW hS hl hlo hso h1 h2 h3 h4
  subst hs
  obtain ⟨c1, c2, c3, c4, c5, c6, c7, c8, c9, hE⟩ := hC
  obtain ⟨T, N, hcl⟩ := hci
  obtain ⟨l1, l2, l3, l4, l5, l6, l7, l8, l9, l10⟩ := hL
  have hcr : ci < 100 := by
    have := (List.getElem?_eq_some_iff.mp hcl).1
    exact Nat.lt_of_lt_of_le this (by decide)
  have p1 : 1 ≤ o := zK_pos ho (by show ci ≠ 999; omega)
  have p2 : o ≤ M 0 0 := hso _ (List.mem_append_right _ List.mem_cons_self)
  have hg := zws_get G M p1 p2
  rw [zcell_o G ho hcr] at hg
  have hrest : ((st.map (zcv G)).map fun v => v.category).sum ≤ 8 := by rw [zcats]; exact hst
  have e0 : (As.reverse ++ (2, o) :: st).map (zcv G) = (As.map (zcv G)).reverse ++ .ref (G.2.1.1 + (o.toNat - 1)) :: st.map (zcv G) := by
    rw [List.map_append, List.map_reverse, List.map_cons, zcv_pos G p1]
  rw [e0]
  have eA : (Value.ref (G.2.1.1 + (o.toNat - 1)) :: As.map (zcv G)) = ((2, o) :: As).map (zcv G) := by rw [List.map_cons, zcv_pos G p1]
  have hcu : va_CU R s args y0.1.cls y.1.cls xn.cls idx xn y.1 y.2.1 y.2.2.1 y.2.2.2 [Cond.code y.1 y.2.1 y.2.2.1 y.2.2.2] { frames := h, cells := 0, slots := 0, locals := 41 * h } 0 0 n := by
    refine ⟨⟨rfl, rfl, c6, ?_, pay_in (args := args) (big := [Cond.code y.1 y.2.1 y.2.2.1 y.2.2.2]) (fun w hw => ?_) zgoodc, List.mem_cons_self⟩, hE.1 _ l7 rfl, hE.1 _ l5 rfl, l8, fun sig hsg => ?_, hE.1 _ l1 rfl, hE.1 _ l2 rfl, va_Decl.abs (va_Nw.of rfl (hE.1 _ l6 rfl)), hE.1 _ l3 rfl, hE.1 _ l4 rfl⟩
    · show 8 + (y.2.2.1 + 11) + 41 * h ≤ R.locals
      have : 41 * (h + 1) ≤ R.locals := c7
      omega
    · rcases List.mem_singleton.mp hw with rfl
      exact hE.1 _ l7 rfl
    · rw [hsg] at l9
      exact (Option.some.inj l9).symm
  refine zgo (va_runU (Ts := []) (As := As.map (zcv G)) (rest := st.map (zcv G)) ⟨c1, c2, c3, c4, fun w hw => by cases hw⟩ H1 hcu ⟨zblind, va_recv hW.1 hW.2.1 hcl hg, fun U hU hWm => ⟨by rw [eA], hE.warm hWm (fun q q1 q2 => by rw [hU]; exact zkeep hS q q1 q2), by rw [hU]; exact hW.moved hWm.alike, fun v hv => ?_⟩⟩ rfl (by rw [List.length_map]; exact hn) hl.1 rfl (lv_room hrest) hd ⟨by omega, by omega⟩) hS (fun x M' H' locs' hrk hge hW' hq hS' => ?_)
  · rcases List.mem_cons.mp hv with rfl | hv
    · exact hso _ (List.mem_append_right _ List.mem_cons_self)
    · exact hso _ (List.mem_append_left _ (List.mem_reverse.mpr hv))
  · rw [← List.map_append]
    refine k x M' hrk hq p e R s m args below meth c Qs ⟨c1, c2, c3, c4, c5, c6, c7, c8, c9, hE⟩ hR H' locs' cells slots ls hW' hS' hl (fun q hq => zok_le hge (hlo q hq)) (fun v hv => ?_) h1 h2 h3 h4
    rcases List.mem_append.mp hv with hv | hv
    · exact zrs_ok hrk v hv
    · exact zok_le hge (hso v (List.mem_append_right _ (List.mem_cons_of_mem _ hv)))
/-- constructors -/
def zLnI (own : String) (idx n : Nat) (y : zYt) : Prop := y.2.2.2 = none ∧ y.1.name = "<init>" ∧ Cond.instanceMethod y.1 ∈ lw_tbl ∧ (Cond.methodLink own idx y.1 ∈ lw_tbl ∨ ∃ host, Cond.methodLinkNest own idx y.1 host ∈ lw_tbl) ∧ Cond.code y.1 y.2.1 y.2.2.1 y.2.2.2 ∈ lw_tbl ∧ Cond.initialized y.1.cls ∈ lw_tbl ∧
  (y.1.cls ≠ "java/lang/invoke/MethodHandle" ∧ y.1.cls ≠ "java/lang/invoke/VarHandle" ∧ (parseMethodDescriptor y.1.desc).map (fun d => d.parameters.length) = some n) ∧ y.2.2.1 ≤ 22
theorem x_callI {idx n mc ms k0 z0 cc ss : Nat} {y : zYt} {o : Int} {As st0 : List zV} {Q1 : Int → zM → Prop} (hd : decode y0.2.1 pc = .ok (.invokespecial idx, 3)) (hL : zLnI y0.1.cls idx n y) (hs : st0 = As.reverse ++ (2, o) :: st) (hn : As.length = n) (ho : 1 ≤ o) (hst : zarn st ≤ 8)
    (hu1 : k0 + mc ≤ cc) (hu2 : z0 + ms ≤ ss)
    (H1 : zCt G h sl mc ms y ((2, o) :: As) M Q1) (k : ∀ x M', Q1 x M' → zX G (y0, h + 1, sl) (cc, ss, k0 + mc, z0 + ms) (pc + 3) lv st M' Q) : zX G (y0, h + 1, sl) (cc, ss, k0, z0) pc lv st0 M Q := by
  intro p e R s m args below meth c Qs hC hR H locs cells slots ls hW hS hl hlo hso h1 h2 h3 h4
  subst hs
  obtain ⟨yn, yb, yl, yr⟩ := y
  obtain ⟨c1, c2, c3, c4, c5, c6, c7, c8, c9, hE⟩ := hC
  obtain ⟨l0, l1, l2, l3, l4, l5, l6, l7⟩ := hL
  have l0 : yr = none := l0
  subst l0
  have h1 : cells ≤ k0 := h1
  have h2 : slots ≤ z0 := h2
  have c8 : cc ≤ R.cells := c8
  have c9 : ss ≤ R.slots := c9
  have hrest : ((st.map (zcv G)).map fun v => v.category).sum ≤ 8 := by rw [zcats]; exact hst
  have e0 : (As.reverse ++ (2, o) :: st).map (zcv G) = (As.map (zcv G)).reverse ++ .ref (G.2.1.1 + (o.toNat - 1)) :: st.map (zcv G) := by
    rw [List.map_append, List.map_reverse, List.map_cons, zcv_pos G ho]
  rw [e0]
  have eA : (Value.ref (G.2.1.1 + (o.toNat - 1)) :: As.map (zcv G)) = ((2, o) :: As).map (zcv G) := by rw [List.map_cons, zcv_pos G ho]
  have hpre : PreS s H (va_Pc (((2, o) :: As).map (zcv G)) (fun U => zE G (((2, o) :: As).map (zcv G)).toArray U ∧ zW G sl M U U.heap ∧ ∀ v ∈ ((2, o) :: As), zok (M 0 0) v)) (.ref (G.2.1.1 + (o.toNat - 1)) :: As.map (zcv G)) := ⟨zblind, fun U hU hWm => ⟨by rw [eA], hE.warm hWm (fun q q1 q2 => by rw [hU]; exact zkeep hS q q1 q2), by rw [hU]; exact hW.moved hWm.alike, fun v hv => by
    rcases List.mem_cons.mp hv with rfl | hv
    · exact hso _ (List.mem_append_right _ List.mem_cons_self)
    · exact hso _ (List.mem_append_left _ (List.mem_reverse.mpr hv))⟩⟩
  have hrun : va_Run p G.1.1 e R s m args below meth c H locs cells slots mc ms (F0 m pc ls ((As.map (zcv G)).reverse ++ .ref (G.2.1.1 + (o.toNat - 1)) :: st.map (zcv G))) (st.map (zcv G)) (zQc G sl none M Q1 (.ref (G.2.1.1 + (o.toNat - 1)) :: As.map (zcv G)).toArray) (zAd G) := by
    rcases l3 with l3 | ⟨host, l3⟩
    · have hcb := zcallB (h := h) (mc := mc) (ms := ms) (R := R) hE (y := (yn, yb, yl, none)) ⟨l3, l4, l5, l6, l7⟩ c6 c7
      exact va_runI (Ts := []) (As := As.map (zcv G)) (rest := st.map (zcv G)) ⟨c1, c2, c3, c4, fun w hw => by cases hw⟩ H1 ⟨hcb, l1, hE.1 _ l2 rfl⟩ hpre rfl (by rw [List.length_map]; exact hn) hl.1 rfl (lv_room hrest) hd ⟨by omega, by omega⟩
    · have hcn := va_cnB (own := y0.1.cls) (index := idx) (host := host) (R := R) (args := args) (s := s) n (Ts := [Cond.code yn yb yl none]) (ws := [Cond.code yn yb yl none]) (rm := { frames := h, cells := mc, slots := ms, locals := 41 * h }) (mc := mc) (ms := ms) (fun w hw => by
          rcases List.mem_singleton.mp hw with rfl
          exact hE.1 _ l4 rfl) zgoodc rfl rfl rfl (va_Nw.of rfl (hE.1 _ l3 rfl)) (hE.1 _ l5 rfl) l6 ⟨c6, by
          show 8 + (yl + 11) + 41 * h ≤ R.locals
          have : 41 * (h + 1) ≤ R.locals := c7
          have l7 : yl ≤ 22 := l7
          omega⟩
      exact va_runIN (Ts := []) (As := As.map (zcv G)) (rest := st.map (zcv G)) ⟨c1, c2, c3, c4, fun w hw => by cases hw⟩ H1 ⟨hcn, l1, hE.1 _ l2 rfl⟩ hpre rfl (by rw [List.length_map]; exact hn) hl.1 rfl (lv_room hrest) hd ⟨by omega, by omega⟩
  refine zgo hrun hS (fun x M' H' locs' hrk hge hW' hq hS' => ?_)
  exact k x M' hq p e R s m args below meth c Qs ⟨c1, c2, c3, c4, c5, c6, c7, c8, c9, hE⟩ hR H' locs' (cells + mc) (slots + ms) ls hW' hS' hl (fun q hq => zok_le hge (hlo q hq)) (fun v hv => zok_le hge (hso v (List.mem_append_right _ (List.mem_cons_of_mem _ hv)))) (by show cells + mc ≤ k0 + mc; omega) (by show slots + ms ≤ z0 + ms; omega) hu1 hu2
theorem x_objInit {idx : Nat} {o : Int} (hd : decode y0.2.1 pc = .ok (.invokespecial idx, 3)) (hw1 : Cond.methodLink y0.1.cls idx objectInit ∈ lw_tbl) (hw2 : Cond.instanceMethod objectInit ∈ lw_tbl) (hw3 : Cond.code objectInit ⟨#[0xb1]⟩ 1 none ∈ lw_tbl) (ho : 1 ≤ o) (hst : zarn st ≤ 8)
    (k : zX G (y0, h + 1, sl) u (pc + 3) lv st M Q) : zX G (y0, h + 1, sl) u pc lv ((2, o) :: st) M Q := by
  refine zX.step (fun p e R s m args below meth c Qs hC k H locs cells slots ls hW hS hl hlo hso h1 h2 h3 h4 => ?_) k
  simp only [List.map_cons, zcv_pos G ho]
  have hrest : ((st.map (zcv G)).map fun v => v.category).sum ≤ 8 := by rw [zcats]; exact hst
  obtain ⟨c1, c2, c3, c4, c5, c6, c7, c8, c9, hE⟩ := hC
  refine W.objInit c1 c2 c4 (hE.1 _ hw1 rfl) (hE.1 _ hw2 rfl) (hE.1 _ hw3 rfl) rfl (hl.1.trans c3.symm) rfl hd (by have : h + 1 ≤ R.frames := c6; omega) (by
    have : 41 * (h + 1) ≤ R.locals := c7
    show 2 * 0 + _ + 12 ≤ _
    omega) ?_
  exact k H locs cells slots ls hW hS hl hlo (fun v hv => hso v (List.mem_cons_of_mem _ hv)) h1 h2 h3 h4
/-- what stays of an object is seen to stand -/
theorem zX.seal {y : zYt} {sl' : Nat} (hf : zFin sl' M) (hsl : sl ≤ sl') (k : zX G (y, h, sl') u pc lv st M Q) : zX G (y, h, sl) u pc lv st M Q := by
  have hmono : ∀ M', zFin sl' M' → zFin sl M' := fun M' hm o j h1 h2 => hm o j h1 (Nat.le_trans h2 hsl)
  intro p e R s m args below meth c Qs hC hR H locs cells slots ls hW hS hl hlo hso h1 h2 h3 h4
  exact k p e R s m args below meth c Qs hC (fun pc H locs cells slots ls r M' d1 d2 d3 d4 d5 d6 d7 => hR pc H locs cells slots ls r M' d1 ⟨d2.1, d2.2.1, d2.2.2.1, d2.2.2.2.1, d2.2.2.2.2.1, hmono M' d2.2.2.2.2.2.1, d2.2.2.2.2.2.2⟩ d3 d4 d5 d6 d7) H locs cells slots ls ⟨hW.1, hW.2.1, hW.2.2.1, hW.2.2.2.1, hW.2.2.2.2.1, hf, hW.2.2.2.2.2.2⟩ hS hl hlo hso h1 h2 h3 h4
end ZMO
