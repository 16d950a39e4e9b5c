/-! what a method does, as one who calls it sees it (zCt); returns; calls -/
def zrv (G : zG) (r : Option FieldType) (x : Int) : Option Value := match r with
  | none => none
  | some _ => some (zcv G (zrt r, x))
def zQc (G : zG) (sl : Nat) (r : Option FieldType) (M : zM) (Q : Int → zM → Prop) : Array Value → State → Outcome → State → Prop := fun _ st oc t =>
  (∃ (x : Int) (M' : zM), oc = .returned (zrv G r x) ∧ zrok r x ∧ M 0 0 ≤ M' 0 0 ∧ zW G sl M' t t.heap ∧ Q x M') ∧ va_F (zAd G) st t
/-- a call of y with these arguments in the store M ends with an answer and a store of which Q holds (h frames above; mc cells, ms slots at most are made) -/
def zCt (G : zG) (h sl mc ms : Nat) (y : zYt) (args : List zV) (M : zM) (Q : Int → zM → Prop) : Prop :=
  Met G.1.1 y.1 [Cond.code y.1 y.2.1 y.2.2.1 y.2.2.2] { frames := h, cells := mc, slots := ms, locals := 41 * h } (va_Pc (args.map (zcv G)) (fun U => zE G (args.map (zcv G)).toArray U ∧ zW G sl M U U.heap ∧ ∀ v ∈ args, zok (M 0 0) v)) (zQc G sl y.2.2.2 M Q) mc ms (zAd G)
def zlva : Nat → List zV → List (Nat × zV)
  | _, [] => []
  | i, v :: vs => (i, v) :: zlva (if v.1 = 1 then i + 2 else i + 1) vs
def zarn : List zV → Nat
  | [] => 0
  | v :: vs => (if v.1 = 1 then 2 else 1) + zarn vs
theorem zlva_map (G : zG) : ∀ (vs : List zV) (i : Nat), lv_args i (vs.map (zcv G)) = (zlva i vs).map (fun q => (q.1, zcv G q.2)) := by
  intro vs
  induction vs with
  | nil => intro i; rfl
  | cons v vs ih =>
    intro i
    simp only [List.map_cons, lv_args, zlva]
    rw [ih, zcat]
    congr 2
    by_cases h : v.1 = 1
    · simp [h]
    · simp [h]
theorem zlva_ok {n : Int} : ∀ (vs : List zV) (i : Nat), (∀ v ∈ vs, zok n v) → ∀ q ∈ zlva i vs, zok n q.2 := by
  intro vs
  induction vs with
  | nil => intro i _ q hq; cases hq
  | cons v vs ih =>
    intro i h q hq
    rcases List.mem_cons.mp hq with rfl | hq
    · exact h _ List.mem_cons_self
    · exact ih _ (fun w hw => h w (List.mem_cons_of_mem _ hw)) q hq
theorem zarn_len (G : zG) : ∀ (vs : List zV), (lg_sl (vs.map (zcv G))).length = zarn vs := by
  intro vs
  induction vs with
  | nil => rfl
  | cons v vs ih =>
    have e : lg_sl ((v :: vs).map (zcv G)) = (if (zcv G v).category = 2 then [Slot.val (zcv G v), Slot.second] else [Slot.val (zcv G v)]) ++ lg_sl (vs.map (zcv G)) := by simp [lg_sl]
    rw [e, List.length_append, ih, zcat]
    show _ = (if v.1 = 1 then 2 else 1) + zarn vs
    by_cases h : v.1 = 1
    · simp [h]
    · simp [h]
theorem zScr.moved {G : zG} {M : zM} {u U : State} {H : Heap} (hvm : u.vm.Alike U.vm) (h : zScr G M u H) : zScr G M U H := ⟨h.1, h.2.1.moved hvm, h.2.2⟩
theorem zW.moved {G : zG} {sl : Nat} {M : zM} {u U : State} {H : Heap} (hvm : u.vm.Alike U.vm) (h : zW G sl M u H) : zW G sl M U H :=
  ⟨va_K.moved hvm h.1, h.2.1, h.2.2.1, h.2.2.2.1, h.2.2.2.2.1, h.2.2.2.2.2.1, zScr.moved hvm h.2.2.2.2.2.2⟩
theorem zgw_warm {w : Cond} (hg : zgw w = true) {A A' : Array Value} {s U : State} (hW : s.WarmedH U.vm) (h : w.before A s = true) : w.before A' U = true := by
  by_cases h1 : (∃ a b c d, w = .methodLinkNest a b c d) ∨ (∃ x, w = .declares x) ∨ ∃ C, w = .arrayOver (.object C)
  · rcases h1 with ⟨b, i, x, d, rfl⟩ | ⟨x, rfl⟩ | ⟨C, rfl⟩
    · exact va_Nw.use rfl (va_Nw.warmM hW (va_Nw.of rfl h))
    · exact va_Nw.use rfl (va_Nw.warmD hW (va_Nw.of rfl h))
    · exact va_AO.use (A := A') (va_AO.moved hW.alike (va_AO.of (A := A) h))
  · have h2 : goodWord w = true := by
      unfold zgw at hg
      split at hg
      · exact absurd (Or.inl ⟨_, _, _, _, rfl⟩) h1
      · exact absurd (Or.inr (Or.inl ⟨_, rfl⟩)) h1
      · exact absurd (Or.inr (Or.inr ⟨_, rfl⟩)) h1
      · exact hg
    exact word_at hW (good_of_word h2) h
theorem zE.warm {G : zG} {A A' : Array Value} {s U : State} (hW : s.WarmedH U.vm) (hq : ∀ q : Nat, q < s.heap.size → ¬ zAd G q → U.heap[q]? = s.heap[q]?) (h : zE G A s) : zE G A' U :=
  ⟨fun w hw hg => zgw_warm hg hW (h.1 w hw hg), fun i q hi => vk_R.warm hW (h.2.1 i q hi), fun i hi => ⟨(va_O.moved hW.alike (h.2.2.1 i hi).1).kept hq, (va_OF.moved hW.alike (h.2.2.1 i hi).2.1).kept hq, (va_OF.moved hW.alike (h.2.2.1 i hi).2.2.1).kept hq, (va_T.moved hW.alike (h.2.2.1 i hi).2.2.2).kept hq⟩, (va_Z.moved hW.alike h.2.2.2.1).kept hq, h.2.2.2.2.imp (fun z => (va_Z.moved hW.alike z).kept hq) (fun z => (va_Z.moved hW.alike z).kept hq)⟩
theorem zblind {G : zG} {sl : Nat} {M : zM} {vs : List zV} : FrameBlind (va_Pc (vs.map (zcv G)) (fun U => zE G (vs.map (zcv G)).toArray U ∧ zW G sl M U U.heap ∧ ∀ v ∈ vs, zok (M 0 0) v)) := by
  intro A U g mk h
  obtain ⟨h1, h2, h3, h4⟩ := h
  exact ⟨h1, h2.warm (U := U.calling g mk A) (State.WarmedH.refl U) (fun _ _ _ => rfl), zW.moved (u := U) (U := U.calling g mk A) (Vm.Alike.refl U.vm) h3, h4⟩
theorem zn_bool {x : Int} (h : x = 0 ∨ x = 1) : narrow .boolean (.int (Int32.ofInt x)) = .int (Int32.ofInt x) := by
  rcases h with rfl | rfl <;> decide
/-- a method by its body -/
theorem zCt.of {G : zG} {h sl mc ms : Nat} {y : zYt} {vs : List zV} {M : zM} {Q : Int → zM → Prop} (hy : plainFor y.1 = true) (hn : zarn vs ≤ y.2.2.1) (k : zX G (y, h, sl) (mc, ms, 0, 0) 0 (zlva 0 vs) [] M Q) : zCt G h sl mc ms y vs M Q := by
  refine va_MetF (cc := y.2.1) (maxL := y.2.2.1) (ret := y.2.2.2) hy rfl ?_
  intro p e s m args below meth c s₁ B hml hv
  obtain ⟨rfl, hE, hW, hok⟩ := hv
  have hlocks : meth.locks = false := B.notSynchronized
  have hr := B.returns
  rw [lg_entry_eq]
  refine k p e _ s m _ below meth c _ ⟨B.exec, B.bytes, hml, findClass_of_methodNamed B.named, fun he => (name_of_methodNamed B.named B.method).1.trans he, Nat.le_refl _, Nat.le_refl _, Nat.le_refl _, Nat.le_refl _, hE⟩ ?_ s.heap [] 0 0 _ hW va_S.rf ?_ (zlva_ok vs 0 hok) (fun v hv => by cases hv) (Nat.le_refl _) (Nat.le_refl _) (Nat.zero_le _) (Nat.zero_le _)
  · intro pc H locs cells slots ls x M' hd hW' hS hrok hQ hc hs
    have hge : M 0 0 ≤ M' 0 0 := by
      have a1 := hW.2.2.1
      have a2 := hW'.2.2.1
      have a3 := hS.1
      omega
    have hq : ∀ t : State, t.heap = H → s.WarmedH t.vm → zQc G sl y.2.2.2 M Q (vs.map (zcv G)).toArray s (.returned (zrv G y.2.2.2 x)) t := fun t ht hWm =>
      ⟨⟨x, M', rfl, hrok, hge, by rw [ht]; exact hW'.moved hWm.alike, hQ⟩, hS.F ht⟩
    refine W.widen hc hs ?_
    obtain ⟨yn, yb, yl, yr⟩ := y
    cases yr with
    | none => exact W.vret B.exec B.bytes hr hq hS.2.2 hd
    | some ty =>
      cases ty with
      | long => exact W.lret B.exec B.bytes hr hq hS.2.2 hd
      | int => exact W.zret B.exec B.bytes hr rfl hq hS.2.2 hd
      | boolean =>
        have hrok : x = 0 ∨ x = 1 := hrok
        exact W.zret B.exec B.bytes hr (zn_bool hrok) hq hS.2.2 hd
      | char => exact W.zret B.exec B.bytes hr (zn_char hrok) hq hS.2.2 hd
      | byte =>
        have hrok : 0 ≤ x ∧ x ≤ 127 := hrok
        refine W.zret B.exec B.bytes hr ?_ hq hS.2.2 hd
        rw [narrow_byte]
        congr 1
        rw [← Int32.toInt_inj, Int8.toInt_toInt32, Int32.toInt_toInt8, zi_to ⟨by omega, by omega⟩]
        exact Int.bmod_eq_of_le (by omega) (by omega)
      | _ => exact absurd hrok id
  · have := lv_entry (vs.map (zcv G)) (n := y.2.2.1) (by rw [zarn_len]; exact hn)
    rw [zlva_map] at this
    exact this
section ZCL
variable {G : zG} {a : zYt × Nat × Nat} {y0 : zYt} {u : Nat × Nat × Nat × Nat} {pc h sl : Nat} {lv : List (Nat × zV)} {st : List zV} {M : zM} {Q : Int → zM → Prop}
theorem x_ireturn {ty : FieldType} {x : Int} (hd : decode a.1.2.1 pc = .ok (.ireturn, 1)) (hr : a.1.2.2.2 = some ty) (hl : ty ≠ .long) (hok : zrok (some ty) x) (hq : Q x M) : zX G a u pc lv [(0, x)] M Q := by
  intro p e R s m args below meth c Qs hC hR H locs cells slots ls hW hS hl' hlo hso h1 h2 h3 h4
  have e1 : zri a.1.2.2.2 = .ireturn := by rw [hr]; cases ty <;> first | rfl | exact absurd rfl hl
  have e2 : zrs a.1.2.2.2 x = [(0, x)] := by rw [hr]; cases ty <;> first | rfl | exact absurd rfl hl
  have := hR pc H locs cells slots ls x M (by rw [e1]; exact hd) hW hS (by rw [hr]; exact hok) hq (Nat.le_trans h1 h3) (Nat.le_trans h2 h4)
  rw [e2] at this
  exact this
theorem x_lreturn {x : Int} (hd : decode a.1.2.1 pc = .ok (.lreturn, 1)) (hr : a.1.2.2.2 = some .long) (hq : Q x M) : zX G a u pc lv [(1, x)] M Q := by
  intro p e R s m args below meth c Qs hC hR H locs cells slots ls hW hS hl' hlo hso h1 h2 h3 h4
  have hx : zL x := hso _ List.mem_cons_self
  have := hR pc H locs cells slots ls x M (by rw [hr]; exact hd) hW hS (by rw [hr]; exact hx) hq (Nat.le_trans h1 h3) (Nat.le_trans h2 h4)
  rw [hr] at this
  exact this
theorem x_return (hd : decode a.1.2.1 pc = .ok (.return_, 1)) (hr : a.1.2.2.2 = none) (hq : Q 0 M) : zX G a u pc lv [] M Q := by
  intro p e R s m args below meth c Qs hC hR H locs cells slots ls hW hS hl' hlo hso h1 h2 h3 h4
  have := hR pc H locs cells slots ls 0 M (by rw [hr]; exact hd) hW hS (by rw [hr]; exact rfl) hq (Nat.le_trans h1 h3) (Nat.le_trans h2 h4)
  rw [hr] at this
  exact this
/-- what a pool number says: a method of the instance, of this very class; a static one -/
def zLnk (own : String) (idx n : Nat) (y : zYt) : Prop := Cond.methodLink own idx y.1 ∈ lw_tbl ∧ Cond.code y.1 y.2.1 y.2.2.1 y.2.2.2 ∈ lw_tbl ∧ Cond.initialized y.1.cls ∈ lw_tbl ∧ (y.1.cls ≠ "java/lang/invoke/MethodHandle" ∧ y.1.cls ≠ "java/lang/invoke/VarHandle" ∧ (parseMethodDescriptor y.1.desc).map (fun d => d.parameters.length) = some n) ∧ y.2.2.1 ≤ 22
def zLnV (own : String) (idx n : Nat) (y : zYt) : Prop := zLnk own idx n y ∧ Cond.instanceMethod y.1 ∈ lw_tbl ∧ Cond.selects y.1.cls y.1 y.1 ∈ lw_tbl
def zLnS (own : String) (idx n : Nat) (y : zYt) : Prop := zLnk own idx n y ∧ Cond.static y.1 ∈ lw_tbl
theorem zgoodc {y : MethodName} {b : ByteArray} {n : Nat} {r : Option FieldType} : GoodIn [Cond.code y b n r] [Cond.code y b n r] := fun w hw => ⟨hw, by
  rcases List.mem_singleton.mp hw with rfl
  exact Or.inl rfl⟩
theorem zcallB {own : String} {idx n mc ms : Nat} {y : zYt} {R : Room} {s : State} {args : Array Value} (hE : zE G args s) (hL : zLnk own idx n y) (hf : h + 1 ≤ R.frames) (hlo : 41 * (h + 1) ≤ R.locals) :
    CallB R s args own idx y.1 y.2.1 y.2.2.1 y.2.2.2 [Cond.code y.1 y.2.1 y.2.2.1 y.2.2.2] { frames := h, cells := mc, slots := ms, locals := 41 * h } mc ms n := by
  obtain ⟨l1, l2, l3, l4, l5⟩ := hL
  refine callB_of n (Ts := [Cond.code y.1 y.2.1 y.2.2.1 y.2.2.2]) (fun w hw => ?_) zgoodc rfl rfl rfl (hE.1 _ l3 rfl) (hE.1 _ l1 rfl) l4 ⟨hf, ?_⟩
  · rcases List.mem_singleton.mp hw with rfl
    exact hE.1 _ l2 rfl
  · show 8 + (y.2.2.1 + 11) + 41 * h ≤ R.locals
    omega
/-- behind a call -/
theorem zgo {p : Program} {e : Env} {R : Room} {s : State} {m : MethodId} {args : Array Value} {below : List Frame} {meth : Method} {c : Code} {H : Heap} {locs : List Loc} {cells slots mc ms : Nat} {Qs : State → Prop} {ls : Array Slot} {st0 rest : List Value} {r : Option FieldType} {Q1 : Int → zM → Prop} {A : Array Value}
    (hr : va_Run p G.1.1 e R s m args below meth c H locs cells slots mc ms (F0 m pc ls st0) rest (zQc G sl r M Q1 A) (zAd G)) (hS : va_S (zAd G) s.heap H locs)
    (kk : ∀ (x : Int) (M' : zM) (H1 : Heap) (locs1 : List Loc), zrok r x → M 0 0 ≤ M' 0 0 → zW G sl M' s H1 → Q1 x M' → va_S (zAd G) s.heap H1 locs1 → W p G.1.1 e R s m args below meth c H1 locs1 (cells + mc) (slots + ms) Qs (F0 m (pc + 3) ls ((zrs r x).map (zcv G) ++ rest))) : W p G.1.1 e R s m args below meth c H locs cells slots Qs (F0 m pc ls st0) := by
  intro T hT X
  obtain ⟨v, st₀, t, T', L, h0, X', hL, e1, e2, ⟨⟨x, M', hv, hrk, hge, hW', hq⟩, hz, hk⟩, st⟩ := hr T hT X
  rw [h0] at hz hk
  have hal : t.vm.Alike s.vm := by rw [← e2]; exact X'.warmed.alike.symm
  obtain ⟨t2, a1, b1⟩ := kk x M' T'.heap (locs ++ L) hrk hge (by rw [e1]; exact hW'.moved hal) hq
    ⟨Nat.le_trans hS.1 (by rw [e1]; exact hz), fun q h1 h2 => by rw [e1, hk q (Nat.lt_of_lt_of_le h1 hS.1) h2]; exact hS.2.1 q h1 h2, fun q hq => by
      rcases List.mem_append.mp hq with h | h
      · exact hS.2.2 q h
      · exact hL q h⟩ T' rfl X'
  refine ⟨t2, st t2 ?_, b1⟩
  have hv2 : v.toList = (zrs r x).map (zcv G) := by
    have hv : v = zrv G r x := by injection hv
    rw [hv]
    cases r <;> rfl
  rw [hv2]
  exact a1
theorem zok_le {n n' : Int} (h : n ≤ n') {v : zV} (hv : zok n v) : zok n' v := by
  obtain ⟨t, x⟩ := v
  match t, hv with
  | 0, hv => exact hv
  | 1, hv => exact hv
  | k + 2, hv => exact Int.le_trans hv h
theorem zcats (G : zG) (st : List zV) : ((st.map (zcv G)).map fun v => v.category).sum = zarn st := by
  induction st with
  | nil => rfl
  | cons v vs ih =>
    simp only [List.map_cons, List.sum_cons, ih, zarn, zcat]
theorem zrs_ok {n x : Int} {r : Option FieldType} (h : zrok r x) : ∀ v ∈ zrs r x, zok n v := by
  intro v hv
  cases r with
  | none => cases hv
  | some ty =>
    rcases List.mem_singleton.mp hv with rfl
    cases ty with
    | long => exact h
    | int => exact h
    | boolean => have h : x = 0 ∨ x = 1 := h; show zI x; unfold zI; omega
    | char => have h : 0 ≤ x ∧ x ≤ 65535 := h; show zI x; unfold zI; omega
    | byte => have h : 0 ≤ x ∧ x ≤ 127 := h; show zI x; unfold zI; omega
    | _ => exact absurd h id
/-- a call of a method of an object of ours: first what the callee does, then how it goes on -/
theorem x_callV {idx n ci : Nat} {y : zYt} {o : Int} {As st0 : List zV} {Q1 : Int → zM → Prop} (hd : decode y0.2.1 pc = .ok (.invokevirtual idx, 3)) (hL : zLnV y0.1.cls idx n y) (hs : st0 = As.reverse ++ (2, o) :: st) (hn : As.length = n) (ho : zK o = (ci, 0)) (hci : ∃ T N, zcl[ci]? = some (y.1.cls, T, N)) (hst : zarn st ≤ 8)
    (H1 : zCt G h sl 0 0 y ((2, o) :: As) M Q1) (k : ∀ x M', zrok y.2.2.2 x → Q1 x M' → zX G (y0, h + 1, sl) u (pc + 3) lv (zrs y.2.2.2 x ++ st) M' Q) : zX G (y0, h + 1, sl) u pc lv st0 M Q := by
  intro p e R s m args below meth c Qs hC hR H locs cells slots ls hW hS hl hlo hso h1 h2 h3 h4
  subst hs
  obtain ⟨c1, c2, c3, c4, c5, c6, c7, c8, c9, hE⟩ := hC
  obtain ⟨T, N, hcl⟩ := hci
  have hcr : ci < 100 := by
    have := (List.getElem?_eq_some_iff.mp hcl).1
    exact Nat.lt_of_lt_of_le this (by decide)
  have p1 : 1 ≤ o := zK_pos ho (by show ci ≠ 999; omega)
  have p2 : o ≤ M 0 0 := hso _ (List.mem_append_right _ List.mem_cons_self)
  have hg := zws_get G M p1 p2
  rw [zcell_o G ho hcr] at hg
  have hKeep : ∀ q : Nat, q < s.heap.size → ¬ zAd G q → H[q]? = s.heap[q]? := fun q q1 q2 => hS.2.1 q q1 q2
  have hcb := zcallB (h := h) (mc := 0) (ms := 0) (R := R) hE hL.1 c6 c7
  have hrest : ((st.map (zcv G)).map fun v => v.category).sum ≤ 8 := by rw [zcats]; exact hst
  have e0 : (As.reverse ++ (2, o) :: st).map (zcv G) = (As.map (zcv G)).reverse ++ .ref (G.2.1.1 + (o.toNat - 1)) :: st.map (zcv G) := by
    rw [List.map_append, List.map_reverse, List.map_cons, zcv_pos G p1]
  rw [e0]
  have eA : (Value.ref (G.2.1.1 + (o.toNat - 1)) :: As.map (zcv G)) = ((2, o) :: As).map (zcv G) := by rw [List.map_cons, zcv_pos G p1]
  refine zgo (va_runV (As := As.map (zcv G)) (rest := st.map (zcv G)) (Ts := []) ⟨c1, c2, c3, c4, fun w hw => by cases hw⟩ H1 ⟨hcb, hE.1 _ hL.2.1 rfl, hE.1 _ hL.2.2 rfl⟩ ⟨zblind, va_recv hW.1 hW.2.1 hcl hg, fun U hU hWm => ⟨by rw [eA], hE.warm hWm (fun q q1 q2 => by rw [hU]; exact hKeep q q1 q2), by rw [hU]; exact hW.moved hWm.alike, fun v hv => ?_⟩⟩ rfl (by rw [List.length_map]; exact hn) hl.1 rfl (lv_room hrest) hd ⟨by omega, by omega⟩) hS (fun x M' H' locs' hrk hge hW' hq hS' => ?_)
  · rcases List.mem_cons.mp hv with rfl | hv
    · exact hso _ (List.mem_append_right _ List.mem_cons_self)
    · exact hso _ (List.mem_append_left _ (List.mem_reverse.mpr hv))
  · rw [← List.map_append]
    refine k x M' hrk hq p e R s m args below meth c Qs ⟨c1, c2, c3, c4, c5, c6, c7, c8, c9, hE⟩ hR H' locs' cells slots ls hW' hS' hl (fun q hq => zok_le hge (hlo q hq)) (fun v hv => ?_) h1 h2 h3 h4
    rcases List.mem_append.mp hv with hv | hv
    · exact zrs_ok hrk v hv
    · exact zok_le hge (hso v (List.mem_append_right _ (List.mem_cons_of_mem _ hv)))
end ZCL
