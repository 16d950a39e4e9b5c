/-! WHAT THE LAUNCH GIVES (by wip/whole/gen/start.py). -/
theorem wi_0 : Cond.instantiable "ZigzagTablets$Code" 3 ∈ lw_tbl := (zt_1 _ (zpn (i := 208) rfl))
theorem wi_1 : Cond.instantiable "ZigzagTablets$Column" 11 ∈ lw_tbl := (zt_2 _ (zpn (i := 64) rfl))
theorem wi_2 : Cond.instantiable "ZigzagTablets$Course" 5 ∈ lw_tbl := (zt_1 _ (zpn (i := 78) rfl))
theorem wi_3 : Cond.instantiable "ZigzagTablets$History" 7 ∈ lw_tbl := (zt_1 _ (zpn (i := 102) rfl))
theorem wi_4 : Cond.instantiable "ZigzagTablets$Line" 3 ∈ lw_tbl := (zt_1 _ (zpn (i := 50) rfl))
theorem wi_5 : Cond.instantiable "ZigzagTablets$Piece" 17 ∈ lw_tbl := (zt_1 _ (zpn (i := 134) rfl))
theorem wi_6 : Cond.instantiable "ZigzagTablets$Question" 5 ∈ lw_tbl := (zt_2 _ (zpn (i := 28) rfl))
theorem wi_7 : Cond.instantiable "ZigzagTablets$Reader" 12 ∈ lw_tbl := (zt_1 _ (zpn (i := 202) rfl))
theorem wi_8 : Cond.instantiable "ZigzagTablets$Tablet" 10 ∈ lw_tbl := (zt_2 _ (zpn (i := 53) rfl))
theorem wi_9 : Cond.instantiable "ZigzagTablets$Tape" 2 ∈ lw_tbl := (zt_1 _ (zpn (i := 30) rfl))
theorem wi_10 : Cond.instantiable "ZigzagTablets" 17 ∈ lw_tbl := (zt_1 _ (zpn (i := 22) rfl))
theorem wi_11 : Cond.instantiable "ZigzagTabletsModel" 101 ∈ lw_tbl := (zt_5 _ (zpn (i := 190) rfl))
theorem z_known {s : State} {A : Array Value} (hts : ∀ w ∈ lw_tbl, w.before A s = true) : ∃ (dC : Nat → ClassId) (dI : Nat → Nat → Nat), ∀ (k : Nat) (q : vw_C), zcl[k]? = some q → u_Kn s q.1 q.2.1 q.2.2 (dC k) (dI k) := by
  obtain ⟨c0, i0, h0⟩ := u_known (n := 3) hts zi0 (hts _ wi_0)
  obtain ⟨c1, i1, h1⟩ := u_known (n := 11) hts zi1 (hts _ wi_1)
  obtain ⟨c2, i2, h2⟩ := u_known (n := 5) hts zi2 (hts _ wi_2)
  obtain ⟨c3, i3, h3⟩ := u_known (n := 7) hts zi3 (hts _ wi_3)
  obtain ⟨c4, i4, h4⟩ := u_known (n := 3) hts zi4 (hts _ wi_4)
  obtain ⟨c5, i5, h5⟩ := u_known (n := 17) hts zi5 (hts _ wi_5)
  obtain ⟨c6, i6, h6⟩ := u_known (n := 5) hts zi6 (hts _ wi_6)
  obtain ⟨c7, i7, h7⟩ := u_known (n := 12) hts zi7 (hts _ wi_7)
  obtain ⟨c8, i8, h8⟩ := u_known (n := 10) hts zi8 (hts _ wi_8)
  obtain ⟨c9, i9, h9⟩ := u_known (n := 2) hts zi9 (hts _ wi_9)
  obtain ⟨c10, i10, h10⟩ := u_known (n := 17) hts zi10 (hts _ wi_10)
  obtain ⟨c11, i11, h11⟩ := u_known (n := 101) hts zi11 (hts _ wi_11)
  have h0 : ∀ k : Nat, ∃ x : ClassId × (Nat → Nat), ∀ q : vw_C, zcl[k]? = some q → u_Kn s q.1 q.2.1 q.2.2 x.1 x.2 := by
    intro k
    match k with
    | 0 => exact ⟨(c0, i0), fun q hq => by cases hq; exact h0⟩
    | 1 => exact ⟨(c1, i1), fun q hq => by cases hq; exact h1⟩
    | 2 => exact ⟨(c2, i2), fun q hq => by cases hq; exact h2⟩
    | 3 => exact ⟨(c3, i3), fun q hq => by cases hq; exact h3⟩
    | 4 => exact ⟨(c4, i4), fun q hq => by cases hq; exact h4⟩
    | 5 => exact ⟨(c5, i5), fun q hq => by cases hq; exact h5⟩
    | 6 => exact ⟨(c6, i6), fun q hq => by cases hq; exact h6⟩
    | 7 => exact ⟨(c7, i7), fun q hq => by cases hq; exact h7⟩
    | 8 => exact ⟨(c8, i8), fun q hq => by cases hq; exact h8⟩
    | 9 => exact ⟨(c9, i9), fun q hq => by cases hq; exact h9⟩
    | 10 => exact ⟨(c10, i10), fun q hq => by cases hq; exact h10⟩
    | 11 => exact ⟨(c11, i11), fun q hq => by cases hq; exact h11⟩
    | k + 12 => exact ⟨(c0, i0), fun q hq => by simp [zcl] at hq⟩
  obtain ⟨ad, had⟩ := Classical.axiomOfChoice h0
  exact ⟨fun k => (ad k).1, fun k => (ad k).2, fun k q hq => had k q hq⟩
theorem wr_0 : Cond.arrayClass .int ∈ lw_tbl := (zt_1 _ (zpn (i := 48) rfl))
theorem z_arr0 {s : State} {A : Array Value} (hts : ∀ w ∈ lw_tbl, w.before A s = true) : ∃ cA : ClassId, ArrOfT s cA (.int) ∧ va_RA s cA (.int) := by
  obtain ⟨c, k, comp, h1, h2, h3⟩ := Cond.arrayClass_spec (args := A) (first := s) (o := none) (s := s) (idx := []) (hts _ wr_0)
  exact ⟨c, fun n z => ⟨fun k h => (by cases h), k, h2, comp, h3⟩, h1⟩
theorem wr_1 : Cond.arrayClass .long ∈ lw_tbl := (zt_7 _ (zpn (i := 20) rfl))
theorem z_arr1 {s : State} {A : Array Value} (hts : ∀ w ∈ lw_tbl, w.before A s = true) : ∃ cA : ClassId, ArrOfT s cA (.long) ∧ va_RA s cA (.long) := by
  obtain ⟨c, k, comp, h1, h2, h3⟩ := Cond.arrayClass_spec (args := A) (first := s) (o := none) (s := s) (idx := []) (hts _ wr_1)
  exact ⟨c, fun n z => ⟨fun k h => (by cases h), k, h2, comp, h3⟩, h1⟩
theorem wr_2 : Cond.arrayClass .char ∈ lw_tbl := (zt_7 _ (zpn (i := 19) rfl))
theorem z_arr2 {s : State} {A : Array Value} (hts : ∀ w ∈ lw_tbl, w.before A s = true) : ∃ cA : ClassId, ArrOfT s cA (.char) ∧ va_RA s cA (.char) := by
  obtain ⟨c, k, comp, h1, h2, h3⟩ := Cond.arrayClass_spec (args := A) (first := s) (o := none) (s := s) (idx := []) (hts _ wr_2)
  exact ⟨c, fun n z => ⟨fun k h => (by cases h), k, h2, comp, h3⟩, h1⟩
theorem wr_3 : Cond.arrayClass .boolean ∈ lw_tbl := (zt_7 _ (zpn (i := 21) rfl))
theorem z_arr3 {s : State} {A : Array Value} (hts : ∀ w ∈ lw_tbl, w.before A s = true) : ∃ cA : ClassId, ArrOfT s cA (.boolean) ∧ va_RA s cA (.boolean) := by
  obtain ⟨c, k, comp, h1, h2, h3⟩ := Cond.arrayClass_spec (args := A) (first := s) (o := none) (s := s) (idx := []) (hts _ wr_3)
  exact ⟨c, fun n z => ⟨fun k h => (by cases h), k, h2, comp, h3⟩, h1⟩
theorem wr_4 : Cond.arrayOver (.object "ZigzagTablets$Line") ∈ lw_tbl := (zt_1 _ (zpn (i := 108) rfl))
theorem z_arr4 {s : State} {A : Array Value} (hts : ∀ w ∈ lw_tbl, w.before A s = true) : ∃ cA : ClassId, ArrOfT s cA (.object "ZigzagTablets$Line") ∧ va_RA s cA (.object "ZigzagTablets$Line") := by
  obtain ⟨comp, c, k, h1, h2, h3, h4, h5⟩ := Cond.arrayOver_spec (args := A) (first := s) (o := none) (s := s) (idx := []) (hts _ wr_4)
  exact ⟨c, fun n z => ⟨fun k h => (by cases h), k, h3, comp, h4⟩, k, comp, h3, h4, h1, h5⟩
theorem wr_5 : Cond.arrayOver (.object "ZigzagTablets$Column") ∈ lw_tbl := (zt_2 _ (zpn (i := 59) rfl))
theorem z_arr5 {s : State} {A : Array Value} (hts : ∀ w ∈ lw_tbl, w.before A s = true) : ∃ cA : ClassId, ArrOfT s cA (.object "ZigzagTablets$Column") ∧ va_RA s cA (.object "ZigzagTablets$Column") := by
  obtain ⟨comp, c, k, h1, h2, h3, h4, h5⟩ := Cond.arrayOver_spec (args := A) (first := s) (o := none) (s := s) (idx := []) (hts _ wr_5)
  exact ⟨c, fun n z => ⟨fun k h => (by cases h), k, h3, comp, h4⟩, k, comp, h3, h4, h1, h5⟩
/-! the constant texts -/
set_option maxRecDepth 100000 in
theorem z_refs : ∀ w ∈ zstr.map (fun q => Cond.stringRef q.1 q.2.1 q.2.2), w ∈ lw_tbl := fun w hw => goodIn_pl (big := lw_tbl) (zstr.map (fun q => Cond.stringRef q.1 q.2.1 q.2.2)) [758, 823, 836, 853, 866, 871, 872, 873, 882, 883, 884, 885, 886, 891, 900, 901, 906, 907, 908, 909, 922, 927, 936, 937, 938, 939, 940, 945, 946, 947, 952, 1248, 1249, 1250, 1251, 1252, 1253] (by decide +kernel) w hw
def zsk (i : Nat) : Nat := (zstr.getD i ("", 0, "")).2.1
def ztxt (i : Nat) : Term := .string "ZigzagTablets$Reader" (zsk i)
theorem z_own : ∀ q ∈ zstr, q.1 = "ZigzagTablets$Reader" := by decide +kernel
theorem z_lens : ∀ i : Nat, i < 37 → zstL.getD i 0 = (zstB.getD i []).length ∧ zstL.getD i 0 < 1000 := by decide +kernel
def zbl (t : Term) (B : List Int32) : List Cond := .exactly t "java/lang/String" :: .eq (.field t "java/lang/String" "coder" "B") (.int 0) :: .arrayOf (.field t "java/lang/String" "value" "[B") .byte :: .eq (.length (.field t "java/lang/String" "value" "[B")) (.int (Int32.ofNat B.length)) :: (List.range B.length).map (fun j => .eq (.elem (.field t "java/lang/String" "value" "[B") (.int (Int32.ofNat j))) (.int (B.getD j 0)))
set_option maxRecDepth 100000 in
theorem z_flat : (flatC (Jvm.Cond.and given_1 narrow_1)).drop 33 = (List.range 37).flatMap (fun i => zbl (ztxt i) (zstB.getD i [])) := by decide +kernel
theorem z_in {i : Nat} (hi : i < 37) {w : Cond} (hw : w ∈ zbl (ztxt i) (zstB.getD i [])) : w ∈ flatC (Jvm.Cond.and given_1 narrow_1) := List.mem_of_mem_drop (i := 33) (by rw [z_flat]; exact List.mem_flatMap.mpr ⟨i, List.mem_range.mpr hi, hw⟩)
theorem z_texts {s : State} {args : Array Value} {Ad : Nat → Prop} (hs : ∀ w ∈ flatC (Jvm.Cond.and given_1 narrow_1), w.before args s = true) (hA : ∀ a : Nat, a < s.heap.size → ¬ Ad a) : ∃ adK adV : Nat → Nat, ∀ i : Nat, i < 37 → (ztxt i).eval args s none [] s = some (.ref (adK i)) ∧ va_O "java/lang/String" (adK i) Ad s s.heap ∧ va_OF "java/lang/String" "coder" "B" (.int 0) (adK i) Ad s s.heap ∧ va_OF "java/lang/String" "value" "[B" (.ref (adV i)) (adK i) Ad s s.heap ∧ va_T .byte (adV i) (zstL.getD i 0) (fun j => .int ((zstB.getD i []).getD j 0)) Ad s s.heap := by
  have h0 : ∀ i : Nat, ∃ q : Nat × Nat, i < 37 → (ztxt i).eval args s none [] s = some (.ref q.1) ∧ va_O "java/lang/String" q.1 Ad s s.heap ∧ va_OF "java/lang/String" "coder" "B" (.int 0) q.1 Ad s s.heap ∧ va_OF "java/lang/String" "value" "[B" (.ref q.2) q.1 Ad s s.heap ∧ va_T .byte q.2 (zstL.getD i 0) (fun j => .int ((zstB.getD i []).getD j 0)) Ad s s.heap := by
    intro i
    by_cases hi : i < 37
    · have hl := z_lens i hi
      have hw : ∀ w ∈ zbl (ztxt i) (zstB.getD i []), w.before args s = true := fun w hw => hs w (z_in hi hw)
      have e1 := hw _ List.mem_cons_self
      have e2 := hw _ (List.mem_cons_of_mem _ List.mem_cons_self)
      have e3 := hw _ (List.mem_cons_of_mem _ (List.mem_cons_of_mem _ List.mem_cons_self))
      have e4 := hw _ (List.mem_cons_of_mem _ (List.mem_cons_of_mem _ (List.mem_cons_of_mem _ List.mem_cons_self)))
      obtain ⟨a, c, cA, kA, q1, q2, q3, q4, q5, q6, -⟩ := Cond.exactly_spec (args := args) (first := s) (o := none) (s := s) (idx := []) (t := ztxt i) (cls := "java/lang/String") e1
      obtain ⟨t, ht, hT⟩ := va_Tof (N := zstL.getD i 0) (f := fun j => .int ((zstB.getD i []).getD j 0)) (A := Ad) (by omega) e3 (by rw [hl.1]; exact va_eqt e4) (fun j hj => va_eqt (hw _ (List.mem_cons_of_mem _ (List.mem_cons_of_mem _ (List.mem_cons_of_mem _ (List.mem_cons_of_mem _ (List.mem_map.mpr ⟨j, List.mem_range.mpr (by omega), rfl⟩))))))) hA
      exact ⟨(a, t), fun _ => ⟨q1, ⟨cA, q3, q5, by rw [q6]; exact q2, hA a (Array.getElem?_eq_some_iff.mp q3).1⟩, vk_OFof q1 (va_eqt e2) hA, vk_OFof q1 ht hA, hT⟩⟩
    · exact ⟨(0, 0), fun h => absurd h hi⟩
  obtain ⟨ad, had⟩ := Classical.axiomOfChoice h0
  exact ⟨fun i => (ad i).1, fun i => (ad i).2, had⟩
theorem wz_1 : Cond.laysStatic "java/lang/String" "COMPACT_STRINGS" "Z" ∈ lw_tbl := (zt_3 _ (zpn (i := 154) rfl))
theorem wz_2 : Cond.laysStatic "jdk/internal/util/Preconditions" "SIOOBE_FORMATTER" "Ljava/util/function/BiFunction;" ∈ lw_tbl := (zt_3 _ (zpn (i := 170) rfl))
theorem wz_3 : Cond.initialized "java/lang/String" ∈ lw_tbl := (zt_1 _ (zpn (i := 16) rfl))
theorem wz_4 : Cond.initialized "jdk/internal/util/Preconditions" ∈ lw_tbl := (zt_1 _ (zpn (i := 18) rfl))
theorem wg_1 : Cond.eq (.static "java/lang/String" "COMPACT_STRINGS" "Z") (.int 1) ∈ flatC (Jvm.Cond.and given_1 narrow_1) := by decide +kernel
theorem wg_2 : Cond.isRef (.static "jdk/internal/util/Preconditions" "SIOOBE_FORMATTER" "Ljava/util/function/BiFunction;") ∈ flatC (Jvm.Cond.and given_1 narrow_1) := by decide +kernel
/-! THE CLAIM OUT OF ONE WALK OF THE LAW'S BODY. Your part is whole_start (and what it stands on); all else here is the same for every law, but numbers. -/
def R_law : String := "ZigzagTabletsLaw"
def lw_P (b : Addr) (xs : List Int32) (args : Array Value) (s : State) : Prop := args = #[.ref b] ∧ s.IntsAt b xs ∧ xs.length ≤ 3072 ∧ (Jvm.Cond.and given_1 narrow_1).before args s = true
def lw_Q (_ : Array Value) (s : State) (o : Outcome) (t : State) : Prop := o = .returned (some (.int 1)) ∧ Framed s o t [] 600000 7302250
def lw_Z (below : List Frame) (a : Array Value) (s : State) : State → Prop := fun t => ∃ o, t.status = .running ∧ Ended t below o ∧ lw_Q a s o t
/-- the law's own end, with 1 on the stack, nothing written that was there before, its room as the claim has it -/
theorem lw_ret {p : Program} {l : Launch} {e : Env} {s : State} {m : MethodId} {below : List Frame} {meth : Method} {c : Code} {b : Nat} (hx : p.tables.exec = Jvm.exec) (hb : c.code = code) (hr : meth.sig.returnType = ret) (hlocks : meth.locks = false) {pc : Nat} {H : Heap} {ls : Array Slot} (hdg : decode code pc = .ok (.ireturn, 1)) : W p l e room_1 s m #[Value.ref b] below meth c H [] 600000 7302250 (lw_Z below #[Value.ref b] s) (F0 m pc ls [.int 1]) := by
  intro T hT X
  obtain ⟨fs, hret, hrun, hended, hW, hframe⟩ := X.leave (v := some (.int 1)) (hlocks := hlocks) (fun h => by rw [hr] at h; cases h)
  have hmeth' : T.vm.method? m = some meth := X.method'
  refine ⟨T.setFrames fs, ?_, .returned (some (.int 1)), hrun, hended, rfl, ⟨_, rfl⟩, hW, hframe⟩
  jvm_step X.here [X.here.top, hx, hb, hdg, hmeth', hr, ret, narrow_b1]
  (try refine ⟨rfl, ?_⟩); (try refine ⟨rfl, ?_⟩)
  first | (intro acts; rw [hret _ acts rfl rfl rfl]) | rw [hret _ _ rfl rfl rfl]
  exact Steps.refl _
/-- what holds at the law's entry: the machine, the code, the tables' words (any of lw_tbl by 'hts w (by decide +kernel)'), the script of L ints xs at the cell b, what the Statement gives of the start (any of its parts by flat_of_before) -/
def lw_At (p : Program) (s : State) (m : MethodId) (meth : Method) (c : Code) (b L : Nat) (xs : Nat → Int32) : Prop :=
  p.tables.exec = Jvm.exec ∧ c.code = code ∧ meth.sig.returnType = ret ∧ c.maxLocals = 4 ∧ s.vm.findClass R_law = some m.cls ∧ (∀ w ∈ lw_tbl, w.before #[Value.ref b] s = true) ∧ va_X b L xs s s.heap ∧ b < s.heap.size ∧ meth.locks = false ∧ (Jvm.Cond.and given_1 narrow_1).before #[Value.ref b] s = true
set_option maxRecDepth 100000 in
set_option maxHeartbeats 4000000 in
theorem whole_start {p : Program} {e : Env} {s : State} {m : MethodId} {below : List Frame} {meth : Method} {c : Code} (l : Launch) (hflags : l.flags = flags0) {b L : Nat} {xs : Nat → Int32} (hL : L ≤ 3072) (C0 : lw_At p s m meth c b L xs) : W p l e room_1 s m #[Value.ref b] below meth c s.heap [] 0 0 (lw_Z below #[Value.ref b] s) (entryFrame m ([Value.ref b] : List Value).toArray 4) := by
  obtain ⟨hx, hb, hr, hml, hown, hts, hX, hbl, hlocks, hgv⟩ := id C0
  have hfl := flat_of_before _ hgv
  obtain ⟨dC, dI, hK⟩ := z_known hts
  obtain ⟨a0, hr0⟩ := z_arr0 hts
  obtain ⟨a1, hr1⟩ := z_arr1 hts
  obtain ⟨a2, hr2⟩ := z_arr2 hts
  obtain ⟨a3, hr3⟩ := z_arr3 hts
  obtain ⟨a4, hr4⟩ := z_arr4 hts
  obtain ⟨a5, hr5⟩ := z_arr5 hts
  have hA : ∀ a : Nat, a < s.heap.size → ¬ (fun q : Nat => s.heap.size ≤ q) a := fun a ha h => absurd ha (Nat.not_lt.mpr h)
  obtain ⟨adK, adV, hT⟩ := z_texts hfl hA
  have hZ1 := va_Zof (hts _ wz_1) (hts _ wz_3) (va_eqi (hfl _ wg_1)) hA
  have hZ2 : ∃ fa : Nat, va_Z "jdk/internal/util/Preconditions" "SIOOBE_FORMATTER" "Ljava/util/function/BiFunction;" (.ref fa) (fun q : Nat => s.heap.size ≤ q) s s.heap ∨ va_Z "jdk/internal/util/Preconditions" "SIOOBE_FORMATTER" "Ljava/util/function/BiFunction;" .null (fun q : Nat => s.heap.size ≤ q) s s.heap := by
    rcases va_Zqof (hts _ wz_2) (hts _ wz_4) (hfl _ wg_2) hA with h | ⟨t, h⟩
    · exact ⟨0, Or.inr h⟩
    · exact ⟨t, Or.inl h⟩
  obtain ⟨fa, hZ2⟩ := hZ2
  let G : zG := ((l, (dC, dI), fun i => match i with | 0 => a0 | 1 => a1 | 2 => a2 | 3 => a3 | 4 => a4 | _ => a5), (s.heap.size, b), (fun i => if i = 500 then fa else adK i), adV)
  have hE : zE G #[Value.ref b] s := by
    refine ⟨fun w hw _ => hts w hw, fun i q hq => ?_, fun i hi => ?_, hZ1, hZ2⟩
    · have hi : i < 37 := (List.getElem?_eq_some_iff.mp hq).1
      have hm := List.mem_of_getElem? hq
      have e1 : q.1 = "ZigzagTablets$Reader" := z_own q hm
      have e2 : zsk i = q.2.1 := by unfold zsk; rw [List.getD_eq_getElem?_getD, hq]; rfl
      have e3 : G.2.2.1 i = adK i := if_neg (by omega)
      rw [e3]
      refine vk_R.of (hts _ (z_refs _ (List.mem_map.mpr ⟨q, hm, rfl⟩))) ?_
      rw [e1, ← e2]
      exact (hT i hi).1
    · have hi : i < 37 := hi
      have e3 : G.2.2.1 i = adK i := if_neg (by omega)
      rw [e3]
      exact (hT i hi).2
  have hC : zC G (y_Law_law, 2048, 0) (600000, 7302250, 0, 0) p room_1 s m #[Value.ref b] meth c := ⟨hx, hb, hml, hown, fun h => absurd h (by decide), by decide, by decide, by decide, by decide, hE⟩
  have hW : zW G 0 (zB (fun j => (xs j.toNat).toInt) L) s s.heap := by
    refine ⟨⟨fun k q hq => hK k q hq, fun k q hq => ?_⟩, fun k q hq => ?_, ?_, Int.le_refl 0, fun o j ho => ?_, fun o k h1 h2 => absurd h2 (Nat.not_le.mpr h1), hbl, ?_, ?_, ?_, fun j => ?_⟩
    · match k with
      | 0 => cases hq; exact hr0
      | 1 => cases hq; exact hr1
      | 2 => cases hq; exact hr2
      | 3 => cases hq; exact hr3
      | 4 => cases hq; exact hr4
      | 5 => cases hq; exact hr5
      | k + 6 => simp [ztys] at hq
    · have hq : ([] : va_W)[k]? = some q := hq
      simp at hq
    · show (s.heap.size : Int) = (s.heap.size : Int) + 0
      omega
    · have e : ∀ k, zB (fun j => (xs j.toNat).toInt) L o k = 0 := fun k => zB_0 (by omega)
      rw [e]
      refine ⟨?_, fun _ => rfl⟩
      show zok 0 (ztag o j, 0)
      unfold zok
      split
      · unfold zI; omega
      · unfold zL; omega
      · exact Int.le_refl 0
    · have e : (fun j : Nat => Int32.ofInt (zB (fun j => (xs j.toNat).toInt) L (-1) j)) = xs := funext fun j => by
        show Int32.ofInt (xs ((j : Int)).toNat).toInt = xs j
        rw [Int.toNat_natCast]
        exact Int32.ofInt_toInt _
      rw [e]
      exact hX
    · exact Int.natCast_nonneg L
    · show (L : Int) ≤ 3072
      omega
    · exact zi_of (xs j.toNat)
  have hR : zRet G (y_Law_law, 2048, 0) (600000, 7302250, 0, 0) p e room_1 s m #[Value.ref b] below meth c (lw_Z below #[Value.ref b] s) (fun r _ => r = 1) := by
    intro pc H locs cells slots ls r M hd hW' hS hrok hQ hc hs
    subst hQ
    exact va_forget hS.2.2 (W.widen hc hs (lw_ret hx hb hr hlocks hd))
  have hl := lv_entry ([.ref b]) (n := 4) (Nat.le_of_ble_eq_true rfl)
  rw [lg_entry_eq]
  exact w_start (G := G) (Int.natCast_nonneg L) (by omega) (fun j => zi_of _) p e room_1 s m #[Value.ref b] below meth c _ hC hR s.heap [] 0 0 _ hW va_S.rf hl (fun q hq => by
    rw [List.mem_singleton.mp hq]
    show (-1 : Int) ≤ 0
    decide) (fun v hv => by cases hv) (Nat.le_refl _) (Nat.le_refl _) (by decide) (by decide)
-- ===== YOUR PART ENDS =====
set_option maxHeartbeats 4000000 in
theorem lw_walk (l : Launch) (hflags : l.flags = flags0) (b : Addr) (xs : List Int32) : MetFree l x (headSpec (Jvm.Cond.code x code maxLocals ret :: tables_1) room_1) (lw_P b xs) (fun _ _ _ _ _ => True) lw_Q := by
  refine MetFree.of_bodyS (code := code) (maxLocals := maxLocals) (ret := ret) (by decide) ?_ ?_
  · intro args s m h hn
    obtain ⟨meth, c, h1, h2, h3, h4, h5, h6, -, -⟩ := Cond.code_spec hn (atoms_spec (ws := Jvm.Cond.code x code maxLocals ret :: tables_1) h _ List.mem_cons_self)
    exact ⟨meth, c, h1, h2, h3, h4, h5, h6⟩
  · intro p e s m args below meth c s₁ B hml0 hP _
    obtain ⟨rfl, hx, hbd, hgv⟩ := hP
    obtain ⟨scr, harrAt, hlist, hof, hsmall⟩ := hx
    obtain ⟨hcb, hkn, -, -⟩ := State.arrayAt?_spec harrAt
    have hown : s.vm.findClass R_law = some m.cls := findClass_of_methodNamed B.named
    have hts0 : ∀ c ∈ (Jvm.Cond.code x code maxLocals ret :: tables_1), c.before #[Value.ref b] s = true := atoms_spec (ws := Jvm.Cond.code x code maxLocals ret :: tables_1) B.pre
    have hts : ∀ w ∈ lw_tbl, w.before #[Value.ref b] s = true := k2_hts_sels lw_privs (fun w hw => hts0 w (List.mem_cons_of_mem _ hw)) lw_privs_ok
    have hml : c.maxLocals = 4 := B.maxLocals_eq (hts0 _ List.mem_cons_self)
    have X₀ : Stand p l e room_1 s m #[Value.ref b] below meth c s₁ [] 0 0 := Stand.of_body B
    have hh0 : s₁.heap = s.heap := by rw [B.state]; rfl
    have hsz : scr.slots.size = xs.length := by rw [← Array.length_toList, hlist, List.length_map]
    have hval : ∀ j : Nat, j < xs.length → scr.slots[j]? = some (.int (xs.getD j 0)) := fun j hj => by
      rw [← Array.getElem?_toList, hlist]
      simp [hj]
    have hbl : b < s.heap.size := (Array.getElem?_eq_some_iff.mp hcb).1
    have hX : va_X b xs.length (fun j => xs.getD j 0) s s.heap := ⟨scr, hcb, hof, hkn, hsz, hval⟩
    have K : W p l e room_1 s m #[Value.ref b] below meth c s₁.heap [] 0 0 (lw_Z below #[Value.ref b] s) (entryFrame m ([Value.ref b] : List Value).toArray 4) := by
      rw [hh0]
      exact whole_start l hflags hbd ⟨B.exec, B.bytes, B.returns, hml, hown, hts, hX, hbl, B.notSynchronized, hgv⟩
    obtain ⟨t, a1, o, b1, b2, b3⟩ := K s₁ rfl X₀
    exact ⟨t, o, a1, b1, b2, b3⟩
theorem lw_pre_spec {args : Array Value} {s : State} (h : (Jvm.Cond.and given_1 narrow_1).before args s = true) (hr : rest_1_c.before args s = true) : ∃ (b : Addr) (xs : List Int32), lw_P b xs args s := by
  have hs := flat_of_before _ h
  have hq := flat_of_before _ hr
  have hc : (Cond.count 1).before args s = true := hs _ (by decide +kernel)
  have harr : (Cond.arrayOf (.arg 0) .int).before args s = true := hs _ (by decide +kernel)
  have hle : (Cond.le (.length (.arg 0)) (.int 3072)).before args s = true := hs _ (by decide +kernel)
  have hlen : (Cond.isInt (.length (.arg 0))).before args s = true := hq _ (by decide +kernel)
  have hall : (Cond.all (.arg 0) (.isInt (.elem (.arg 0) (.index 0)))).before args s = true := hq _ (by decide +kernel)
  obtain ⟨b, xs, hb, hx⟩ := State.ints_of_pre rfl harr hlen hall
  have hsm : xs.length < 2 ^ 31 := hx.choose_spec.2.2.2
  have hev : (Term.length (.arg 0)).eval args s none [] s = some (.int xs.length.toInt32) := hx.length_eval hb
  have hv := Cond.le_ints hev (show (Term.int 3072).eval args s none [] s = some (.int 3072) from rfl)
  have hd : xs.length.toInt32 ≤ 3072 := by
    simpa [Cond.before, Cond.holds, hv] using hle
  have hN : xs.length ≤ 3072 := (Int32.ofNat_le_ofNat hsm (by decide)).mp (show Int32.ofNat xs.length ≤ Int32.ofNat 3072 from hd)
  exact ⟨b, xs, Cond.one_arg hc (show args[0]? = some (.ref b) from hb), hx, hN, h⟩
theorem lw_comes (l : Launch) (hflags : l.flags = flags0) : Comes l x (Jvm.Cond.code x code maxLocals ret :: tables_1) room_1 (fun tb e args s => Calls_1 tb e args s ∧ rest_1 tb e args s ∧ Pre_1 tb e args s)
    (fun _ _ args s o t => lw_Q args s o t) := by
  intro p e ha hc hk s m args below hf hfit hheap happ hpre
  obtain ⟨b, xs, hP⟩ := lw_pre_spec hpre.2.2 hpre.2.1
  obtain ⟨k, o, h1, h2, h3, hQ⟩ := lw_walk l hflags b xs p e ha hc hk s m args below hf ((Spec.applies_iff_loose hf).mp happ).1 hP trivial
  exact ⟨k, o, h1, h2, h3, hQ⟩
theorem lw_frame {s t : State} {o : Outcome} {args : Array Value} (h : Framed s o t [] 600000 7302250) :
    Framed s o t (fieldLocs frame_1_writes args s ++ arrayLocs frame_1_arrays args s ++ staticLocs frame_1_statics s) 600000 7302250 := h
theorem lw_limb (L : Cond) (hL : ∀ (args : Array Value) (s t : State), L.after args s (.returned (some (.int 1))) t = true) :
    ArmFor flags0 classFile x code maxLocals ret World_1 tables_1 room_1 Calls_1 rest_1 Pre_1
      (fun tb e a s o t => postC L tb e a s o t ∧ Framed s o t (fieldLocs frame_1_writes a s ++ arrayLocs frame_1_arrays a s ++ staticLocs frame_1_statics s) 600000 7302250) := by
  intro l hflags _ _ p e ha hc hk s m args below hf hfit hheap happ hpre
  obtain ⟨k, o, h1, h2, h3, rfl, hF⟩ := lw_comes l hflags p e ha hc hk s m args below hf hfit hheap happ hpre
  exact ⟨k, _, h1, h2, h3, hL args s _, lw_frame hF⟩
theorem i_vc : Claimed_1_1 ∧ Claimed_1_2 := ⟨lw_limb limb_1_1 (fun args s t => by simp [limb_1_1, Cond.after, Cond.holds, Cond.value]), lw_limb limb_1_2 (fun args s t => Cond.after_iff.mpr (by
  first | (rw [show limb_1_2 = Cond.eq .result (.int 1) from rfl, Cond.eq_ints (x := 1) (y := 1) rfl rfl]; simp; done) | (simp [limb_1_2, Cond.value, Term.eval]; done)))⟩
