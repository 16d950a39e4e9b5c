/-! A SMALLER MACHINE: numbers in place of words, objects by their number (1 the first that the law makes), null 0; what a store is, what a method's body reaches (zX), what a call does (zCt). -/
abbrev zV : Type := Nat × Int
abbrev zM : Type := Int → Int → Int
/-- (launch, classes, array classes), (where the law's first object lies, the script), the constant texts, their bytes -/
abbrev zG : Type := (Launch × va_G × (Nat → ClassId)) × (Nat × Nat) × (Nat → Nat) × (Nat → Nat)
abbrev zYt : Type := MethodName × ByteArray × Nat × Option FieldType
def zI (x : Int) : Prop := -2147483648 ≤ x ∧ x ≤ 2147483647
def zL (x : Int) : Prop := -9223372036854775808 ≤ x ∧ x ≤ 9223372036854775807
def zro (G : zG) (x : Int) : Option Nat :=
  if x = 0 then none else if 0 < x then some (G.2.1.1 + (x.toNat - 1)) else if x = -1 then some G.2.1.2
  else if x % 2 = 0 then some (G.2.2.1 ((-x).toNat / 2 - 1)) else some (G.2.2.2 ((-x).toNat / 2 - 1))
def zcv (G : zG) (v : zV) : Value := match v.1 with
  | 0 => .int (Int32.ofInt v.2)
  | 1 => .long (Int64.ofInt v.2)
  | _ => va_rf (zro G v.2)
def zok (n : Int) (v : zV) : Prop := match v.1 with
  | 0 => zI v.2
  | 1 => zL v.2
  | _ => v.2 ≤ n
def zK (o : Int) : Nat × Int := if o ≤ 0 then (999, 0) else zkl.getD (o.toNat - 1) (999, 0)
def zFn (o k : Int) : Int := if o ≤ 0 then 0 else if k < 0 then 0 else (zfl.getD (o.toNat - 1) []).getD k.toNat 0
def zft (ci k : Nat) : Nat := (zftl.getD ci []).getD k 0
def zat (ai : Nat) : Nat := match ai with
  | 1 => 1
  | 4 => 2
  | 5 => 2
  | _ => 0
def zkt (q : Nat × Int) (j : Int) : Nat := if q.1 < 100 then zft q.1 j.toNat else zat (q.1 - 100)
def zkf (q : Nat × Int) (j : Int) : Nat := if j < 0 then 0 else if q.1 < 100 then (zfnl.getD q.1 []).getD j.toNat 0 else if q.1 = 102 then 2 else if q.1 = 104 then 1 else if q.1 = 105 then 1 else 0
def ztag (o j : Int) : Nat := zkt (zK o) j
def zlv (o j : Int) : Nat := zkf (zK o) j
def zarr (G : zG) (ai : Nat) (f : Int → Int) : (Nat → Int32) ⊕ (Nat → Int64) ⊕ (Nat → UInt32) ⊕ (Nat → UInt64) ⊕ (Nat → Option Nat) := match ai with
  | 1 => .inr (.inl (fun j => Int64.ofInt (f j)))
  | 4 => .inr (.inr (.inr (.inr (fun j => zro G (f j)))))
  | 5 => .inr (.inr (.inr (.inr (fun j => zro G (f j)))))
  | _ => .inl (fun j => Int32.ofInt (f j))
def zfs (G : zG) (ci : Nat) (f : Int → Int) : List Value := (List.range (zftl.getD ci []).length).map (fun (j : Nat) => zcv G (zft ci j, f j))
def zcell (G : zG) (q : Nat × Int) (f : Int → Int) : va_E := if q.1 < 100 then .inr (q.1, zfs G q.1 f) else .inl (G.1.2.2 (q.1 - 100), q.2.toNat, zarr G (q.1 - 100) f)
def zws (G : zG) (M : zM) : va_W := (List.range (M 0 0).toNat).map (fun (i : Nat) => (G.2.1.1 + i, zcell G (zK (i + 1)) (M (i + 1))))
def zwr (M : zM) (o k v : Int) : zM := fun a b => if a = o ∧ b = k then v else M a b
def zAd (G : zG) : Nat → Prop := fun q => G.2.1.1 ≤ q
def zMok (M : zM) : Prop := ∀ o j : Int, 1 ≤ o → zok (M 0 0) (ztag o j, M o j) ∧ (M 0 0 < o → M o j = 0)
def zFin (sl : Nat) (M : zM) : Prop := ∀ o k : Int, 0 < zlv o k → zlv o k ≤ sl → M o k = zFn o k
def ztys (G : zG) : List (ClassId × FieldType) := [(G.1.2.2 0, .int), (G.1.2.2 1, .long), (G.1.2.2 2, .char), (G.1.2.2 3, .boolean), (G.1.2.2 4, .object "ZigzagTablets$Line"), (G.1.2.2 5, .object "ZigzagTablets$Column")]
def zScr (G : zG) (M : zM) (s : State) (H : Heap) : Prop := G.2.1.2 < G.2.1.1 ∧ va_X G.2.1.2 (M (-2) 0).toNat (fun j => Int32.ofInt (M (-1) j)) s H ∧ 0 ≤ M (-2) 0 ∧ M (-2) 0 ≤ 3072 ∧ ∀ j, zI (M (-1) j)
/-- the world that the store M tells, in the heap H -/
def zW (G : zG) (sl : Nat) (M : zM) (s : State) (H : Heap) : Prop :=
  va_K G.1.2.1 zcl (ztys G) s ∧ va_P G.1.2.1 zcl (zws G M) H ∧ (H.size : Int) = G.2.1.1 + M 0 0 ∧ 0 ≤ M 0 0 ∧ zMok M ∧ zFin sl M ∧ zScr G M s H
def zgw : Cond → Bool
  | .methodLinkNest _ _ _ _ => true
  | .declares _ => true
  | .arrayOver (.object _) => true
  | w => goodWord w
/-- what stays of the tables, the constant texts, two statics of the library -/
def zE (G : zG) (args : Array Value) (s : State) : Prop :=
  (∀ w ∈ lw_tbl, zgw w = true → w.before args s = true) ∧ (∀ (i : Nat) (q : String × Nat × String), zstr[i]? = some q → vk_R q.1 q.2.1 q.2.2 (G.2.2.1 i) s) ∧ (∀ i : Nat, i < zstr.length → va_O "java/lang/String" (G.2.2.1 i) (zAd G) s s.heap ∧ va_OF "java/lang/String" "coder" "B" (.int 0) (G.2.2.1 i) (zAd G) s s.heap ∧ va_OF "java/lang/String" "value" "[B" (.ref (G.2.2.2 i)) (G.2.2.1 i) (zAd G) s s.heap ∧ va_T .byte (G.2.2.2 i) (zstL.getD i 0) (fun j => .int ((zstB.getD i []).getD j 0)) (zAd G) s s.heap) ∧
  va_Z "java/lang/String" "COMPACT_STRINGS" "Z" (.int 1) (zAd G) s s.heap ∧ (va_Z "jdk/internal/util/Preconditions" "SIOOBE_FORMATTER" "Ljava/util/function/BiFunction;" (.ref (G.2.2.1 500)) (zAd G) s s.heap ∨ va_Z "jdk/internal/util/Preconditions" "SIOOBE_FORMATTER" "Ljava/util/function/BiFunction;" .null (zAd G) s s.heap)
/-- a: method, how many frames may stand above it, which references stay; u: its room in cells and slots, and what of it is used -/
def zC (G : zG) (a : zYt × Nat × Nat) (u : Nat × Nat × Nat × Nat) (p : Program) (R : Room) (s : State) (m : MethodId) (args : Array Value) (meth : Method) (c : Code) : Prop :=
  p.tables.exec = Jvm.exec ∧ c.code = a.1.2.1 ∧ c.maxLocals = a.1.2.2.1 ∧ s.vm.findClass a.1.1.cls = some m.cls ∧ (a.1.1.name = "<init>" → meth.name = "<init>") ∧ a.2.1 ≤ R.frames ∧ 41 * a.2.1 ≤ R.locals ∧ u.1 ≤ R.cells ∧ u.2.1 ≤ R.slots ∧ zE G args s
def zri : Option FieldType → Instr
  | none => .return_
  | some .long => .lreturn
  | some _ => .ireturn
def zrt : Option FieldType → Nat
  | some .long => 1
  | _ => 0
def zrs (r : Option FieldType) (x : Int) : List zV := match r with
  | none => []
  | some _ => [(zrt r, x)]
def zrok (r : Option FieldType) (x : Int) : Prop := match r with
  | none => x = 0
  | some .long => zL x
  | some .int => zI x
  | some .boolean => x = 0 ∨ x = 1
  | some .char => 0 ≤ x ∧ x ≤ 65535
  | some .byte => 0 ≤ x ∧ x ≤ 127
  | some _ => False
def zRet (G : zG) (a : zYt × Nat × Nat) (u : Nat × Nat × Nat × Nat) (p : Program) (e : Env) (R : Room) (s : State) (m : MethodId) (args : Array Value) (below : List Frame) (meth : Method) (c : Code) (Qs : State → Prop) (Q : Int → zM → Prop) : Prop :=
  ∀ (pc : Nat) (H : Heap) (locs : List Loc) (cells slots : Nat) (ls : Array Slot) (r : Int) (M : zM), decode a.1.2.1 pc = .ok (zri a.1.2.2.2, 1) → zW G a.2.2 M s H → va_S (zAd G) s.heap H locs → zrok a.1.2.2.2 r → Q r M → cells ≤ u.1 → slots ≤ u.2.1 →
    W p G.1.1 e R s m args below meth c H locs cells slots Qs (F0 m pc ls ((zrs a.1.2.2.2 r).map (zcv G)))
/-- at one place of a method under way -/
def zY (G : zG) (a : zYt × Nat × Nat) (u : Nat × Nat × Nat × Nat) (p : Program) (e : Env) (R : Room) (s : State) (m : MethodId) (args : Array Value) (below : List Frame) (meth : Method) (c : Code) (Qs : State → Prop) (pc : Nat) (lv : List (Nat × zV)) (st : List zV) (M : zM) : Prop :=
  ∀ (H : Heap) (locs : List Loc) (cells slots : Nat) (ls : Array Slot), zW G a.2.2 M s H → va_S (zAd G) s.heap H locs → lv_has ls a.1.2.2.1 (lv.map (fun q => (q.1, zcv G q.2))) → (∀ q ∈ lv, zok (M 0 0) q.2) → (∀ v ∈ st, zok (M 0 0) v) → cells ≤ u.2.2.1 → slots ≤ u.2.2.2 → u.2.2.1 ≤ u.1 → u.2.2.2 ≤ u.2.1 →
    W p G.1.1 e R s m args below meth c H locs cells slots Qs (F0 m pc ls (st.map (zcv G)))
/-- from this place, with this store, the method comes to its end with an answer and a store of which Q holds -/
def zX (G : zG) (a : zYt × Nat × Nat) (u : Nat × Nat × Nat × Nat) (pc : Nat) (lv : List (Nat × zV)) (st : List zV) (M : zM) (Q : Int → zM → Prop) : Prop :=
  ∀ (p : Program) (e : Env) (R : Room) (s : State) (m : MethodId) (args : Array Value) (below : List Frame) (meth : Method) (c : Code) (Qs : State → Prop), zC G a u p R s m args meth c → zRet G a u p e R s m args below meth c Qs Q →
    zY G a u p e R s m args below meth c Qs pc lv st M
/-! the store and the world -/
theorem zwr_s (M : zM) (o k v : Int) : zwr M o k v o k = v := by simp [zwr]
theorem zwr_o (M : zM) {o k v a b : Int} (h : a ≠ o) : zwr M o k v a b = M a b := by simp [zwr, h]
theorem zwr_k (M : zM) {o k v a b : Int} (h : b ≠ k) : zwr M o k v a b = M a b := by simp [zwr, h]
theorem zwr_i (M : zM) (o k v a b : Int) : zwr M o k v a b = if a = o ∧ b = k then v else M a b := rfl
theorem zK_pos {o : Int} {q : Nat × Int} (h : zK o = q) (hq : q.1 ≠ 999) : 1 ≤ o := by
  unfold zK at h
  split at h
  · subst h; exact absurd rfl hq
  · omega
theorem zws_get (G : zG) (M : zM) {o : Int} (h1 : 1 ≤ o) (h2 : o ≤ M 0 0) : (zws G M)[o.toNat - 1]? = some (G.2.1.1 + (o.toNat - 1), zcell G (zK o) (M o)) := by
  have h3 : o.toNat - 1 < (M 0 0).toNat := by omega
  have h4 : ((o.toNat - 1 : Nat) : Int) + 1 = o := by omega
  simp only [zws, List.getElem?_map, List.getElem?_range h3, Option.map_some, h4]
theorem zro_pos (G : zG) {o : Int} (h : 1 ≤ o) : zro G o = some (G.2.1.1 + (o.toNat - 1)) := by
  unfold zro
  rw [if_neg (by omega), if_pos (by omega)]
theorem zcv_pos (G : zG) {o : Int} (h : 1 ≤ o) : zcv G (2, o) = .ref (G.2.1.1 + (o.toNat - 1)) := by
  show va_rf (zro G o) = _
  rw [zro_pos G h]; rfl
theorem zws_D (G : zG) (M : zM) : va_D (zAd G) (zws G M) := by
  have key : ∀ (k : Nat) (q : Nat × va_E), (zws G M)[k]? = some q → q.1 = G.2.1.1 + k := by
    intro k q hk
    simp only [zws, List.getElem?_map] at hk
    cases hr : (List.range (M 0 0).toNat)[k]? with
    | none => rw [hr] at hk; cases hk
    | some i =>
      rw [hr] at hk
      obtain ⟨h1, h2⟩ := List.getElem?_eq_some_iff.mp hr
      rw [List.getElem_range] at h2
      subst h2
      cases hk
      rfl
  refine ⟨fun i j p q hi hj e => ?_, fun k q hk => ?_⟩
  · have a := key i p hi
    have b := key j q hj
    omega
  · show G.2.1.1 ≤ q.1
    rw [key k q hk]
    omega
theorem zws_set (G : zG) (M : zM) {o k v : Int} {e : va_E} (h1 : 1 ≤ o) (h2 : o ≤ M 0 0) (he : e = zcell G (zK o) (zwr M o k v o)) : (zws G M).set (o.toNat - 1) (G.2.1.1 + (o.toNat - 1), e) = zws G (zwr M o k v) := by
  subst he
  have h0 : zwr M o k v 0 0 = M 0 0 := zwr_o M (by omega)
  apply List.ext_getElem?
  intro i
  have h4 : ((o.toNat - 1 : Nat) : Int) + 1 = o := by omega
  by_cases hi : i = o.toNat - 1
  · subst hi
    rw [zws_get G (zwr M o k v) h1 (by omega), List.getElem?_set_self]
    simp [zws]
    omega
  · rw [List.getElem?_set_ne (Ne.symm hi)]
    simp only [zws, List.getElem?_map, h0]
    cases hr : (List.range (M 0 0).toNat)[i]? with
    | none => rfl
    | some j =>
      obtain ⟨h9, h5⟩ := List.getElem?_eq_some_iff.mp hr
      rw [List.getElem_range] at h5
      subst h5
      have h6 : zwr M o k v ((i : Int) + 1) = M ((i : Int) + 1) := by
        funext b
        exact zwr_o M (by omega)
      simp [h6]
