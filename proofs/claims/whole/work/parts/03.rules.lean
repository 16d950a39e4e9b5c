/-! numbers of 32 and 64 bits -/
theorem zi_add (x y : Int) : Int32.ofInt x + Int32.ofInt y = Int32.ofInt (x + y) := (Int32.ofInt_add x y).symm
theorem zi_sub (x y : Int) : Int32.ofInt x - Int32.ofInt y = Int32.ofInt (x - y) := (Int32.ofInt_sub x y).symm
theorem zi_mul (x y : Int) : Int32.ofInt x * Int32.ofInt y = Int32.ofInt (x * y) := (Int32.ofInt_mul x y).symm
theorem zl_add (x y : Int) : Int64.ofInt x + Int64.ofInt y = Int64.ofInt (x + y) := (Int64.ofInt_add x y).symm
theorem zl_sub (x y : Int) : Int64.ofInt x - Int64.ofInt y = Int64.ofInt (x - y) := (Int64.ofInt_sub x y).symm
theorem zl_mul (x y : Int) : Int64.ofInt x * Int64.ofInt y = Int64.ofInt (x * y) := (Int64.ofInt_mul x y).symm
theorem zi_to {x : Int} (h : zI x) : (Int32.ofInt x).toInt = x := Int32.toInt_ofInt_of_le (by have := h.1; omega) (by have := h.2; omega)
theorem zl_to {x : Int} (h : zL x) : (Int64.ofInt x).toInt = x := Int64.toInt_ofInt_of_le (by have := h.1; omega) (by have := h.2; omega)
theorem zi_of (x : Int32) : zI x.toInt := ⟨by have := Int32.le_toInt x; omega, by have := Int32.toInt_lt x; omega⟩
theorem zl_of (x : Int64) : zL x.toInt := ⟨by have := Int64.le_toInt x; omega, by have := Int64.toInt_lt x; omega⟩
theorem zi_inj {x y : Int} (hx : zI x) (hy : zI y) : Int32.ofInt x = Int32.ofInt y ↔ x = y := ⟨fun h => by rw [← zi_to hx, ← zi_to hy, h], fun h => by rw [h]⟩
theorem zl_inj {x y : Int} (hx : zL x) (hy : zL y) : Int64.ofInt x = Int64.ofInt y ↔ x = y := ⟨fun h => by rw [← zl_to hx, ← zl_to hy, h], fun h => by rw [h]⟩
theorem zi_lt {x y : Int} (hx : zI x) (hy : zI y) : Int32.ofInt x < Int32.ofInt y ↔ x < y := by rw [Int32.lt_iff_toInt_lt, zi_to hx, zi_to hy]
theorem zi_le {x y : Int} (hx : zI x) (hy : zI y) : Int32.ofInt x ≤ Int32.ofInt y ↔ x ≤ y := by rw [Int32.le_iff_toInt_le, zi_to hx, zi_to hy]
theorem zl_lt {x y : Int} (hx : zL x) (hy : zL y) : Int64.ofInt x < Int64.ofInt y ↔ x < y := by rw [Int64.lt_iff_toInt_lt, zl_to hx, zl_to hy]
theorem zI_0 : zI 0 := by unfold zI; omega
theorem zi_0 : (0 : Int32) = Int32.ofInt 0 := rfl
theorem zi_div {x y : Int} (hx : zI x) (hy : zI y) : Int32.ofInt x / Int32.ofInt y = Int32.ofInt (x.tdiv y) :=
  (Int32.ofInt_tdiv (by have := hx.1; show -2147483648 ≤ x; omega) (by have := hx.2; show x ≤ 2147483647; omega) (by have := hy.1; show -2147483648 ≤ y; omega) (by have := hy.2; show y ≤ 2147483647; omega)).symm
theorem zl_div {x y : Int} (hx : zL x) (hy : zL y) : Int64.ofInt x / Int64.ofInt y = Int64.ofInt (x.tdiv y) :=
  (Int64.ofInt_tdiv (by have := hx.1; show -9223372036854775808 ≤ x; omega) (by have := hx.2; show x ≤ 9223372036854775807; omega) (by have := hy.1; show -9223372036854775808 ≤ y; omega) (by have := hy.2; show y ≤ 9223372036854775807; omega)).symm
theorem zt_mod (x y : Int) : x - x.tdiv y * y = x.tmod y := by have h := Int.mul_tdiv_add_tmod x y; rw [Int.mul_comm] at h; omega
theorem zi_rem {x y : Int} (hx : zI x) (hy : zI y) : Int32.ofInt x - Int32.ofInt x / Int32.ofInt y * Int32.ofInt y = Int32.ofInt (x.tmod y) := by rw [zi_div hx hy, zi_mul, zi_sub, zt_mod]
theorem zl_rem {x y : Int} (hx : zL x) (hy : zL y) : Int64.ofInt x - Int64.ofInt x / Int64.ofInt y * Int64.ofInt y = Int64.ofInt (x.tmod y) := by rw [zl_div hx hy, zl_mul, zl_sub, zt_mod]
theorem zI_tmod {x y : Int} (hy : zI y) (h0 : y ≠ 0) : zI (x.tmod y) := by
  have h1 := Int.natAbs_tmod x y
  have h2 := Nat.mod_lt x.natAbs (Int.natAbs_pos.mpr h0)
  unfold zI at *
  omega
theorem zL_tmod {x y : Int} (hy : zL y) (h0 : y ≠ 0) : zL (x.tmod y) := by
  have h1 := Int.natAbs_tmod x y
  have h2 := Nat.mod_lt x.natAbs (Int.natAbs_pos.mpr h0)
  unfold zL at *
  omega
def zand (x y : Int) : Int := (Int32.ofInt x &&& Int32.ofInt y).toInt
def zor (x y : Int) : Int := (Int32.ofInt x ||| Int32.ofInt y).toInt
def zxor (x y : Int) : Int := (Int32.ofInt x ^^^ Int32.ofInt y).toInt
def zshl (x y : Int) : Int := (Int32.ofInt x <<< (Int32.ofInt y &&& 31)).toInt
def zshr (x y : Int) : Int := (Int32.ofInt x >>> (Int32.ofInt y &&& 31)).toInt
def zushr (x y : Int) : Int := ((Int32.ofInt x).toUInt32 >>> ((Int32.ofInt y).toUInt32 &&& Int32.toUInt32 31)).toInt32.toInt
def zland (x y : Int) : Int := (Int64.ofInt x &&& Int64.ofInt y).toInt
def zl2i (x : Int) : Int := (Int64.ofInt x).toInt32.toInt
def zcmp (x y : Int) : Int := if y < x then 1 else if x = y then 0 else -1
theorem zI_cmp (x y : Int) : zI (zcmp x y) := by unfold zcmp zI; split <;> (try split) <;> omega
theorem zc_cmp {x y : Int} (hx : zL x) (hy : zL y) : lg_cmp (Int64.ofInt x) (Int64.ofInt y) = Int32.ofInt (zcmp x y) := by
  unfold lg_cmp zcmp
  have h1 := zl_lt hy hx
  have h2 := zl_inj hx hy
  by_cases a : y < x
  · rw [if_pos (h1.mpr a), if_pos a]; rfl
  · rw [if_neg (fun z => a (h1.mp z)), if_neg a]
    by_cases b : x = y
    · rw [if_pos (h2.mpr b), if_pos b]; rfl
    · rw [if_neg (fun z => b (h2.mp z)), if_neg b]; rfl
theorem zcmp_le (x y : Int) : zcmp x y ≤ 0 ↔ x ≤ y := by unfold zcmp; split <;> (try split) <;> omega
theorem zcmp_lt (x y : Int) : zcmp x y < 0 ↔ x < y := by unfold zcmp; split <;> (try split) <;> omega
theorem zcmp_ge (x y : Int) : 0 ≤ zcmp x y ↔ y ≤ x := by unfold zcmp; split <;> (try split) <;> omega
theorem zcmp_gt (x y : Int) : 0 < zcmp x y ↔ y < x := by unfold zcmp; split <;> (try split) <;> omega
theorem zcmp_eq (x y : Int) : zcmp x y = 0 ↔ x = y := by unfold zcmp; split <;> (try split) <;> omega
theorem zi_ix {i : Int} {n : Int} (hi : zI i) (h0 : 0 ≤ i) (h : i < n) : vp_in (Int32.ofInt i) n.toNat := by
  rw [vp_in_iff, zi_to hi]
  omega
theorem zi_cl {i : Int} (hi : zI i) : (Int32.ofInt i).toNatClampNeg = i.toNat := by
  show (Int32.ofInt i).toInt.toNat = _
  rw [zi_to hi]
theorem zcat (G : zG) (v : zV) : (zcv G v).category = if v.1 = 1 then 2 else 1 := by
  obtain ⟨t, x⟩ := v
  match t with
  | 0 => rfl
  | 1 => rfl
  | k + 2 =>
    show (va_rf _).category = _
    rw [if_neg (by show ¬ k + 2 = 1; omega)]
    cases zro G x <;> rfl
def zst1 (lv : List (Nat × zV)) (i : Nat) (v : zV) : List (Nat × zV) := (i, v) :: lv.filter (fun q => !(q.1 == i) && !(q.1 + 1 == i && q.2.1 == 1))
def zst2 (lv : List (Nat × zV)) (i : Nat) (v : zV) : List (Nat × zV) := (i, v) :: lv.filter (fun q => !(q.1 == i) && (!(q.1 == i + 1) && !(q.1 + 1 == i && q.2.1 == 1)))
theorem zcat_b (G : zG) (v : zV) : ((zcv G v).category == 2) = (v.1 == 1) := by
  rw [zcat]
  by_cases h : v.1 = 1
  · simp [h]
  · simp [h]
theorem zst1_map (G : zG) (lv : List (Nat × zV)) (i : Nat) (v : zV) : (i, zcv G v) :: (lv.map (fun q => (q.1, zcv G q.2))).filter (fun q => !(q.1 == i) && !(q.1 + 1 == i && q.2.category == 2)) = (zst1 lv i v).map (fun q => (q.1, zcv G q.2)) := by
  unfold zst1
  rw [List.map_cons, List.filter_map]
  congr 2
  apply List.filter_congr
  intro q _
  simp only [Function.comp, zcat_b]
theorem zst2_map (G : zG) (lv : List (Nat × zV)) (i : Nat) (v : zV) : (i, zcv G v) :: (lv.map (fun q => (q.1, zcv G q.2))).filter (fun q => !(q.1 == i) && (!(q.1 == i + 1) && !(q.1 + 1 == i && q.2.category == 2))) = (zst2 lv i v).map (fun q => (q.1, zcv G q.2)) := by
  unfold zst2
  rw [List.map_cons, List.filter_map]
  congr 2
  apply List.filter_congr
  intro q _
  simp only [Function.comp, zcat_b]
theorem zst1_ok {n : Int} {lv : List (Nat × zV)} {i : Nat} {v : zV} (h : ∀ q ∈ lv, zok n q.2) (hv : zok n v) : ∀ q ∈ zst1 lv i v, zok n q.2 := by
  intro q hq
  rcases List.mem_cons.mp hq with rfl | hq
  · exact hv
  · exact h q (List.mem_filter.mp hq).1
theorem zst2_ok {n : Int} {lv : List (Nat × zV)} {i : Nat} {v : zV} (h : ∀ q ∈ lv, zok n q.2) (hv : zok n v) : ∀ q ∈ zst2 lv i v, zok n q.2 := by
  intro q hq
  rcases List.mem_cons.mp hq with rfl | hq
  · exact hv
  · exact h q (List.mem_filter.mp hq).1
theorem zlv_at {G : zG} {ls : Array Slot} {nL : Nat} {lv : List (Nat × zV)} (h : lv_has ls nL (lv.map (fun q => (q.1, zcv G q.2)))) {k i : Nat} {v : zV} (hk : lv[k]? = some (i, v)) : ls[i]? = some (.val (zcv G v)) :=
  lv_at h k (by rw [List.getElem?_map, hk]; rfl)
theorem zlv_ok {n : Int} {lv : List (Nat × zV)} (h : ∀ q ∈ lv, zok n q.2) {k i : Nat} {v : zV} (hk : lv[k]? = some (i, v)) : zok n v := h (i, v) (List.mem_of_getElem? hk)
theorem zdm {t : List (Nat × Instr × Nat)} {code : ByteArray} (h : ∀ q ∈ t, decode code q.1 = .ok (q.2.1, q.2.2)) (i : Nat) {pc len : Nat} {ins : Instr} (e : t[i]? = some (pc, ins, len)) : decode code pc = .ok (ins, len) := h (pc, ins, len) (List.mem_of_getElem? e)
theorem zi_b {n : Int} (h : -128 ≤ n ∧ n ≤ 127) : (Int8.ofInt n).toInt32 = Int32.ofInt n := by
  have h1 := Int8.toInt_ofInt_of_le (n := n) (by omega) (by omega)
  rw [← Int32.toInt_inj, Int8.toInt_toInt32, h1, zi_to ⟨by omega, by omega⟩]
theorem zi_s {n : Int} (h : -32768 ≤ n ∧ n ≤ 32767) : (Int16.ofInt n).toInt32 = Int32.ofInt n := by
  have h1 := Int16.toInt_ofInt_of_le (n := n) (by omega) (by omega)
  rw [← Int32.toInt_inj, Int16.toInt_toInt32, h1, zi_to ⟨by omega, by omega⟩]
section ZR
variable {G : zG} {a : zYt × Nat × Nat} {u : Nat × Nat × Nat × Nat} {pc tgt : Nat} {off : Int} {lv lv' : List (Nat × zV)} {st : List zV} {M : zM} {Q : Int → zM → Prop}
theorem zX.step {pc' : Nat} {st' : List zV} {M' : zM}
    (h : ∀ (p : Program) (e : Env) (R : Room) (s : State) (m : MethodId) (args : Array Value) (below : List Frame) (meth : Method) (c : Code) (Qs : State → Prop), zC G a u p R s m args meth c → zY G a u p e R s m args below meth c Qs pc' lv' st' M' → zY G a u p e R s m args below meth c Qs pc lv st M)
    (k : zX G a u pc' lv' st' M' Q) : zX G a u pc lv st M Q := fun p e R s m args below meth c Qs hC hR => h p e R s m args below meth c Qs hC (k p e R s m args below meth c Qs hC hR)
theorem zX.sub (ks : List Nat) (hl : ks.filterMap (fun k => lv[k]?) = lv') (k : zX G a u pc lv' st M Q) : zX G a u pc lv st M Q := by
  refine zX.step (fun p e R s m args below meth c Qs hC k H locs cells slots ls hW hS hl' hlo hso h1 h2 h3 h4 => ?_) k
  refine k H locs cells slots ls hW hS (lv_sub hl' ks ?_) (fun q hq => ?_) hso h1 h2 h3 h4
  · rw [← hl, List.map_filterMap]
    unfold lv_pick
    congr 1
    funext k
    rw [List.getElem?_map]
  · rw [← hl] at hq
    obtain ⟨i, -, hi⟩ := List.mem_filterMap.mp hq
    exact hlo q (List.mem_of_getElem? hi)
theorem zX.post {Q' : Int → zM → Prop} (h : ∀ r M', Q r M' → Q' r M') (k : zX G a u pc lv st M Q) : zX G a u pc lv st M Q' :=
  fun p e R s m args below meth c Qs hC hR => k p e R s m args below meth c Qs hC (fun pc H locs cells slots ls r M' h1 h2 h3 h4 h5 => hR pc H locs cells slots ls r M' h1 h2 h3 h4 (h _ _ h5))
theorem x_iconst {n : Int} (hd : decode a.1.2.1 pc = .ok (.iconst n, 1)) (hn : zI n) (k : zX G a u (pc + 1) lv ((0, n) :: st) M Q) : zX G a u pc lv st M Q := by
  refine zX.step (fun p e R s m args below meth c Qs hC k H locs cells slots ls hW hS hl hlo hso h1 h2 h3 h4 => ?_) k
  refine lv_iconst hC.1 hC.2.1 (v := Int32.ofInt n) hd rfl ?_
  exact k H locs cells slots ls hW hS hl hlo (fun v hv => by
    rcases List.mem_cons.mp hv with rfl | hv
    · exact hn
    · exact hso v hv) h1 h2 h3 h4
theorem x_bipush {n : Int} (hd : decode a.1.2.1 pc = .ok (.bipush n, 2)) (hn : -128 ≤ n ∧ n ≤ 127) (k : zX G a u (pc + 2) lv ((0, n) :: st) M Q) : zX G a u pc lv st M Q := by
  refine zX.step (fun p e R s m args below meth c Qs hC k H locs cells slots ls hW hS hl hlo hso h1 h2 h3 h4 => ?_) k
  refine lv_bipush hC.1 hC.2.1 (v := Int32.ofInt n) hd (zi_b hn) ?_
  exact k H locs cells slots ls hW hS hl hlo (fun v hv => by
    rcases List.mem_cons.mp hv with rfl | hv
    · exact (show zI n from ⟨by have := hn.1; omega, by have := hn.2; omega⟩)
    · exact hso v hv) h1 h2 h3 h4
theorem x_sipush {n : Int} (hd : decode a.1.2.1 pc = .ok (.sipush n, 3)) (hn : -32768 ≤ n ∧ n ≤ 32767) (k : zX G a u (pc + 3) lv ((0, n) :: st) M Q) : zX G a u pc lv st M Q := by
  refine zX.step (fun p e R s m args below meth c Qs hC k H locs cells slots ls hW hS hl hlo hso h1 h2 h3 h4 => ?_) k
  refine lv_sipush hC.1 hC.2.1 (v := Int32.ofInt n) hd (zi_s hn) ?_
  exact k H locs cells slots ls hW hS hl hlo (fun v hv => by
    rcases List.mem_cons.mp hv with rfl | hv
    · exact (show zI n from ⟨by have := hn.1; omega, by have := hn.2; omega⟩)
    · exact hso v hv) h1 h2 h3 h4
theorem x_lconst {n : Fin 2} (hd : decode a.1.2.1 pc = .ok (.lconst n, 1)) {x : Int} (hx : x = (n : Nat)) (k : zX G a u (pc + 1) lv ((1, x) :: st) M Q) : zX G a u pc lv st M Q := by
  refine zX.step (fun p e R s m args below meth c Qs hC k H locs cells slots ls hW hS hl hlo hso h1 h2 h3 h4 => ?_) k
  refine lv_lconst hC.1 hC.2.1 (v := Int64.ofInt x) hd (by subst hx; rfl) ?_
  exact k H locs cells slots ls hW hS hl hlo (fun v hv => by
    rcases List.mem_cons.mp hv with rfl | hv
    · exact (show zL x from by have := n.isLt; subst hx; unfold zL; omega)
    · exact hso v hv) h1 h2 h3 h4
theorem x_ldc {i : Nat} (hd : decode a.1.2.1 pc = .ok (.ldc i, 2)) {n : Int} (hn : zI n) (hw : Cond.constant a.1.1.cls i (Int32.ofInt n) ∈ lw_tbl) (k : zX G a u (pc + 2) lv ((0, n) :: st) M Q) : zX G a u pc lv st M Q := by
  refine zX.step (fun p e R s m args below meth c Qs hC k H locs cells slots ls hW hS hl hlo hso h1 h2 h3 h4 => ?_) k
  refine lv_ldc hC.1 hC.2.1 hC.2.2.2.1 (hC.2.2.2.2.2.2.2.2.2.1 _ hw rfl) hd ?_
  exact k H locs cells slots ls hW hS hl hlo (fun v hv => by
    rcases List.mem_cons.mp hv with rfl | hv
    · exact hn
    · exact hso v hv) h1 h2 h3 h4
theorem x_ldcw {i : Nat} (hd : decode a.1.2.1 pc = .ok (.ldc_w i, 3)) {n : Int} (hn : zI n) (hw : Cond.constant a.1.1.cls i (Int32.ofInt n) ∈ lw_tbl) (k : zX G a u (pc + 3) lv ((0, n) :: st) M Q) : zX G a u pc lv st M Q := by
  refine zX.step (fun p e R s m args below meth c Qs hC k H locs cells slots ls hW hS hl hlo hso h1 h2 h3 h4 => ?_) k
  refine lv_ldcw hC.1 hC.2.1 hC.2.2.2.1 (hC.2.2.2.2.2.2.2.2.2.1 _ hw rfl) hd ?_
  exact k H locs cells slots ls hW hS hl hlo (fun v hv => by
    rcases List.mem_cons.mp hv with rfl | hv
    · exact hn
    · exact hso v hv) h1 h2 h3 h4
theorem x_ldc2 {i : Nat} (hd : decode a.1.2.1 pc = .ok (.ldc2_w i, 3)) {n : Int} (hn : zL n) (hw : Cond.constantLong a.1.1.cls i (Int64.ofInt n) ∈ lw_tbl) (k : zX G a u (pc + 3) lv ((1, n) :: st) M Q) : zX G a u pc lv st M Q := by
  refine zX.step (fun p e R s m args below meth c Qs hC k H locs cells slots ls hW hS hl hlo hso h1 h2 h3 h4 => ?_) k
  refine lv_ldc2 hC.1 hC.2.1 hC.2.2.2.1 (hC.2.2.2.2.2.2.2.2.2.1 _ hw rfl) hd ?_
  exact k H locs cells slots ls hW hS hl hlo (fun v hv => by
    rcases List.mem_cons.mp hv with rfl | hv
    · exact hn
    · exact hso v hv) h1 h2 h3 h4
theorem x_iload_n {j : Fin 4} {i n : Nat} {x : Int} (hd : decode a.1.2.1 pc = .ok (.iload_n j, 1)) (hj : (j : Nat) = i) (hk : lv[n]? = some (i, (0, x))) (k : zX G a u (pc + 1) lv ((0, x) :: st) M Q) : zX G a u pc lv st M Q := by
  refine zX.step (fun p e R s m args below meth c Qs hC k H locs cells slots ls hW hS hl hlo hso h1 h2 h3 h4 => ?_) k
  refine lv_iload_n hC.1 hC.2.1 hd hj (zlv_at hl hk) ?_
  exact k H locs cells slots ls hW hS hl hlo (fun v hv => by
    rcases List.mem_cons.mp hv with rfl | hv
    · exact zlv_ok hlo hk
    · exact hso v hv) h1 h2 h3 h4
theorem x_iload {i n : Nat} {x : Int} (hd : decode a.1.2.1 pc = .ok (.iload i, 2)) (hk : lv[n]? = some (i, (0, x))) (k : zX G a u (pc + 2) lv ((0, x) :: st) M Q) : zX G a u pc lv st M Q := by
  refine zX.step (fun p e R s m args below meth c Qs hC k H locs cells slots ls hW hS hl hlo hso h1 h2 h3 h4 => ?_) k
  refine lv_iload hC.1 hC.2.1 hd (zlv_at hl hk) ?_
  exact k H locs cells slots ls hW hS hl hlo (fun v hv => by
    rcases List.mem_cons.mp hv with rfl | hv
    · exact zlv_ok hlo hk
    · exact hso v hv) h1 h2 h3 h4
theorem x_lload_n {j : Fin 4} {i n : Nat} {x : Int} (hd : decode a.1.2.1 pc = .ok (.lload_n j, 1)) (hj : (j : Nat) = i) (hk : lv[n]? = some (i, (1, x))) (k : zX G a u (pc + 1) lv ((1, x) :: st) M Q) : zX G a u pc lv st M Q := by
  refine zX.step (fun p e R s m args below meth c Qs hC k H locs cells slots ls hW hS hl hlo hso h1 h2 h3 h4 => ?_) k
  refine lv_lload_n hC.1 hC.2.1 hd hj (zlv_at hl hk) ?_
  exact k H locs cells slots ls hW hS hl hlo (fun v hv => by
    rcases List.mem_cons.mp hv with rfl | hv
    · exact zlv_ok hlo hk
    · exact hso v hv) h1 h2 h3 h4
theorem x_lload {i n : Nat} {x : Int} (hd : decode a.1.2.1 pc = .ok (.lload i, 2)) (hk : lv[n]? = some (i, (1, x))) (k : zX G a u (pc + 2) lv ((1, x) :: st) M Q) : zX G a u pc lv st M Q := by
  refine zX.step (fun p e R s m args below meth c Qs hC k H locs cells slots ls hW hS hl hlo hso h1 h2 h3 h4 => ?_) k
  refine lv_lload hC.1 hC.2.1 hd (zlv_at hl hk) ?_
  exact k H locs cells slots ls hW hS hl hlo (fun v hv => by
    rcases List.mem_cons.mp hv with rfl | hv
    · exact zlv_ok hlo hk
    · exact hso v hv) h1 h2 h3 h4
theorem x_aload_n {j : Fin 4} {i n : Nat} {x : Int} (hd : decode a.1.2.1 pc = .ok (.aload_n j, 1)) (hj : (j : Nat) = i) (hk : lv[n]? = some (i, (2, x))) (k : zX G a u (pc + 1) lv ((2, x) :: st) M Q) : zX G a u pc lv st M Q := by
  refine zX.step (fun p e R s m args below meth c Qs hC k H locs cells slots ls hW hS hl hlo hso h1 h2 h3 h4 => ?_) k
  have hg := zlv_at hl hk
  have kk := k H locs cells slots ls hW hS hl hlo (fun v hv => by
    rcases List.mem_cons.mp hv with rfl | hv
    · exact zlv_ok hlo hk
    · exact hso v hv) h1 h2 h3 h4
  simp only [List.map_cons] at kk
  rcases va_rf_or (zro G x) with e | ⟨q, e⟩
  · rw [show zcv G (2, x) = .null from e] at hg kk
    exact lv_aload_nN hC.1 hC.2.1 hd hj hg kk
  · rw [show zcv G (2, x) = .ref q from e] at hg kk
    exact lv_aload_n hC.1 hC.2.1 hd hj hg kk
theorem x_aload {i n : Nat} {x : Int} (hd : decode a.1.2.1 pc = .ok (.aload i, 2)) (hk : lv[n]? = some (i, (2, x))) (k : zX G a u (pc + 2) lv ((2, x) :: st) M Q) : zX G a u pc lv st M Q := by
  refine zX.step (fun p e R s m args below meth c Qs hC k H locs cells slots ls hW hS hl hlo hso h1 h2 h3 h4 => ?_) k
  have hg := zlv_at hl hk
  have kk := k H locs cells slots ls hW hS hl hlo (fun v hv => by
    rcases List.mem_cons.mp hv with rfl | hv
    · exact zlv_ok hlo hk
    · exact hso v hv) h1 h2 h3 h4
  simp only [List.map_cons] at kk
  rcases va_rf_or (zro G x) with e | ⟨q, e⟩
  · rw [show zcv G (2, x) = .null from e] at hg kk
    exact lv_aloadN hC.1 hC.2.1 hd hg kk
  · rw [show zcv G (2, x) = .ref q from e] at hg kk
    exact lv_aload hC.1 hC.2.1 hd hg kk
theorem x_istore_n {j : Fin 4} {i : Nat} {x : Int} (hd : decode a.1.2.1 pc = .ok (.istore_n j, 1)) (hj : (j : Nat) = i) (hn : i < a.1.2.2.1) (he : zst1 lv i (0, x) = lv') (k : zX G a u (pc + 1) lv' st M Q) : zX G a u pc lv ((0, x) :: st) M Q := by
  refine zX.step (fun p e R s m args below meth c Qs hC k H locs cells slots ls hW hS hl hlo hso h1 h2 h3 h4 => ?_) k
  subst he
  have hv : zok (M 0 0) (0, x) := hso _ List.mem_cons_self
  refine lv_istore_n hC.1 hC.2.1 hd hj hl hn (zst1_map G lv i (0, x)) (fun ls' hl' => ?_)
  exact k H locs cells slots ls' hW hS hl' (zst1_ok hlo hv) (fun v h => hso v (List.mem_cons_of_mem _ h)) h1 h2 h3 h4
theorem x_istore {i : Nat} {x : Int} (hd : decode a.1.2.1 pc = .ok (.istore i, 2)) (hn : i < a.1.2.2.1) (he : zst1 lv i (0, x) = lv') (k : zX G a u (pc + 2) lv' st M Q) : zX G a u pc lv ((0, x) :: st) M Q := by
  refine zX.step (fun p e R s m args below meth c Qs hC k H locs cells slots ls hW hS hl hlo hso h1 h2 h3 h4 => ?_) k
  subst he
  have hv : zok (M 0 0) (0, x) := hso _ List.mem_cons_self
  refine lv_istore hC.1 hC.2.1 hd hl hn (zst1_map G lv i (0, x)) (fun ls' hl' => ?_)
  exact k H locs cells slots ls' hW hS hl' (zst1_ok hlo hv) (fun v h => hso v (List.mem_cons_of_mem _ h)) h1 h2 h3 h4
theorem x_lstore_n {j : Fin 4} {i : Nat} {x : Int} (hd : decode a.1.2.1 pc = .ok (.lstore_n j, 1)) (hj : (j : Nat) = i) (hn : i + 1 < a.1.2.2.1) (he : zst2 lv i (1, x) = lv') (k : zX G a u (pc + 1) lv' st M Q) : zX G a u pc lv ((1, x) :: st) M Q := by
  refine zX.step (fun p e R s m args below meth c Qs hC k H locs cells slots ls hW hS hl hlo hso h1 h2 h3 h4 => ?_) k
  subst he
  have hv : zok (M 0 0) (1, x) := hso _ List.mem_cons_self
  refine lv_lstore_n hC.1 hC.2.1 hd hj hl hn (zst2_map G lv i (1, x)) (fun ls' hl' => ?_)
  exact k H locs cells slots ls' hW hS hl' (zst2_ok hlo hv) (fun v h => hso v (List.mem_cons_of_mem _ h)) h1 h2 h3 h4
theorem x_lstore {i : Nat} {x : Int} (hd : decode a.1.2.1 pc = .ok (.lstore i, 2)) (hn : i + 1 < a.1.2.2.1) (he : zst2 lv i (1, x) = lv') (k : zX G a u (pc + 2) lv' st M Q) : zX G a u pc lv ((1, x) :: st) M Q := by
  refine zX.step (fun p e R s m args below meth c Qs hC k H locs cells slots ls hW hS hl hlo hso h1 h2 h3 h4 => ?_) k
  subst he
  have hv : zok (M 0 0) (1, x) := hso _ List.mem_cons_self
  refine lv_lstore hC.1 hC.2.1 hd hl hn (zst2_map G lv i (1, x)) (fun ls' hl' => ?_)
  exact k H locs cells slots ls' hW hS hl' (zst2_ok hlo hv) (fun v h => hso v (List.mem_cons_of_mem _ h)) h1 h2 h3 h4
theorem x_astore_n {j : Fin 4} {i : Nat} {x : Int} (hd : decode a.1.2.1 pc = .ok (.astore_n j, 1)) (hj : (j : Nat) = i) (hn : i < a.1.2.2.1) (he : zst1 lv i (2, x) = lv') (k : zX G a u (pc + 1) lv' st M Q) : zX G a u pc lv ((2, x) :: st) M Q := by
  refine zX.step (fun p e R s m args below meth c Qs hC k H locs cells slots ls hW hS hl hlo hso h1 h2 h3 h4 => ?_) k
  subst he
  have hv : zok (M 0 0) (2, x) := hso _ List.mem_cons_self
  have kk : ∀ ls' : Array Slot, lv_has ls' a.1.2.2.1 ((zst1 lv i (2, x)).map (fun q => (q.1, zcv G q.2))) → _ := fun ls' hl' => k H locs cells slots ls' hW hS hl' (zst1_ok hlo hv) (fun v h => hso v (List.mem_cons_of_mem _ h)) h1 h2 h3 h4
  have hm := zst1_map G lv i (2, x)
  simp only [List.map_cons]
  rcases va_rf_or (zro G x) with e | ⟨q, e⟩
  · rw [show zcv G (2, x) = .null from e] at hm ⊢
    exact lv_astore_nN hC.1 hC.2.1 hd hj hl hn hm kk
  · rw [show zcv G (2, x) = .ref q from e] at hm ⊢
    exact lv_astore_n hC.1 hC.2.1 hd hj hl hn hm kk
theorem x_astore {i : Nat} {x : Int} (hd : decode a.1.2.1 pc = .ok (.astore i, 2)) (hn : i < a.1.2.2.1) (he : zst1 lv i (2, x) = lv') (k : zX G a u (pc + 2) lv' st M Q) : zX G a u pc lv ((2, x) :: st) M Q := by
  refine zX.step (fun p e R s m args below meth c Qs hC k H locs cells slots ls hW hS hl hlo hso h1 h2 h3 h4 => ?_) k
  subst he
  have hv : zok (M 0 0) (2, x) := hso _ List.mem_cons_self
  have kk : ∀ ls' : Array Slot, lv_has ls' a.1.2.2.1 ((zst1 lv i (2, x)).map (fun q => (q.1, zcv G q.2))) → _ := fun ls' hl' => k H locs cells slots ls' hW hS hl' (zst1_ok hlo hv) (fun v h => hso v (List.mem_cons_of_mem _ h)) h1 h2 h3 h4
  have hm := zst1_map G lv i (2, x)
  simp only [List.map_cons]
  rcases va_rf_or (zro G x) with e | ⟨q, e⟩
  · rw [show zcv G (2, x) = .null from e] at hm ⊢
    exact lv_astoreN hC.1 hC.2.1 hd hl hn hm kk
  · rw [show zcv G (2, x) = .ref q from e] at hm ⊢
    exact lv_astore hC.1 hC.2.1 hd hl hn hm kk
theorem x_iinc {i n : Nat} {x d : Int} (hd : decode a.1.2.1 pc = .ok (.iinc i d, 3)) (hk : lv[n]? = some (i, (0, x))) (hz : zI (x + d)) (hn : i < a.1.2.2.1) (he : zst1 lv i (0, x + d) = lv') (k : zX G a u (pc + 3) lv' st M Q) : zX G a u pc lv st M Q := by
  refine zX.step (fun p e R s m args below meth c Qs hC k H locs cells slots ls hW hS hl hlo hso h1 h2 h3 h4 => ?_) k
  subst he
  refine lv_iinc hC.1 hC.2.1 (k := n) (x := Int32.ofInt x) (v := Int32.ofInt (x + d)) hd hl (by rw [List.getElem?_map, hk]; rfl) (zi_add x d) hn (zst1_map G lv i (0, x + d)) (fun ls' hl' => ?_)
  exact k H locs cells slots ls' hW hS hl' (zst1_ok hlo hz) hso h1 h2 h3 h4
theorem x_iadd {x y : Int} (hd : decode a.1.2.1 pc = .ok (.iadd, 1)) (hz : zI (x + y)) (k : zX G a u (pc + 1) lv ((0, x + y) :: st) M Q) : zX G a u pc lv ((0, y) :: (0, x) :: st) M Q := by
  refine zX.step (fun p e R s m args below meth c Qs hC k H locs cells slots ls hW hS hl hlo hso h1 h2 h3 h4 => ?_) k
  have hy : zI y := hso _ List.mem_cons_self
  have hx : zI x := hso _ (List.mem_cons_of_mem _ List.mem_cons_self)
  have kk := k H locs cells slots ls hW hS hl hlo (fun v hv => by
    rcases List.mem_cons.mp hv with rfl | hv
    · exact hz
    · exact hso v (List.mem_cons_of_mem _ (List.mem_cons_of_mem _ hv))) h1 h2 h3 h4
  simp only [List.map_cons, zcv] at kk ⊢
  rw [← zi_add] at kk; exact lv_iadd hC.1 hC.2.1 hd kk
theorem x_isub {x y : Int} (hd : decode a.1.2.1 pc = .ok (.isub, 1)) (hz : zI (x - y)) (k : zX G a u (pc + 1) lv ((0, x - y) :: st) M Q) : zX G a u pc lv ((0, y) :: (0, x) :: st) M Q := by
  refine zX.step (fun p e R s m args below meth c Qs hC k H locs cells slots ls hW hS hl hlo hso h1 h2 h3 h4 => ?_) k
  have hy : zI y := hso _ List.mem_cons_self
  have hx : zI x := hso _ (List.mem_cons_of_mem _ List.mem_cons_self)
  have kk := k H locs cells slots ls hW hS hl hlo (fun v hv => by
    rcases List.mem_cons.mp hv with rfl | hv
    · exact hz
    · exact hso v (List.mem_cons_of_mem _ (List.mem_cons_of_mem _ hv))) h1 h2 h3 h4
  simp only [List.map_cons, zcv] at kk ⊢
  rw [← zi_sub] at kk; exact lv_isub hC.1 hC.2.1 hd kk
theorem x_imul {x y : Int} (hd : decode a.1.2.1 pc = .ok (.imul, 1)) (hz : zI (x * y)) (k : zX G a u (pc + 1) lv ((0, x * y) :: st) M Q) : zX G a u pc lv ((0, y) :: (0, x) :: st) M Q := by
  refine zX.step (fun p e R s m args below meth c Qs hC k H locs cells slots ls hW hS hl hlo hso h1 h2 h3 h4 => ?_) k
  have hy : zI y := hso _ List.mem_cons_self
  have hx : zI x := hso _ (List.mem_cons_of_mem _ List.mem_cons_self)
  have kk := k H locs cells slots ls hW hS hl hlo (fun v hv => by
    rcases List.mem_cons.mp hv with rfl | hv
    · exact hz
    · exact hso v (List.mem_cons_of_mem _ (List.mem_cons_of_mem _ hv))) h1 h2 h3 h4
  simp only [List.map_cons, zcv] at kk ⊢
  rw [← zi_mul] at kk; exact lv_imul hC.1 hC.2.1 hd kk
theorem x_ladd {x y : Int} (hd : decode a.1.2.1 pc = .ok (.ladd, 1)) (hz : zL (x + y)) (k : zX G a u (pc + 1) lv ((1, x + y) :: st) M Q) : zX G a u pc lv ((1, y) :: (1, x) :: st) M Q := by
  refine zX.step (fun p e R s m args below meth c Qs hC k H locs cells slots ls hW hS hl hlo hso h1 h2 h3 h4 => ?_) k
  have hy : zL y := hso _ List.mem_cons_self
  have hx : zL x := hso _ (List.mem_cons_of_mem _ List.mem_cons_self)
  have kk := k H locs cells slots ls hW hS hl hlo (fun v hv => by
    rcases List.mem_cons.mp hv with rfl | hv
    · exact hz
    · exact hso v (List.mem_cons_of_mem _ (List.mem_cons_of_mem _ hv))) h1 h2 h3 h4
  simp only [List.map_cons, zcv] at kk ⊢
  rw [← zl_add] at kk; exact lv_ladd hC.1 hC.2.1 hd kk
theorem x_lsub {x y : Int} (hd : decode a.1.2.1 pc = .ok (.lsub, 1)) (hz : zL (x - y)) (k : zX G a u (pc + 1) lv ((1, x - y) :: st) M Q) : zX G a u pc lv ((1, y) :: (1, x) :: st) M Q := by
  refine zX.step (fun p e R s m args below meth c Qs hC k H locs cells slots ls hW hS hl hlo hso h1 h2 h3 h4 => ?_) k
  have hy : zL y := hso _ List.mem_cons_self
  have hx : zL x := hso _ (List.mem_cons_of_mem _ List.mem_cons_self)
  have kk := k H locs cells slots ls hW hS hl hlo (fun v hv => by
    rcases List.mem_cons.mp hv with rfl | hv
    · exact hz
    · exact hso v (List.mem_cons_of_mem _ (List.mem_cons_of_mem _ hv))) h1 h2 h3 h4
  simp only [List.map_cons, zcv] at kk ⊢
  rw [← zl_sub] at kk; exact lv_lsub hC.1 hC.2.1 hd kk
theorem x_lmul {x y : Int} (hd : decode a.1.2.1 pc = .ok (.lmul, 1)) (hz : zL (x * y)) (k : zX G a u (pc + 1) lv ((1, x * y) :: st) M Q) : zX G a u pc lv ((1, y) :: (1, x) :: st) M Q := by
  refine zX.step (fun p e R s m args below meth c Qs hC k H locs cells slots ls hW hS hl hlo hso h1 h2 h3 h4 => ?_) k
  have hy : zL y := hso _ List.mem_cons_self
  have hx : zL x := hso _ (List.mem_cons_of_mem _ List.mem_cons_self)
  have kk := k H locs cells slots ls hW hS hl hlo (fun v hv => by
    rcases List.mem_cons.mp hv with rfl | hv
    · exact hz
    · exact hso v (List.mem_cons_of_mem _ (List.mem_cons_of_mem _ hv))) h1 h2 h3 h4
  simp only [List.map_cons, zcv] at kk ⊢
  rw [← zl_mul] at kk; exact lv_lmul hC.1 hC.2.1 hd kk
theorem x_iand {x y : Int} (hd : decode a.1.2.1 pc = .ok (.iand, 1))  (k : zX G a u (pc + 1) lv ((0, zand x y) :: st) M Q) : zX G a u pc lv ((0, y) :: (0, x) :: st) M Q := by
  refine zX.step (fun p e R s m args below meth c Qs hC k H locs cells slots ls hW hS hl hlo hso h1 h2 h3 h4 => ?_) k
  have hy : zI y := hso _ List.mem_cons_self
  have hx : zI x := hso _ (List.mem_cons_of_mem _ List.mem_cons_self)
  have kk := k H locs cells slots ls hW hS hl hlo (fun v hv => by
    rcases List.mem_cons.mp hv with rfl | hv
    · exact zi_of _
    · exact hso v (List.mem_cons_of_mem _ (List.mem_cons_of_mem _ hv))) h1 h2 h3 h4
  simp only [List.map_cons, zcv] at kk ⊢
  unfold zand at kk; rw [Int32.ofInt_toInt] at kk; exact lv_iand hC.1 hC.2.1 hd kk
theorem x_ior {x y : Int} (hd : decode a.1.2.1 pc = .ok (.ior, 1))  (k : zX G a u (pc + 1) lv ((0, zor x y) :: st) M Q) : zX G a u pc lv ((0, y) :: (0, x) :: st) M Q := by
  refine zX.step (fun p e R s m args below meth c Qs hC k H locs cells slots ls hW hS hl hlo hso h1 h2 h3 h4 => ?_) k
  have hy : zI y := hso _ List.mem_cons_self
  have hx : zI x := hso _ (List.mem_cons_of_mem _ List.mem_cons_self)
  have kk := k H locs cells slots ls hW hS hl hlo (fun v hv => by
    rcases List.mem_cons.mp hv with rfl | hv
    · exact zi_of _
    · exact hso v (List.mem_cons_of_mem _ (List.mem_cons_of_mem _ hv))) h1 h2 h3 h4
  simp only [List.map_cons, zcv] at kk ⊢
  unfold zor at kk; rw [Int32.ofInt_toInt] at kk; exact lv_ior hC.1 hC.2.1 hd kk
theorem x_ixor {x y : Int} (hd : decode a.1.2.1 pc = .ok (.ixor, 1))  (k : zX G a u (pc + 1) lv ((0, zxor x y) :: st) M Q) : zX G a u pc lv ((0, y) :: (0, x) :: st) M Q := by
  refine zX.step (fun p e R s m args below meth c Qs hC k H locs cells slots ls hW hS hl hlo hso h1 h2 h3 h4 => ?_) k
  have hy : zI y := hso _ List.mem_cons_self
  have hx : zI x := hso _ (List.mem_cons_of_mem _ List.mem_cons_self)
  have kk := k H locs cells slots ls hW hS hl hlo (fun v hv => by
    rcases List.mem_cons.mp hv with rfl | hv
    · exact zi_of _
    · exact hso v (List.mem_cons_of_mem _ (List.mem_cons_of_mem _ hv))) h1 h2 h3 h4
  simp only [List.map_cons, zcv] at kk ⊢
  unfold zxor at kk; rw [Int32.ofInt_toInt] at kk; exact lv_ixor hC.1 hC.2.1 hd kk
theorem x_ishl {x y : Int} (hd : decode a.1.2.1 pc = .ok (.ishl, 1))  (k : zX G a u (pc + 1) lv ((0, zshl x y) :: st) M Q) : zX G a u pc lv ((0, y) :: (0, x) :: st) M Q := by
  refine zX.step (fun p e R s m args below meth c Qs hC k H locs cells slots ls hW hS hl hlo hso h1 h2 h3 h4 => ?_) k
  have hy : zI y := hso _ List.mem_cons_self
  have hx : zI x := hso _ (List.mem_cons_of_mem _ List.mem_cons_self)
  have kk := k H locs cells slots ls hW hS hl hlo (fun v hv => by
    rcases List.mem_cons.mp hv with rfl | hv
    · exact zi_of _
    · exact hso v (List.mem_cons_of_mem _ (List.mem_cons_of_mem _ hv))) h1 h2 h3 h4
  simp only [List.map_cons, zcv] at kk ⊢
  unfold zshl at kk; rw [Int32.ofInt_toInt] at kk; exact lv_ishl hC.1 hC.2.1 hd kk
theorem x_ishr {x y : Int} (hd : decode a.1.2.1 pc = .ok (.ishr, 1))  (k : zX G a u (pc + 1) lv ((0, zshr x y) :: st) M Q) : zX G a u pc lv ((0, y) :: (0, x) :: st) M Q := by
  refine zX.step (fun p e R s m args below meth c Qs hC k H locs cells slots ls hW hS hl hlo hso h1 h2 h3 h4 => ?_) k
  have hy : zI y := hso _ List.mem_cons_self
  have hx : zI x := hso _ (List.mem_cons_of_mem _ List.mem_cons_self)
  have kk := k H locs cells slots ls hW hS hl hlo (fun v hv => by
    rcases List.mem_cons.mp hv with rfl | hv
    · exact zi_of _
    · exact hso v (List.mem_cons_of_mem _ (List.mem_cons_of_mem _ hv))) h1 h2 h3 h4
  simp only [List.map_cons, zcv] at kk ⊢
  unfold zshr at kk; rw [Int32.ofInt_toInt] at kk; exact lv_ishr hC.1 hC.2.1 hd kk
theorem x_iushr {x y : Int} (hd : decode a.1.2.1 pc = .ok (.iushr, 1))  (k : zX G a u (pc + 1) lv ((0, zushr x y) :: st) M Q) : zX G a u pc lv ((0, y) :: (0, x) :: st) M Q := by
  refine zX.step (fun p e R s m args below meth c Qs hC k H locs cells slots ls hW hS hl hlo hso h1 h2 h3 h4 => ?_) k
  have hy : zI y := hso _ List.mem_cons_self
  have hx : zI x := hso _ (List.mem_cons_of_mem _ List.mem_cons_self)
  have kk := k H locs cells slots ls hW hS hl hlo (fun v hv => by
    rcases List.mem_cons.mp hv with rfl | hv
    · exact zi_of _
    · exact hso v (List.mem_cons_of_mem _ (List.mem_cons_of_mem _ hv))) h1 h2 h3 h4
  simp only [List.map_cons, zcv] at kk ⊢
  unfold zushr at kk; rw [Int32.ofInt_toInt] at kk; exact lv_iushr hC.1 hC.2.1 hd rfl kk
theorem x_land {x y : Int} (hd : decode a.1.2.1 pc = .ok (.land, 1))  (k : zX G a u (pc + 1) lv ((1, zland x y) :: st) M Q) : zX G a u pc lv ((1, y) :: (1, x) :: st) M Q := by
  refine zX.step (fun p e R s m args below meth c Qs hC k H locs cells slots ls hW hS hl hlo hso h1 h2 h3 h4 => ?_) k
  have hy : zL y := hso _ List.mem_cons_self
  have hx : zL x := hso _ (List.mem_cons_of_mem _ List.mem_cons_self)
  have kk := k H locs cells slots ls hW hS hl hlo (fun v hv => by
    rcases List.mem_cons.mp hv with rfl | hv
    · exact zl_of _
    · exact hso v (List.mem_cons_of_mem _ (List.mem_cons_of_mem _ hv))) h1 h2 h3 h4
  simp only [List.map_cons, zcv] at kk ⊢
  unfold zland at kk; rw [Int64.ofInt_toInt] at kk; exact lv_land hC.1 hC.2.1 hd kk
theorem x_idiv {x y : Int} (hd : decode a.1.2.1 pc = .ok (.idiv, 1)) (h0 : y ≠ 0) (hz : zI (x.tdiv y)) (k : zX G a u (pc + 1) lv ((0, x.tdiv y) :: st) M Q) : zX G a u pc lv ((0, y) :: (0, x) :: st) M Q := by
  refine zX.step (fun p e R s m args below meth c Qs hC k H locs cells slots ls hW hS hl hlo hso h1 h2 h3 h4 => ?_) k
  have hy : zI y := hso _ List.mem_cons_self
  have hx : zI x := hso _ (List.mem_cons_of_mem _ List.mem_cons_self)
  have kk := k H locs cells slots ls hW hS hl hlo (fun v hv => by
    rcases List.mem_cons.mp hv with rfl | hv
    · exact hz
    · exact hso v (List.mem_cons_of_mem _ (List.mem_cons_of_mem _ hv))) h1 h2 h3 h4
  simp only [List.map_cons, zcv] at kk ⊢
  rw [← zi_div hx hy] at kk; exact lv_idiv hC.1 hC.2.1 hd (fun e => h0 ((zi_inj hy zI_0).mp e)) kk
theorem x_irem {x y : Int} (hd : decode a.1.2.1 pc = .ok (.irem, 1)) (h0 : y ≠ 0) (k : zX G a u (pc + 1) lv ((0, x.tmod y) :: st) M Q) : zX G a u pc lv ((0, y) :: (0, x) :: st) M Q := by
  refine zX.step (fun p e R s m args below meth c Qs hC k H locs cells slots ls hW hS hl hlo hso h1 h2 h3 h4 => ?_) k
  have hy : zI y := hso _ List.mem_cons_self
  have hx : zI x := hso _ (List.mem_cons_of_mem _ List.mem_cons_self)
  have kk := k H locs cells slots ls hW hS hl hlo (fun v hv => by
    rcases List.mem_cons.mp hv with rfl | hv
    · exact zI_tmod hy h0
    · exact hso v (List.mem_cons_of_mem _ (List.mem_cons_of_mem _ hv))) h1 h2 h3 h4
  simp only [List.map_cons, zcv] at kk ⊢
  rw [← zi_rem hx hy] at kk; exact lv_irem hC.1 hC.2.1 hd (fun e => h0 ((zi_inj hy zI_0).mp e)) kk
theorem x_ldiv {x y : Int} (hd : decode a.1.2.1 pc = .ok (.ldiv, 1)) (h0 : y ≠ 0) (hz : zL (x.tdiv y)) (k : zX G a u (pc + 1) lv ((1, x.tdiv y) :: st) M Q) : zX G a u pc lv ((1, y) :: (1, x) :: st) M Q := by
  refine zX.step (fun p e R s m args below meth c Qs hC k H locs cells slots ls hW hS hl hlo hso h1 h2 h3 h4 => ?_) k
  have hy : zL y := hso _ List.mem_cons_self
  have hx : zL x := hso _ (List.mem_cons_of_mem _ List.mem_cons_self)
  have kk := k H locs cells slots ls hW hS hl hlo (fun v hv => by
    rcases List.mem_cons.mp hv with rfl | hv
    · exact hz
    · exact hso v (List.mem_cons_of_mem _ (List.mem_cons_of_mem _ hv))) h1 h2 h3 h4
  simp only [List.map_cons, zcv] at kk ⊢
  rw [← zl_div hx hy] at kk; exact lv_ldiv hC.1 hC.2.1 hd (fun e => h0 ((zl_inj hy (by unfold zL; omega)).mp e)) kk
theorem x_lrem {x y : Int} (hd : decode a.1.2.1 pc = .ok (.lrem, 1)) (h0 : y ≠ 0) (k : zX G a u (pc + 1) lv ((1, x.tmod y) :: st) M Q) : zX G a u pc lv ((1, y) :: (1, x) :: st) M Q := by
  refine zX.step (fun p e R s m args below meth c Qs hC k H locs cells slots ls hW hS hl hlo hso h1 h2 h3 h4 => ?_) k
  have hy : zL y := hso _ List.mem_cons_self
  have hx : zL x := hso _ (List.mem_cons_of_mem _ List.mem_cons_self)
  have kk := k H locs cells slots ls hW hS hl hlo (fun v hv => by
    rcases List.mem_cons.mp hv with rfl | hv
    · exact zL_tmod hy h0
    · exact hso v (List.mem_cons_of_mem _ (List.mem_cons_of_mem _ hv))) h1 h2 h3 h4
  simp only [List.map_cons, zcv] at kk ⊢
  rw [← zl_rem hx hy] at kk; exact lv_lrem hC.1 hC.2.1 hd (fun e => h0 ((zl_inj hy (by unfold zL; omega)).mp e)) kk
theorem x_lcmp {x y : Int} (hd : decode a.1.2.1 pc = .ok (.lcmp, 1))  (k : zX G a u (pc + 1) lv ((0, zcmp x y) :: st) M Q) : zX G a u pc lv ((1, y) :: (1, x) :: st) M Q := by
  refine zX.step (fun p e R s m args below meth c Qs hC k H locs cells slots ls hW hS hl hlo hso h1 h2 h3 h4 => ?_) k
  have hy : zL y := hso _ List.mem_cons_self
  have hx : zL x := hso _ (List.mem_cons_of_mem _ List.mem_cons_self)
  have kk := k H locs cells slots ls hW hS hl hlo (fun v hv => by
    rcases List.mem_cons.mp hv with rfl | hv
    · exact zI_cmp x y
    · exact hso v (List.mem_cons_of_mem _ (List.mem_cons_of_mem _ hv))) h1 h2 h3 h4
  simp only [List.map_cons, zcv] at kk ⊢
  rw [← zc_cmp hx hy] at kk; exact W.lcmp hC.1 hC.2.1 hd kk
theorem x_i2l {x : Int} (hd : decode a.1.2.1 pc = .ok (.i2l, 1)) (k : zX G a u (pc + 1) lv ((1, x) :: st) M Q) : zX G a u pc lv ((0, x) :: st) M Q := by
  refine zX.step (fun p e R s m args below meth c Qs hC k H locs cells slots ls hW hS hl hlo hso h1 h2 h3 h4 => ?_) k
  have hx : zI x := hso _ List.mem_cons_self
  refine lv_i2l hC.1 hC.2.1 (v := Int64.ofInt x) hd (by rw [← Int64.toInt_inj, Int32.toInt_toInt64, zi_to hx, zl_to ⟨by have := hx.1; omega, by have := hx.2; omega⟩]) ?_
  exact k H locs cells slots ls hW hS hl hlo (fun v hv => by
    rcases List.mem_cons.mp hv with rfl | hv
    · exact (show zL x from ⟨by have := hx.1; omega, by have := hx.2; omega⟩)
    · exact hso v (List.mem_cons_of_mem _ hv)) h1 h2 h3 h4
theorem x_l2i {x : Int} (hd : decode a.1.2.1 pc = .ok (.l2i, 1)) (k : zX G a u (pc + 1) lv ((0, zl2i x) :: st) M Q) : zX G a u pc lv ((1, x) :: st) M Q := by
  refine zX.step (fun p e R s m args below meth c Qs hC k H locs cells slots ls hW hS hl hlo hso h1 h2 h3 h4 => ?_) k
  refine lv_l2i hC.1 hC.2.1 (v := Int32.ofInt (zl2i x)) hd (by unfold zl2i; rw [Int32.ofInt_toInt]) ?_
  exact k H locs cells slots ls hW hS hl hlo (fun v hv => by
    rcases List.mem_cons.mp hv with rfl | hv
    · exact zi_of _
    · exact hso v (List.mem_cons_of_mem _ hv)) h1 h2 h3 h4
theorem x_goto (hd : decode a.1.2.1 pc = .ok (.goto off, 3)) (ht : (pc : Int) + off = (tgt : Int)) (k : zX G a u tgt lv st M Q) : zX G a u pc lv st M Q := by
  refine zX.step (fun p e R s m args below meth c Qs hC k H locs cells slots ls hW hS hl hlo hso h1 h2 h3 h4 => ?_) k
  exact lv_goto hC.1 hC.2.1 hd ht (k H locs cells slots ls hW hS hl hlo hso h1 h2 h3 h4)
theorem x_pop {v : zV} (hd : decode a.1.2.1 pc = .ok (.pop, 1)) (hv : v.1 ≠ 1) (k : zX G a u (pc + 1) lv st M Q) : zX G a u pc lv (v :: st) M Q := by
  refine zX.step (fun p e R s m args below meth c Qs hC k H locs cells slots ls hW hS hl hlo hso h1 h2 h3 h4 => ?_) k
  exact lv_pop hC.1 hC.2.1 hd (by rw [zcat, if_neg hv]) (k H locs cells slots ls hW hS hl hlo (fun v h => hso v (List.mem_cons_of_mem _ h)) h1 h2 h3 h4)
theorem x_dup {v : zV} (hd : decode a.1.2.1 pc = .ok (.dup, 1)) (hv : v.1 ≠ 1) (k : zX G a u (pc + 1) lv (v :: v :: st) M Q) : zX G a u pc lv (v :: st) M Q := by
  refine zX.step (fun p e R s m args below meth c Qs hC k H locs cells slots ls hW hS hl hlo hso h1 h2 h3 h4 => ?_) k
  exact lv_dup hC.1 hC.2.1 hd (by rw [zcat, if_neg hv]) (k H locs cells slots ls hW hS hl hlo (fun w h => by
    rcases List.mem_cons.mp h with rfl | h
    · exact hso _ List.mem_cons_self
    · exact hso w h) h1 h2 h3 h4)
theorem x_dup2 {v w : zV} (hd : decode a.1.2.1 pc = .ok (.dup2, 1)) (hv : v.1 ≠ 1) (hw : w.1 ≠ 1) (k : zX G a u (pc + 1) lv (v :: w :: v :: w :: st) M Q) : zX G a u pc lv (v :: w :: st) M Q := by
  refine zX.step (fun p e R s m args below meth c Qs hC k H locs cells slots ls hW hS hl hlo hso h1 h2 h3 h4 => ?_) k
  exact lv_dup2_11 hC.1 hC.2.1 hd (by rw [zcat, if_neg hv]) (by rw [zcat, if_neg hw]) (k H locs cells slots ls hW hS hl hlo (fun x h => by
    rcases List.mem_cons.mp h with rfl | h
    · exact hso _ List.mem_cons_self
    · rcases List.mem_cons.mp h with rfl | h
      · exact hso _ (List.mem_cons_of_mem _ List.mem_cons_self)
      · exact hso x h) h1 h2 h3 h4)
theorem x_dup2l {v : zV} (hd : decode a.1.2.1 pc = .ok (.dup2, 1)) (hv : v.1 = 1) (k : zX G a u (pc + 1) lv (v :: v :: st) M Q) : zX G a u pc lv (v :: st) M Q := by
  refine zX.step (fun p e R s m args below meth c Qs hC k H locs cells slots ls hW hS hl hlo hso h1 h2 h3 h4 => ?_) k
  exact lv_dup2_2 hC.1 hC.2.1 hd (by rw [zcat, if_pos hv]) (k H locs cells slots ls hW hS hl hlo (fun w h => by
    rcases List.mem_cons.mp h with rfl | h
    · exact hso _ List.mem_cons_self
    · exact hso w h) h1 h2 h3 h4)
theorem x_ifeq {x : Int} (hd : decode a.1.2.1 pc = .ok (.ifCond .eq off, 3)) (ht : (pc : Int) + off = (tgt : Int)) (kt : x = 0 → zX G a u tgt lv st M Q) (kf : ¬ x = 0 → zX G a u (pc + 3) lv st M Q) : zX G a u pc lv ((0, x) :: st) M Q := by
  intro p e R s m args below meth c Qs hC hR H locs cells slots ls hW hS hl hlo hso h1 h2 h3 h4
  have kt := fun z => kt z p e R s m args below meth c Qs hC hR H locs cells slots ls hW hS hl hlo
  have kf := fun z => kf z p e R s m args below meth c Qs hC hR H locs cells slots ls hW hS hl hlo
  have hx : zI x := hso _ List.mem_cons_self
  have hst : ∀ v ∈ st, zok (M 0 0) v := fun v h => hso v (List.mem_cons_of_mem _ h)
  exact lv_if_eq hC.1 hC.2.1 hd ht (fun z => kt ((zi_inj hx zI_0).mp z) hst h1 h2 h3 h4) (fun z => kf (fun y => z ((zi_inj hx zI_0).mpr y)) hst h1 h2 h3 h4)
theorem x_ifne {x : Int} (hd : decode a.1.2.1 pc = .ok (.ifCond .ne off, 3)) (ht : (pc : Int) + off = (tgt : Int)) (kt : ¬ x = 0 → zX G a u tgt lv st M Q) (kf : ¬ (¬ x = 0) → zX G a u (pc + 3) lv st M Q) : zX G a u pc lv ((0, x) :: st) M Q := by
  intro p e R s m args below meth c Qs hC hR H locs cells slots ls hW hS hl hlo hso h1 h2 h3 h4
  have kt := fun z => kt z p e R s m args below meth c Qs hC hR H locs cells slots ls hW hS hl hlo
  have kf := fun z => kf z p e R s m args below meth c Qs hC hR H locs cells slots ls hW hS hl hlo
  have hx : zI x := hso _ List.mem_cons_self
  have hst : ∀ v ∈ st, zok (M 0 0) v := fun v h => hso v (List.mem_cons_of_mem _ h)
  exact lv_if_ne hC.1 hC.2.1 hd ht (fun z => kt ((not_congr (zi_inj hx zI_0)).mp z) hst h1 h2 h3 h4) (fun z => kf (fun y => y ((zi_inj hx zI_0).mp z)) hst h1 h2 h3 h4)
theorem x_iflt {x : Int} (hd : decode a.1.2.1 pc = .ok (.ifCond .lt off, 3)) (ht : (pc : Int) + off = (tgt : Int)) (kt : x < 0 → zX G a u tgt lv st M Q) (kf : ¬ x < 0 → zX G a u (pc + 3) lv st M Q) : zX G a u pc lv ((0, x) :: st) M Q := by
  intro p e R s m args below meth c Qs hC hR H locs cells slots ls hW hS hl hlo hso h1 h2 h3 h4
  have kt := fun z => kt z p e R s m args below meth c Qs hC hR H locs cells slots ls hW hS hl hlo
  have kf := fun z => kf z p e R s m args below meth c Qs hC hR H locs cells slots ls hW hS hl hlo
  have hx : zI x := hso _ List.mem_cons_self
  have hst : ∀ v ∈ st, zok (M 0 0) v := fun v h => hso v (List.mem_cons_of_mem _ h)
  exact lv_if_lt hC.1 hC.2.1 hd ht (fun z => kt ((zi_lt hx zI_0).mp z) hst h1 h2 h3 h4) (fun z => kf (fun y => z ((zi_lt hx zI_0).mpr y)) hst h1 h2 h3 h4)
theorem x_ifge {x : Int} (hd : decode a.1.2.1 pc = .ok (.ifCond .ge off, 3)) (ht : (pc : Int) + off = (tgt : Int)) (kt : 0 ≤ x → zX G a u tgt lv st M Q) (kf : ¬ 0 ≤ x → zX G a u (pc + 3) lv st M Q) : zX G a u pc lv ((0, x) :: st) M Q := by
  intro p e R s m args below meth c Qs hC hR H locs cells slots ls hW hS hl hlo hso h1 h2 h3 h4
  have kt := fun z => kt z p e R s m args below meth c Qs hC hR H locs cells slots ls hW hS hl hlo
  have kf := fun z => kf z p e R s m args below meth c Qs hC hR H locs cells slots ls hW hS hl hlo
  have hx : zI x := hso _ List.mem_cons_self
  have hst : ∀ v ∈ st, zok (M 0 0) v := fun v h => hso v (List.mem_cons_of_mem _ h)
  exact lv_if_ge hC.1 hC.2.1 hd ht (fun z => kt ((zi_le zI_0 hx).mp z) hst h1 h2 h3 h4) (fun z => kf (fun y => z ((zi_le zI_0 hx).mpr y)) hst h1 h2 h3 h4)
theorem x_ifgt {x : Int} (hd : decode a.1.2.1 pc = .ok (.ifCond .gt off, 3)) (ht : (pc : Int) + off = (tgt : Int)) (kt : 0 < x → zX G a u tgt lv st M Q) (kf : ¬ 0 < x → zX G a u (pc + 3) lv st M Q) : zX G a u pc lv ((0, x) :: st) M Q := by
  intro p e R s m args below meth c Qs hC hR H locs cells slots ls hW hS hl hlo hso h1 h2 h3 h4
  have kt := fun z => kt z p e R s m args below meth c Qs hC hR H locs cells slots ls hW hS hl hlo
  have kf := fun z => kf z p e R s m args below meth c Qs hC hR H locs cells slots ls hW hS hl hlo
  have hx : zI x := hso _ List.mem_cons_self
  have hst : ∀ v ∈ st, zok (M 0 0) v := fun v h => hso v (List.mem_cons_of_mem _ h)
  exact lv_if_gt hC.1 hC.2.1 hd ht (fun z => kt ((zi_lt zI_0 hx).mp z) hst h1 h2 h3 h4) (fun z => kf (fun y => z ((zi_lt zI_0 hx).mpr y)) hst h1 h2 h3 h4)
theorem x_ifle {x : Int} (hd : decode a.1.2.1 pc = .ok (.ifCond .le off, 3)) (ht : (pc : Int) + off = (tgt : Int)) (kt : x ≤ 0 → zX G a u tgt lv st M Q) (kf : ¬ x ≤ 0 → zX G a u (pc + 3) lv st M Q) : zX G a u pc lv ((0, x) :: st) M Q := by
  intro p e R s m args below meth c Qs hC hR H locs cells slots ls hW hS hl hlo hso h1 h2 h3 h4
  have kt := fun z => kt z p e R s m args below meth c Qs hC hR H locs cells slots ls hW hS hl hlo
  have kf := fun z => kf z p e R s m args below meth c Qs hC hR H locs cells slots ls hW hS hl hlo
  have hx : zI x := hso _ List.mem_cons_self
  have hst : ∀ v ∈ st, zok (M 0 0) v := fun v h => hso v (List.mem_cons_of_mem _ h)
  exact lv_if_le hC.1 hC.2.1 hd ht (fun z => kt ((zi_le hx zI_0).mp z) hst h1 h2 h3 h4) (fun z => kf (fun y => z ((zi_le hx zI_0).mpr y)) hst h1 h2 h3 h4)
theorem x_icmpeq {x y : Int} (hd : decode a.1.2.1 pc = .ok (.if_icmp .eq off, 3)) (ht : (pc : Int) + off = (tgt : Int)) (kt : x = y → zX G a u tgt lv st M Q) (kf : ¬ x = y → zX G a u (pc + 3) lv st M Q) : zX G a u pc lv ((0, y) :: (0, x) :: st) M Q := by
  intro p e R s m args below meth c Qs hC hR H locs cells slots ls hW hS hl hlo hso h1 h2 h3 h4
  have kt := fun z => kt z p e R s m args below meth c Qs hC hR H locs cells slots ls hW hS hl hlo
  have kf := fun z => kf z p e R s m args below meth c Qs hC hR H locs cells slots ls hW hS hl hlo
  have hy : zI y := hso _ List.mem_cons_self
  have hx : zI x := hso _ (List.mem_cons_of_mem _ List.mem_cons_self)
  have hst : ∀ v ∈ st, zok (M 0 0) v := fun v h => hso v (List.mem_cons_of_mem _ (List.mem_cons_of_mem _ h))
  exact lv_icmp_eq hC.1 hC.2.1 hd ht (fun z => kt ((zi_inj hx hy).mp z) hst h1 h2 h3 h4) (fun z => kf (fun y => z ((zi_inj hx hy).mpr y)) hst h1 h2 h3 h4)
theorem x_icmpne {x y : Int} (hd : decode a.1.2.1 pc = .ok (.if_icmp .ne off, 3)) (ht : (pc : Int) + off = (tgt : Int)) (kt : ¬ x = y → zX G a u tgt lv st M Q) (kf : ¬ (¬ x = y) → zX G a u (pc + 3) lv st M Q) : zX G a u pc lv ((0, y) :: (0, x) :: st) M Q := by
  intro p e R s m args below meth c Qs hC hR H locs cells slots ls hW hS hl hlo hso h1 h2 h3 h4
  have kt := fun z => kt z p e R s m args below meth c Qs hC hR H locs cells slots ls hW hS hl hlo
  have kf := fun z => kf z p e R s m args below meth c Qs hC hR H locs cells slots ls hW hS hl hlo
  have hy : zI y := hso _ List.mem_cons_self
  have hx : zI x := hso _ (List.mem_cons_of_mem _ List.mem_cons_self)
  have hst : ∀ v ∈ st, zok (M 0 0) v := fun v h => hso v (List.mem_cons_of_mem _ (List.mem_cons_of_mem _ h))
  exact lv_icmp_ne hC.1 hC.2.1 hd ht (fun z => kt ((not_congr (zi_inj hx hy)).mp z) hst h1 h2 h3 h4) (fun z => kf (fun y => y ((zi_inj hx hy).mp z)) hst h1 h2 h3 h4)
theorem x_icmplt {x y : Int} (hd : decode a.1.2.1 pc = .ok (.if_icmp .lt off, 3)) (ht : (pc : Int) + off = (tgt : Int)) (kt : x < y → zX G a u tgt lv st M Q) (kf : ¬ x < y → zX G a u (pc + 3) lv st M Q) : zX G a u pc lv ((0, y) :: (0, x) :: st) M Q := by
  intro p e R s m args below meth c Qs hC hR H locs cells slots ls hW hS hl hlo hso h1 h2 h3 h4
  have kt := fun z => kt z p e R s m args below meth c Qs hC hR H locs cells slots ls hW hS hl hlo
  have kf := fun z => kf z p e R s m args below meth c Qs hC hR H locs cells slots ls hW hS hl hlo
  have hy : zI y := hso _ List.mem_cons_self
  have hx : zI x := hso _ (List.mem_cons_of_mem _ List.mem_cons_self)
  have hst : ∀ v ∈ st, zok (M 0 0) v := fun v h => hso v (List.mem_cons_of_mem _ (List.mem_cons_of_mem _ h))
  exact lv_icmp_lt hC.1 hC.2.1 hd ht (fun z => kt ((zi_lt hx hy).mp z) hst h1 h2 h3 h4) (fun z => kf (fun y => z ((zi_lt hx hy).mpr y)) hst h1 h2 h3 h4)
theorem x_icmpge {x y : Int} (hd : decode a.1.2.1 pc = .ok (.if_icmp .ge off, 3)) (ht : (pc : Int) + off = (tgt : Int)) (kt : y ≤ x → zX G a u tgt lv st M Q) (kf : ¬ y ≤ x → zX G a u (pc + 3) lv st M Q) : zX G a u pc lv ((0, y) :: (0, x) :: st) M Q := by
  intro p e R s m args below meth c Qs hC hR H locs cells slots ls hW hS hl hlo hso h1 h2 h3 h4
  have kt := fun z => kt z p e R s m args below meth c Qs hC hR H locs cells slots ls hW hS hl hlo
  have kf := fun z => kf z p e R s m args below meth c Qs hC hR H locs cells slots ls hW hS hl hlo
  have hy : zI y := hso _ List.mem_cons_self
  have hx : zI x := hso _ (List.mem_cons_of_mem _ List.mem_cons_self)
  have hst : ∀ v ∈ st, zok (M 0 0) v := fun v h => hso v (List.mem_cons_of_mem _ (List.mem_cons_of_mem _ h))
  exact lv_icmp_ge hC.1 hC.2.1 hd ht (fun z => kt ((zi_le hy hx).mp z) hst h1 h2 h3 h4) (fun z => kf (fun y => z ((zi_le hy hx).mpr y)) hst h1 h2 h3 h4)
theorem x_icmpgt {x y : Int} (hd : decode a.1.2.1 pc = .ok (.if_icmp .gt off, 3)) (ht : (pc : Int) + off = (tgt : Int)) (kt : y < x → zX G a u tgt lv st M Q) (kf : ¬ y < x → zX G a u (pc + 3) lv st M Q) : zX G a u pc lv ((0, y) :: (0, x) :: st) M Q := by
  intro p e R s m args below meth c Qs hC hR H locs cells slots ls hW hS hl hlo hso h1 h2 h3 h4
  have kt := fun z => kt z p e R s m args below meth c Qs hC hR H locs cells slots ls hW hS hl hlo
  have kf := fun z => kf z p e R s m args below meth c Qs hC hR H locs cells slots ls hW hS hl hlo
  have hy : zI y := hso _ List.mem_cons_self
  have hx : zI x := hso _ (List.mem_cons_of_mem _ List.mem_cons_self)
  have hst : ∀ v ∈ st, zok (M 0 0) v := fun v h => hso v (List.mem_cons_of_mem _ (List.mem_cons_of_mem _ h))
  exact lv_icmp_gt hC.1 hC.2.1 hd ht (fun z => kt ((zi_lt hy hx).mp z) hst h1 h2 h3 h4) (fun z => kf (fun y => z ((zi_lt hy hx).mpr y)) hst h1 h2 h3 h4)
theorem x_icmple {x y : Int} (hd : decode a.1.2.1 pc = .ok (.if_icmp .le off, 3)) (ht : (pc : Int) + off = (tgt : Int)) (kt : x ≤ y → zX G a u tgt lv st M Q) (kf : ¬ x ≤ y → zX G a u (pc + 3) lv st M Q) : zX G a u pc lv ((0, y) :: (0, x) :: st) M Q := by
  intro p e R s m args below meth c Qs hC hR H locs cells slots ls hW hS hl hlo hso h1 h2 h3 h4
  have kt := fun z => kt z p e R s m args below meth c Qs hC hR H locs cells slots ls hW hS hl hlo
  have kf := fun z => kf z p e R s m args below meth c Qs hC hR H locs cells slots ls hW hS hl hlo
  have hy : zI y := hso _ List.mem_cons_self
  have hx : zI x := hso _ (List.mem_cons_of_mem _ List.mem_cons_self)
  have hst : ∀ v ∈ st, zok (M 0 0) v := fun v h => hso v (List.mem_cons_of_mem _ (List.mem_cons_of_mem _ h))
  exact lv_icmp_le hC.1 hC.2.1 hd ht (fun z => kt ((zi_le hx hy).mp z) hst h1 h2 h3 h4) (fun z => kf (fun y => z ((zi_le hx hy).mpr y)) hst h1 h2 h3 h4)
theorem x_lcmp_eq {x y : Int} (hd : decode a.1.2.1 pc = .ok (.lcmp, 1)) (hd2 : decode a.1.2.1 (pc + 1) = .ok (.ifCond .eq off, 3)) (ht : ((pc + 1 : Nat) : Int) + off = (tgt : Int)) (kt : x = y → zX G a u tgt lv st M Q) (kf : ¬ x = y → zX G a u (pc + 4) lv st M Q) : zX G a u pc lv ((1, y) :: (1, x) :: st) M Q :=
  x_lcmp hd (x_ifeq hd2 ht (fun z => kt ((zcmp_eq x y).mp z)) (fun z => kf (fun w => z ((zcmp_eq x y).mpr w))))
theorem x_lcmp_ne {x y : Int} (hd : decode a.1.2.1 pc = .ok (.lcmp, 1)) (hd2 : decode a.1.2.1 (pc + 1) = .ok (.ifCond .ne off, 3)) (ht : ((pc + 1 : Nat) : Int) + off = (tgt : Int)) (kt : ¬ x = y → zX G a u tgt lv st M Q) (kf : ¬ (¬ x = y) → zX G a u (pc + 4) lv st M Q) : zX G a u pc lv ((1, y) :: (1, x) :: st) M Q :=
  x_lcmp hd (x_ifne hd2 ht (fun z => kt ((not_congr (zcmp_eq x y)).mp z)) (fun z => kf (fun w => z ((not_congr (zcmp_eq x y)).mpr w))))
theorem x_lcmp_lt {x y : Int} (hd : decode a.1.2.1 pc = .ok (.lcmp, 1)) (hd2 : decode a.1.2.1 (pc + 1) = .ok (.ifCond .lt off, 3)) (ht : ((pc + 1 : Nat) : Int) + off = (tgt : Int)) (kt : x < y → zX G a u tgt lv st M Q) (kf : ¬ x < y → zX G a u (pc + 4) lv st M Q) : zX G a u pc lv ((1, y) :: (1, x) :: st) M Q :=
  x_lcmp hd (x_iflt hd2 ht (fun z => kt ((zcmp_lt x y).mp z)) (fun z => kf (fun w => z ((zcmp_lt x y).mpr w))))
theorem x_lcmp_ge {x y : Int} (hd : decode a.1.2.1 pc = .ok (.lcmp, 1)) (hd2 : decode a.1.2.1 (pc + 1) = .ok (.ifCond .ge off, 3)) (ht : ((pc + 1 : Nat) : Int) + off = (tgt : Int)) (kt : y ≤ x → zX G a u tgt lv st M Q) (kf : ¬ y ≤ x → zX G a u (pc + 4) lv st M Q) : zX G a u pc lv ((1, y) :: (1, x) :: st) M Q :=
  x_lcmp hd (x_ifge hd2 ht (fun z => kt ((zcmp_ge x y).mp z)) (fun z => kf (fun w => z ((zcmp_ge x y).mpr w))))
theorem x_lcmp_gt {x y : Int} (hd : decode a.1.2.1 pc = .ok (.lcmp, 1)) (hd2 : decode a.1.2.1 (pc + 1) = .ok (.ifCond .gt off, 3)) (ht : ((pc + 1 : Nat) : Int) + off = (tgt : Int)) (kt : y < x → zX G a u tgt lv st M Q) (kf : ¬ y < x → zX G a u (pc + 4) lv st M Q) : zX G a u pc lv ((1, y) :: (1, x) :: st) M Q :=
  x_lcmp hd (x_ifgt hd2 ht (fun z => kt ((zcmp_gt x y).mp z)) (fun z => kf (fun w => z ((zcmp_gt x y).mpr w))))
theorem x_lcmp_le {x y : Int} (hd : decode a.1.2.1 pc = .ok (.lcmp, 1)) (hd2 : decode a.1.2.1 (pc + 1) = .ok (.ifCond .le off, 3)) (ht : ((pc + 1 : Nat) : Int) + off = (tgt : Int)) (kt : x ≤ y → zX G a u tgt lv st M Q) (kf : ¬ x ≤ y → zX G a u (pc + 4) lv st M Q) : zX G a u pc lv ((1, y) :: (1, x) :: st) M Q :=
  x_lcmp hd (x_ifle hd2 ht (fun z => kt ((zcmp_le x y).mp z)) (fun z => kf (fun w => z ((zcmp_le x y).mpr w))))
theorem x_ifnull {x : Int} (hd : decode a.1.2.1 pc = .ok (.ifnull off, 3)) (ht : (pc : Int) + off = (tgt : Int)) (kt : x = 0 → zX G a u tgt lv st M Q) (kf : ¬ x = 0 → zX G a u (pc + 3) lv st M Q) : zX G a u pc lv ((2, x) :: st) M Q := by
  intro p e R s m args below meth c Qs hC hR H locs cells slots ls hW hS hl hlo hso h1 h2 h3 h4
  have kt := fun z => kt z p e R s m args below meth c Qs hC hR H locs cells slots ls hW hS hl hlo
  have kf := fun z => kf z p e R s m args below meth c Qs hC hR H locs cells slots ls hW hS hl hlo
  have hst : ∀ v ∈ st, zok (M 0 0) v := fun v h => hso v (List.mem_cons_of_mem _ h)
  by_cases z : x = 0
  · subst z
    exact lv_ifnullN hC.1 hC.2.1 hd ht (kt rfl hst h1 h2 h3 h4)
  · obtain ⟨q, hq⟩ : ∃ q, zcv G (2, x) = .ref q := by
      show ∃ q, va_rf (zro G x) = .ref q
      unfold zro
      rw [if_neg z]
      split
      · exact ⟨_, rfl⟩
      · split
        · exact ⟨_, rfl⟩
        · split <;> exact ⟨_, rfl⟩
    simp only [List.map_cons, hq]
    exact lv_ifnull hC.1 hC.2.1 hd (kf z hst h1 h2 h3 h4)
theorem x_ifnonnull {x : Int} (hd : decode a.1.2.1 pc = .ok (.ifnonnull off, 3)) (ht : (pc : Int) + off = (tgt : Int)) (kt : ¬ x = 0 → zX G a u tgt lv st M Q) (kf : ¬ ¬ x = 0 → zX G a u (pc + 3) lv st M Q) : zX G a u pc lv ((2, x) :: st) M Q := by
  intro p e R s m args below meth c Qs hC hR H locs cells slots ls hW hS hl hlo hso h1 h2 h3 h4
  have kt := fun z => kt z p e R s m args below meth c Qs hC hR H locs cells slots ls hW hS hl hlo
  have kf := fun z => kf z p e R s m args below meth c Qs hC hR H locs cells slots ls hW hS hl hlo
  have hst : ∀ v ∈ st, zok (M 0 0) v := fun v h => hso v (List.mem_cons_of_mem _ h)
  by_cases z : x = 0
  · subst z
    exact lv_ifnonnullN hC.1 hC.2.1 hd (kf (fun h => h rfl) hst h1 h2 h3 h4)
  · obtain ⟨q, hq⟩ : ∃ q, zcv G (2, x) = .ref q := by
      show ∃ q, va_rf (zro G x) = .ref q
      unfold zro
      rw [if_neg z]
      split
      · exact ⟨_, rfl⟩
      · split
        · exact ⟨_, rfl⟩
        · split <;> exact ⟨_, rfl⟩
    simp only [List.map_cons, hq]
    exact lv_ifnonnull hC.1 hC.2.1 hd ht (kt z hst h1 h2 h3 h4)
end ZR
