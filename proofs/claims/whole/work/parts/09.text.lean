section ZMK
variable {G : zG} {a : zYt × Nat × Nat} {y0 : zYt} {u : Nat × Nat × Nat × Nat} {pc h sl k0 z0 cc ss : Nat} {lv : List (Nat × zV)} {st : List zV} {M : zM} {Q : Int → zM → Prop}
/-- constant texts: number i of the table is -2 - 2 i, its bytes -3 - 2 i -/
theorem zldcW {p : Program} {l : Launch} {e : Env} {R : Room} {s : State} {m : MethodId} {args : Array Value} {below : List Frame} {meth : Method} {c : Code} {T : State} {locs : List Loc} {cells slots : Nat}
    (X : Stand p l e R s m args below meth c T locs cells slots) (hexec : p.tables.exec = Jvm.exec) {own text : String} {index : Nat} {q : Addr} (hown : s.vm.findClass own = some m.cls)
    (hconst : (Cond.stringRef own index text).before #[] s = true) (hev : (Term.string own index).eval #[] s none [] s = some (.ref q)) {g : JFrame} (hg : g.method = m) (hdg : decode c.code g.pc = .ok (.ldc_w index, 3)) :
    ∀ target, Steps p.tables e below (T.setTop { g with pc := g.pc + 3, stack := .ref q :: g.stack }) target → Steps p.tables e below (T.setTop g) target := by
  obtain ⟨k, cf, i, a', hk, hcf, hcp, -, hr, hev'⟩ := Cond.stringRef_spec hown hconst
  cases hev.symm.trans hev'
  obtain ⟨k', hk', he⟩ := X.warmed.alike.2.2 _ _ hk
  have hr' : k'.resolved[index]? = some (some (.string q)) := by
    rcases X.warmed.entry hk hk' index with h | ⟨h, -⟩
    · rw [h]; exact hr
    · rw [hr] at h; cases h
  intro target hrest
  subst hg
  jvm_step X.here [hexec, hdg, ldc_w.wp_string (e := e) (s := T) (f := g) X.here.top hk' (by rw [he]; exact hcf) hcp hr']
  exact hrest
theorem zro_str (G : zG) (i : Nat) : zro G (-2 - 2 * (i : Int)) = some (G.2.2.1 i) := by
  unfold zro
  rw [if_neg (by omega), if_neg (by omega), if_neg (by omega), if_pos (by omega), show (-(-2 - 2 * (i : Int))).toNat / 2 - 1 = i by omega]
theorem zro_byt (G : zG) (i : Nat) : zro G (-3 - 2 * (i : Int)) = some (G.2.2.2 i) := by
  unfold zro
  rw [if_neg (by omega), if_neg (by omega), if_neg (by omega), if_neg (by omega), show (-(-3 - 2 * (i : Int))).toNat / 2 - 1 = i by omega]
theorem x_ldcS {idx i : Nat} {tx : String} {x : Int} (hd : decode a.1.2.1 pc = .ok (.ldc idx, 2)) (hi : zstr[i]? = some (a.1.1.cls, idx, tx)) (hx : -2 - 2 * (i : Int) = x) (k : zX G a u (pc + 2) lv ((2, x) :: st) M Q) : zX G a u pc lv st M Q := by
  refine zX.step (fun p e R s m args below meth c Qs hC k H locs cells slots ls hW hS hl hlo hso h1 h2 h3 h4 => ?_) k
  subst hx
  have kk := k H locs cells slots ls hW hS hl hlo (fun v hv => by
    rcases List.mem_cons.mp hv with rfl | hv
    · show -2 - 2 * (i : Int) ≤ M 0 0
      have := hW.2.2.2.1
      omega
    · exact hso v hv) h1 h2 h3 h4
  simp only [List.map_cons] at kk
  rw [show zcv G (2, -2 - 2 * (i : Int)) = .ref (G.2.2.1 i) by show va_rf (zro G _) = _; rw [zro_str]; rfl] at kk
  exact va_ldcS hC.1 hC.2.1 hC.2.2.2.1 (hC.2.2.2.2.2.2.2.2.2.2.1 i _ hi) hd kk
theorem x_ldcwS {idx i : Nat} {tx : String} {x : Int} (hd : decode a.1.2.1 pc = .ok (.ldc_w idx, 3)) (hi : zstr[i]? = some (a.1.1.cls, idx, tx)) (hx : -2 - 2 * (i : Int) = x) (k : zX G a u (pc + 3) lv ((2, x) :: st) M Q) : zX G a u pc lv st M Q := by
  refine zX.step (fun p e R s m args below meth c Qs hC k H locs cells slots ls hW hS hl hlo hso h1 h2 h3 h4 => ?_) k
  subst hx
  have kk := k H locs cells slots ls hW hS hl hlo (fun v hv => by
    rcases List.mem_cons.mp hv with rfl | hv
    · show -2 - 2 * (i : Int) ≤ M 0 0
      have := hW.2.2.2.1
      omega
    · exact hso v hv) h1 h2 h3 h4
  simp only [List.map_cons] at kk
  rw [show zcv G (2, -2 - 2 * (i : Int)) = .ref (G.2.2.1 i) by show va_rf (zro G _) = _; rw [zro_str]; rfl] at kk
  have hz := hC.2.2.2.2.2.2.2.2.2.2.1 i _ hi
  intro T hT X
  obtain ⟨t, a1, b1⟩ := kk T hT X
  exact ⟨t, zldcW X hC.1 hC.2.2.2.1 hz.1 hz.2 (g := F0 m pc ls (st.map (zcv G))) rfl (by rw [hC.2.1]; exact hd) t a1, b1⟩
end ZMK
