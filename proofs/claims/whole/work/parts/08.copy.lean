section ZMK
variable {G : zG} {a : zYt × Nat × Nat} {y0 : zYt} {u : Nat × Nat × Nat × Nat} {pc h sl k0 z0 cc ss : Nat} {lv : List (Nat × zV)} {st : List zV} {M : zM} {Q : Int → zM → Prop}
theorem x_copy {idx : Nat} {o1 o2 n1 n2 sp dp n : Int} (hd : decode y0.2.1 pc = .ok (.invokestatic idx, 3)) (hw1 : Cond.methodLink y0.1.cls idx arraycopyName ∈ lw_tbl) (hw2 : Cond.native arraycopyName ∈ lw_tbl) (hw3 : Cond.static arraycopyName ∈ lw_tbl) (hw4 : Cond.initialized "java/lang/System" ∈ lw_tbl)
    (ho1 : zK o1 = (100, n1)) (ho2 : zK o2 = (100, n2)) (hsp : 0 ≤ sp) (hdp : 0 ≤ dp) (hn : 0 ≤ n) (hb1 : sp + n ≤ n1) (hb2 : dp + n ≤ n2) (hst : zarn st ≤ 8)
    (k : zX G (y0, h + 1, sl) u (pc + 3) lv st (zob M o2 (fun b => if dp ≤ b ∧ b < dp + n then M o1 (sp + (b - dp)) else M o2 b)) Q) : zX G (y0, h + 1, sl) u pc lv ((0, n) :: (0, dp) :: (2, o2) :: (0, sp) :: (2, o1) :: st) M Q := by
  refine zX.step (fun p e R s m args below meth c Qs hC k H locs cells slots ls hW hS hl hlo hso h1 h2 h3 h4 => ?_) k
  obtain ⟨c1, c2, c3, c4, c5, c6, c7, c8, c9, hE⟩ := hC
  have c6 : h + 1 ≤ R.frames := c6
  have c7 : 41 * (h + 1) ≤ R.locals := c7
  have p1 : 1 ≤ o1 := zK_pos ho1 (by show 100 ≠ 999; omega)
  have p2 : 1 ≤ o2 := zK_pos ho2 (by show 100 ≠ 999; omega)
  have m1 : o1 ≤ M 0 0 := hso (2, o1) (by simp)
  have m2 : o2 ≤ M 0 0 := hso (2, o2) (by simp)
  have z1 : zI n := hso (0, n) (by simp)
  have z2 : zI dp := hso (0, dp) (by simp)
  have z3 : zI sp := hso (0, sp) (by simp)
  have hg1 := zws_get G M p1 m1
  rw [zcell_a G (ai := 0) ho1] at hg1
  have hg2 := zws_get G M p2 m2
  rw [zcell_a G (ai := 0) ho2] at hg2
  have hc0 := hW.2.1 _ _ hg1
  have hc1 := hW.2.1 _ _ hg2
  obtain ⟨-, kk0, hk0, cm0, hkk0⟩ := (hW.1.2 0 _ rfl).1 n1.toNat (fun j => .int (Int32.ofInt (M o1 j)))
  obtain ⟨-, kk1, hk1, cm1, hkk1⟩ := (hW.1.2 0 _ rfl).1 n2.toNat (fun j => .int (Int32.ofInt (M o2 j)))
  have hrest : ((st.map (zcv G)).map fun v => v.category).sum ≤ 8 := by rw [zcats]; exact hst
  simp only [List.map_cons, zcv_pos G p1, zcv_pos G p2]
  intro T hT X
  obtain ⟨vm', X', step⟩ := X.arraycopy c1 c4 (hE.1 _ hw1 rfl) (hE.1 _ hw2 rfl) (hE.1 _ hw3 rfl) (hE.1 _ hw4 rfl) (src := G.2.1.1 + (o1.toNat - 1)) (dst := G.2.1.1 + (o2.toNat - 1)) (cs := vp_cell (G.1.2.2 0) (n1.toNat, .inl (fun j => Int32.ofInt (M o1 j)))) (cd := vp_cell (G.1.2.2 0) (n2.toNat, .inl (fun j => Int32.ofInt (M o2 j)))) (srcPos := Int32.ofInt sp) (destPos := Int32.ofInt dp) (n := Int32.ofInt n) (by rw [hT]; exact hc0) (by rw [hT]; exact hc1)
    (fun _ h => by cases h) (fun _ h => by cases h) (fun h => by cases h) (fun h => by cases h) hk0 hk1 hkk0 hkk1 (by rfl) (fun z => by have := (zi_lt z3 zI_0).mp z; omega) (fun z => by have := (zi_lt z2 zI_0).mp z; omega) (fun z => by have := (zi_lt z1 zI_0).mp z; omega)
    (by rw [zi_to z3, zi_to z1]; show ¬ _ > ((arrV (G.1.2.2 0) n1.toNat (fun j => .int (Int32.ofInt (M o1 j)))).slots.size : Int); rw [arrV_size]; omega)
    (by rw [zi_to z2, zi_to z1]; show ¬ _ > ((arrV (G.1.2.2 0) n2.toNat (fun j => .int (Int32.ofInt (M o2 j)))).slots.size : Int); rw [arrV_size]; omega)
    (fun vm₁ _ i hi => by
      rw [zi_cl z1] at hi
      have e : (vp_cell (G.1.2.2 0) (n1.toNat, .inl (fun j => Int32.ofInt (M o1 j)))).slots.getD ((Int32.ofInt sp).toNatClampNeg + i) .null = .int (Int32.ofInt (M o1 (((Int32.ofInt sp).toNatClampNeg + i : Nat)))) := by
        show (arrV (G.1.2.2 0) n1.toNat (fun j => .int (Int32.ofInt (M o1 j)))).slots.getD _ _ = _
        rw [Array.getD_eq_getD_getElem?, arrV_read _ _ (by rw [zi_cl z3]; omega)]
        rfl
      refine ⟨?_, ?_⟩
      · rw [e]
        rfl
      · rw [e]
        exact trivial)
    (g := F0 m pc ls (.int (Int32.ofInt n) :: .int (Int32.ofInt dp) :: .ref (G.2.1.1 + (o2.toNat - 1)) :: .int (Int32.ofInt sp) :: .ref (G.2.1.1 + (o1.toNat - 1)) :: st.map (zcv G))) rfl (by rw [c3]; exact hl.1) (rest := st.map (zcv G)) rfl (by rw [c2]; exact hd) (by omega) (by
      have e : nativeFrameWords "java/lang/System" "arraycopy" 5 = 7 := by decide +kernel
      show 2 * 0 + _ + _ ≤ _
      rw [e]
      omega)
  have e1 := va_copied (fun z => Value.int z) (G.1.2.2 0) (G.1.2.2 0) (n0 := n1.toNat) (n1 := n2.toNat) (sp := (Int32.ofInt sp).toNatClampNeg) (dp := (Int32.ofInt dp).toNatClampNeg) (n := (Int32.ofInt n).toNatClampNeg) (fun j => Int32.ofInt (M o1 j)) (fun j => Int32.ofInt (M o2 j)) (by rw [zi_cl z3, zi_cl z1]; omega)
  have e2 : copied (vp_cell (G.1.2.2 0) (n1.toNat, .inl (fun j => Int32.ofInt (M o1 j)))) (vp_cell (G.1.2.2 0) (n2.toNat, .inl (fun j => Int32.ofInt (M o2 j)))) (Int32.ofInt sp) (Int32.ofInt dp) (Int32.ofInt n) = arrV (G.1.2.2 0) n2.toNat (fun j => .int (Int32.ofInt (if dp ≤ (j : Int) ∧ (j : Int) < dp + n then M o1 (sp + ((j : Int) - dp)) else M o2 j))) := by
    refine (show copied (arrV (G.1.2.2 0) n1.toNat (fun j => .int (Int32.ofInt (M o1 j)))) (arrV (G.1.2.2 0) n2.toNat (fun j => .int (Int32.ofInt (M o2 j)))) (Int32.ofInt sp) (Int32.ofInt dp) (Int32.ofInt n) = _ from e1).trans ?_
    congr 1
    funext j
    simp only [va_cpy, zi_cl z1, zi_cl z2, zi_cl z3]
    by_cases hq : dp ≤ (j : Int) ∧ (j : Int) < dp + n
    · rw [if_pos hq, if_pos ⟨by omega, by omega⟩]
      congr 3
      omega
    · rw [if_neg hq, if_neg (by omega)]
  rw [e2] at X' step
  have hl1 : G.2.1.1 + (o2.toNat - 1) < H.size := (Array.getElem?_eq_some_iff.mp hc1).1
  generalize hCell : arrV (G.1.2.2 0) n2.toNat (fun j => .int (Int32.ofInt (if dp ≤ (j : Int) ∧ (j : Int) < dp + n then M o1 (sp + ((j : Int) - dp)) else M o2 j))) = CL at X' step
  have hheap : ((T.setVm vm').setCell (G.2.1.1 + (o2.toNat - 1)) CL).heap = H.setIfInBounds (G.2.1.1 + (o2.toNat - 1)) CL := by rw [← hT]; rfl
  have oq : ∀ q : Nat, q ≠ G.2.1.1 + (o2.toNat - 1) → (H.setIfInBounds (G.2.1.1 + (o2.toNat - 1)) CL)[q]? = H[q]? := fun q hq => by simp [Array.getElem?_setIfInBounds, Ne.symm hq]
  have hM := hW.2.2.2.2.1
  have hw' : zW G sl (zob M o2 (fun b => if dp ≤ b ∧ b < dp + n then M o1 (sp + (b - dp)) else M o2 b)) s (H.setIfInBounds (G.2.1.1 + (o2.toNat - 1)) CL) := by
    refine hW.obj p2 m2 ?_ (by simp) oq (fun j => ?_) (fun j => ?_)
    · rw [zcell_a G (ai := 0) ho2]
      refine (show (H.setIfInBounds (G.2.1.1 + (o2.toNat - 1)) CL)[G.2.1.1 + (o2.toNat - 1)]? = some (arrV (G.1.2.2 0) n2.toNat (fun j => .int (Int32.ofInt (if dp ≤ (j : Int) ∧ (j : Int) < dp + n then M o1 (sp + ((j : Int) - dp)) else M o2 j)))) from ?_)
      rw [hCell]
      simp [Array.getElem?_setIfInBounds, hl1]
    · have g1 := (hM o1 (sp + (j - dp)) p1).1
      have g2 := (hM o2 j p2).1
      unfold ztag at g1 g2 ⊢
      rw [ho1] at g1
      rw [ho2] at g2 ⊢
      split
      · exact g1
      · exact g2
    · unfold zlv; rw [ho2]; unfold zkf; split <;> rfl
  have hz : ∀ b, zob M o2 (fun b => if dp ≤ b ∧ b < dp + n then M o1 (sp + (b - dp)) else M o2 b) 0 b = M 0 b := fun b => by rw [zob_o M _ (by omega)]
  obtain ⟨t, a1, b1⟩ := k _ (locs ++ _) cells slots ls hw' ⟨by simp; exact hS.1, fun q g1 g2 => by
      rw [oq q (fun e => g2 (by rw [e]; show G.2.1.1 ≤ _; omega))]
      exact hS.2.1 q g1 g2, fun q hq => by
      rcases List.mem_append.mp hq with h | h
      · exact hS.2.2 q h
      · obtain ⟨z, -, hz⟩ := List.mem_map.mp h
        rw [← hz]
        show G.2.1.1 ≤ G.2.1.1 + (o2.toNat - 1)
        omega⟩ hl (fun q hq => by rw [hz]; exact hlo q hq) (fun v hv => by rw [hz]; exact hso v (by simp [hv])) h1 h2 h3 h4 _ hheap X'
  exact ⟨t, step t a1, b1⟩
end ZMK
