theorem zSk_mono {M M' : zM} {s : Int} (e : ∀ j, M' s j = M s j) : ∀ {st : List Int}, zSk M s st → zSk M' s st
  | [], _ => trivial
  | _ :: _, h => ⟨by rw [e]; exact h.1, zSk_mono e h.2⟩
theorem zScn.two {M M' : zM} {G : zG} {h sl : Nat} {q : Bool} {l3 : Int} {ok : Int → Bool} {E : (Int → Int) × (Int → Int → Int)} (hh : M = M') (k : zScn G h sl q l3 ok E M) : zScn G h sl q l3 ok E M' := hh ▸ k
set_option maxHeartbeats 4000000 in
theorem c_runL {G : zG} {h sl : Nat} (hsl : 1 ≤ sl) {o l3 to : Int} (hk : zK o = (0, 0)) {ok : Int → Bool} {E : (Int → Int) × (Int → Int → Int)} {q : Bool} (hE : zEok ok E) (hix : ∀ v, 40 ≤ v → v < 60 → ok v = true → 0 ≤ zix q v ∧ zix q v ≤ 20) {M0 : zM} {Q : Int → zM → Prop} {ty : Bool}
    (hS : ∀ M, zSm (fun a _ => a = o + 2) M0 M → zScn G (h + 1) sl q l3 ok E M) (ht : to ≤ M0 o 2) (hm : M0 o 2 ≤ 1600) :
    ∀ (cs : List Int) {i : Int} {ts : List Bool} {st : List Int} {M : zM} {u : Nat × Nat × Nat × Nat}, zSm (fun a _ => a = o + 2) M0 M → 0 ≤ i → i + cs.length = to → zSeg q M0 (o + 1) i cs → zty ok cs ts = some [ty] → zvt ts st → ts.length ≤ 64 → zSk M (o + 2) st →
    (∀ M', zSm (fun a _ => a = o + 2) M0 M' → Q ((zrn E cs st).headD 0) M') → zX G (y_Code_run, h + 1 + 1, sl) u 6 [(0, (2, o)), (2, (0, to)), (3, (2, l3)), (4, (0, (st.length : Int))), (5, (0, i))] [] M Q
  | [], i, ts, st, M, u, hM, h0, hi, hs, hz, hv, hl, hst, kq => by
    injection hz with hz
    subst hz
    have hlen := zvt_len hv
    match st, hlen, hst, kq with
    | [a], _, hst, kq =>
      refine B_Code_run_6 hsl ⟨fun c => ?_, fun c => ?_⟩
      · refine B_Code_run_194 hsl ⟨fun c2 => absurd rfl c2, fun _ => ⟨hk, ?_⟩⟩
        have e : M (o + 2) 0 = a := hst.1
        rw [e]
        exact kq M hM
      · simp only [List.length_nil] at hi
        omega
  | v :: cs, i, ts, st, M, u, hM, h0, hi, hs, hz, hv, hl, hst, kq => by
    simp only [List.length_cons] at hi
    have hlen := zvt_len hv
    unfold zty at hz
    cases hq : ztq ok v ts with
    | none => rw [hq] at hz; cases hz
    | some t1 =>
      rw [hq] at hz
      have hz : zty ok cs t1 = some [ty] := hz
      have hv1 := zst_ty hE hq hv
      have hsz : M o 2 = M0 o 2 := hM o 2 (by omega)
      have hco : M (o + 1) i = zcc q v := by rw [hM _ _ (by omega)]; exact hs.1
      have hw : ∀ x k, zSm (fun a _ => a = o + 2) M0 (zwr M (o + 2) k x) := fun x k => hM.wr rfl
      have go : ∀ (M' : zM) (st' : List Int), zSm (fun a _ => a = o + 2) M0 M' → zst E v st = st' → t1.length ≤ 64 → zSk M' (o + 2) st' → zX G (y_Code_run, h + 1 + 1, sl) u 6 [(0, (2, o)), (2, (0, to)), (3, (2, l3)), (4, (0, (st'.length : Int))), (5, (0, i + 1))] [] M' Q := fun M' st' hM' e hl' hst' =>
        c_runL (G := G) (h := h) (Q := Q) (ty := ty) hsl (u := u) hk hE hix hS ht hm cs (i := i + 1) (ts := t1) (st := st') (M := M') hM' (by omega) (by omega) hs.2 hz (e ▸ hv1) hl' hst' (by rw [← e]; exact kq)
      have hS1 := hS M hM
      have hlt : ¬ to ≤ i := by omega
      have hlt2 : ¬ M o 2 ≤ i := by omega
      unfold ztq at hq
      split at hq
      · rename_i g1
        split at hq
        · rename_i g2
          injection hq with hq
          have hc : zcc q v = (v - 1000) * 16 := by unfold zcc; rw [if_pos g1]
          have hmd : Int.tmod (M (o + 1) i) 16 = 0 ∧ Int.tdiv (M (o + 1) i) 16 = v - 1000 := by
            rw [hco, hc]
            have := ztm (x := (v - 1000) * 16) (by omega)
            omega
          refine B_Code_run_6 hsl ⟨fun c => absurd c hlt, fun _ => ⟨hk, fun c => absurd c hlt2, fun _ => ⟨⟨by omega, by omega⟩, by unfold zI; omega, fun c => absurd c (by omega), fun _ => ⟨fun _ => ⟨fun c => absurd hmd.1 c, fun _ => ⟨⟨by omega, by omega⟩, by unfold zI; omega, by unfold zI; omega, ?_⟩⟩, fun c => absurd (by omega) c⟩⟩⟩⟩
          rw [hmd.2]
          have := go (M' := zwr M (o + 2) st.length (v - 1000)) (st' := (v - 1000) :: st) (hw _ _) (by cases st <;> simp only [zst, if_pos g1]) (by rw [← hq]; simp; omega) ⟨zwr_s _ _ _ _, zSk_wr hst (by omega)⟩
          simpa using this
        · cases hq
      rename_i n1
      split at hq
      · rename_i g1
        split at hq
        · rename_i g2
          injection hq with hq
          match st, hst, hlen, hv, go, kq with
          | a :: r, hst, hlen, hv, go, kq =>
            have ha : -1000000 ≤ a ∧ a ≤ 1000000 := by
              match ts, hv, g2 with
              | t :: ts, hv, g2 =>
                have : t = false := by simpa using g2.2.2
                subst this
                simpa using hv.1
            have hc : zcc q v = (v - 60) * 16 + 2 := by unfold zcc; rw [if_neg n1, if_pos g1]
            have hmd : Int.tmod (M (o + 1) i) 16 = 2 ∧ Int.tdiv (M (o + 1) i) 16 = v - 60 := by
              rw [hco, hc]
              have := ztm (x := (v - 60) * 16 + 2) (by omega)
              omega
            have htop : M (o + 2) (((a :: r).length : Int) - 1) = a := by
              have := hst.1
              simp only [List.length_cons]
              rw [show ((r.length + 1 : Nat) : Int) - 1 = r.length from by omega]
              exact this
            have hl2 : ((a :: r).length : Int) ≤ 64 := by omega
            have hl3 : 1 ≤ ((a :: r).length : Int) := by simp only [List.length_cons]; omega
            refine B_Code_run_6 hsl ⟨fun c => absurd c hlt, fun _ => ⟨hk, fun c => absurd c hlt2, fun _ => ⟨⟨by omega, by omega⟩, by unfold zI; omega, fun _ => ⟨fun c => absurd c (by omega), fun _ => ⟨fun _ => ⟨by unfold zI; omega, ⟨by omega, by omega⟩, fun _ => ?_, fun c => absurd (by omega) c⟩, fun c => absurd hl3 c⟩⟩, fun c => absurd (by omega) c⟩⟩⟩
            rw [hmd.2, htop]
            refine hS1.2 v a _ g1 g2.2.1 g2.1 ha ⟨by unfold zI; omega, ?_⟩
            have := go (M' := zwr M (o + 2) (((a :: r).length : Int) - 1) (E.2 (v - 60) a)) (st' := E.2 (v - 60) a :: r) (hw _ _) (by simp only [zst, if_neg n1, if_pos g1]) (by rw [← hq]; exact hl) ⟨by simp only [List.length_cons]; rw [show ((r.length + 1 : Nat) : Int) - 1 = r.length from by omega]; exact zwr_s _ _ _ _, zSk_wr hst.2 (by simp only [List.length_cons]; omega)⟩
            simpa using this
          | [], hst, hlen, hv, go, kq =>
            have : ts = [] := by simpa using hlen.symm
            subst this
            simp at g2
        · cases hq
      rename_i n2
      split at hq
      · rename_i g1
        split at hq
        · rename_i g2
          injection hq with hq
          have hx := hix v g1 (by omega) g2.1
          have hc : zcc q v = zix q v * 16 + 1 := by unfold zcc; rw [if_neg n1, if_neg n2, if_pos g1]
          have hmd : Int.tmod (M (o + 1) i) 16 = 1 ∧ Int.tdiv (M (o + 1) i) 16 = zix q v := by
            rw [hco, hc]
            have := ztm (x := zix q v * 16 + 1) (by omega)
            omega
          refine B_Code_run_6 hsl ⟨fun c => absurd c hlt, fun _ => ⟨hk, fun c => absurd c hlt2, fun _ => ⟨⟨by omega, by omega⟩, by unfold zI; omega, fun c => absurd c (by omega), fun _ => ⟨fun _ => ⟨fun _ => ?_, fun c => absurd (by omega) c⟩, fun c => absurd (by omega) c⟩⟩⟩⟩
          rw [hmd.2]
          refine hS1.1 v _ g1 (by omega) g2.1 ⟨⟨by omega, by omega⟩, by unfold zI; omega, by unfold zI; omega, ?_⟩
          have := go (M' := zwr M (o + 2) st.length (E.1 (v - 40))) (st' := E.1 (v - 40) :: st) (hw _ _) (by cases st <;> simp only [zst, if_neg n1, if_neg n2, if_pos g1]) (by rw [← hq]; simp; omega) ⟨zwr_s _ _ _ _, zSk_wr hst (by omega)⟩
          simpa using this
        · cases hq
      rename_i n3
      split at hq
      · rename_i g1
        split at hq
        · rename_i g2
          injection hq with hq
          subst g1
          have hc : zcc q 13 = 16 := by unfold zcc; simp
          have hmd : Int.tmod (M (o + 1) i) 16 = 0 ∧ Int.tdiv (M (o + 1) i) 16 = 1 := by
            rw [hco, hc]
            have := ztm (x := 16) (by omega)
            omega
          refine B_Code_run_6 hsl ⟨fun c => absurd c hlt, fun _ => ⟨hk, fun c => absurd c hlt2, fun _ => ⟨⟨by omega, by omega⟩, by unfold zI; omega, fun c => absurd c (by omega), fun _ => ⟨fun _ => ⟨fun c => absurd hmd.1 c, fun _ => ⟨⟨by omega, by omega⟩, by unfold zI; omega, by unfold zI; omega, ?_⟩⟩, fun c => absurd (by omega) c⟩⟩⟩⟩
          rw [hmd.2]
          have := go (M' := zwr M (o + 2) st.length 1) (st' := 1 :: st) (hw _ _) (by cases st <;> simp [zst]) (by rw [← hq]; simp; omega) ⟨zwr_s _ _ _ _, zSk_wr hst (by omega)⟩
          simpa using this
        · cases hq
      rename_i n4
      split at hq
      · rename_i g1
        split at hq
        · rename_i g2
          injection hq with hq
          subst g1
          match st, hst, hlen, hv, go, kq with
          | a :: r, hst, hlen, hv, go, kq =>
            have ha : a = 0 ∨ a = 1 := by
              match ts, hv, g2 with
              | t :: ts, hv, g2 =>
                have : t = true := by simpa using g2
                subst this
                simpa using hv.1
            have hc : zcc q 12 = 3 := by unfold zcc; simp
            have hmd : Int.tmod (M (o + 1) i) 16 = 3 := by
              rw [hco, hc]
              rfl
            have htop : M (o + 2) (((a :: r).length : Int) - 1) = a := by
              have := hst.1
              simp only [List.length_cons]
              rw [show ((r.length + 1 : Nat) : Int) - 1 = r.length from by omega]
              exact this
            have hl2 : ((a :: r).length : Int) ≤ 64 := by omega
            have hl3 : 1 ≤ ((a :: r).length : Int) := by simp only [List.length_cons]; omega
            have hdi : zI (Int.tdiv (M (o + 1) i) 16) := by
              rw [hco, hc]
              exact zIl rfl
            refine B_Code_run_6 hsl ⟨fun c => absurd c hlt, fun _ => ⟨hk, fun c => absurd c hlt2, fun _ => ⟨⟨by omega, by omega⟩, hdi, fun _ => ⟨fun c => absurd c (by omega), fun _ => ⟨fun _ => ⟨by unfold zI; omega, ⟨by omega, by omega⟩, fun c => absurd hmd c, fun _ => ⟨?_, by unfold zI; omega, ?_⟩⟩, fun c => absurd hl3 c⟩⟩, fun c => absurd (by omega) c⟩⟩⟩
            · rw [htop]
              unfold zI
              omega
            rw [htop]
            have := go (M' := zwr M (o + 2) (((a :: r).length : Int) - 1) (1 - a)) (st' := (1 - a) :: r) (hw _ _) (by simp [zst]) (by rw [← hq]; exact hl) ⟨by simp only [List.length_cons]; rw [show ((r.length + 1 : Nat) : Int) - 1 = r.length from by omega]; exact zwr_s _ _ _ _, zSk_wr hst.2 (by simp only [List.length_cons]; omega)⟩
            simpa using this
          | [], hst, hlen, hv, go, kq =>
            have : ts = [] := by simpa using hlen.symm
            subst this
            simp at g2
        · cases hq
      rename_i n5
      split at hq
      · cases hq
      rename_i n6
      have hjo : ∃ a b r, st = a :: b :: r ∧ v ≤ 11 ∧ t1.length + 1 = ts.length ∧ (v ≤ 9 → (-1000000 ≤ b ∧ b ≤ 1000000) ∧ (-1000000 ≤ a ∧ a ≤ 1000000)) ∧ (10 ≤ v → (b = 0 ∨ b = 1) ∧ (a = 0 ∨ a = 1)) := by
        split at hq
        · rename_i g1
          split at hq
          · rename_i g2
            injection hq with hq
            match ts, st, hq, g2, hv with
            | t :: u :: ts, a :: b :: st, hq, g2, hv =>
              have hh : t = false ∧ u = false := by simpa using g2
              obtain ⟨rfl, rfl⟩ := hh
              exact ⟨a, b, st, rfl, by omega, by rw [← hq]; simp, fun _ => ⟨by simpa using hv.2.1, by simpa using hv.1⟩, fun c => absurd c (by omega)⟩
            | [_], _, _, g2, _ => simp at g2
            | [], _, _, g2, _ => simp at g2
            | _ :: _ :: _, [], _, _, hv => exact hv.elim
            | _ :: _ :: _, [_], _, _, hv => exact hv.2.elim
          · cases hq
        split at hq
        · rename_i g1
          split at hq
          · rename_i g2
            injection hq with hq
            match ts, st, hq, g2, hv with
            | t :: u :: ts, a :: b :: st, hq, g2, hv =>
              have hh : t = false ∧ u = false := by simpa using g2
              obtain ⟨rfl, rfl⟩ := hh
              exact ⟨a, b, st, rfl, by omega, by rw [← hq]; simp, fun _ => ⟨by simpa using hv.2.1, by simpa using hv.1⟩, fun c => absurd c (by omega)⟩
            | [_], _, _, g2, _ => simp at g2
            | [], _, _, g2, _ => simp at g2
            | _ :: _ :: _, [], _, _, hv => exact hv.elim
            | _ :: _ :: _, [_], _, _, hv => exact hv.2.elim
          · cases hq
        split at hq
        · rename_i g2
          injection hq with hq
          match ts, st, hq, g2, hv with
          | t :: u :: ts, a :: b :: st, hq, g2, hv =>
            have hh : t = true ∧ u = true := by simpa using g2.2
            obtain ⟨rfl, rfl⟩ := hh
            exact ⟨a, b, st, rfl, by omega, by rw [← hq]; simp, fun c => absurd c (by omega), fun _ => ⟨by simpa using hv.2.1, by simpa using hv.1⟩⟩
          | [_], _, _, g2, _ => simp at g2
          | [], _, _, g2, _ => simp at g2
          | _ :: _ :: _, [], _, _, hv => exact hv.elim
          | _ :: _ :: _, [_], _, _, hv => exact hv.2.elim
        · cases hq
      clear hq
      obtain ⟨a, b, r, rfl, g1, htl, hsum, hlog⟩ := hjo
      have hc : zcc q v = v + 3 := by unfold zcc; rw [if_neg n1, if_neg n2, if_neg n3, if_neg n4, if_neg n5]
      have hmd : Int.tmod (M (o + 1) i) 16 = v + 3 := by
        rw [hco, hc]
        have := ztm (x := v + 3) (by omega)
        omega
      have hdi : zI (Int.tdiv (M (o + 1) i) 16) := by
        rw [hco, hc]
        have := ztm (x := v + 3) (by omega)
        unfold zI
        omega
      have hla : ((a :: b :: r).length : Int) = r.length + 2 := by simp only [List.length_cons]; omega
      have hl2 : ((a :: b :: r).length : Int) ≤ 64 := by omega
      have e1 : ((a :: b :: r).length : Int) + -1 = r.length + 1 := by omega
      have e2 : ((a :: b :: r).length : Int) + -1 - 1 = r.length := by omega
      have hta : M (o + 2) (r.length + 1) = a := by
        have := hst.1
        simp only [List.length_cons] at this
        rw [← this]
        congr 1
      have htb : M (o + 2) r.length = b := hst.2.1
      refine B_Code_run_6 hsl ⟨fun c => absurd c hlt, fun _ => ⟨hk, fun c => absurd c hlt2, fun _ => ⟨⟨by omega, by omega⟩, hdi, fun _ => ⟨fun _ => ⟨fun _ => ⟨by unfold zI; omega, by unfold zI; omega, ⟨by omega, by omega⟩, ⟨by omega, by omega⟩, ?_⟩, fun c => absurd (by omega) c⟩, fun c => absurd (by omega) c⟩, fun c => absurd (by omega) c⟩⟩⟩
      rw [hmd, e2, e1, hta, htb]
      refine c_joined hsl (by omega) g1 hsum hlog ⟨by unfold zI; omega, ?_⟩
      have := go (M' := zwr M (o + 2) (r.length : Int) (zop v b a)) (st' := zop v b a :: r) (hw _ _) (by simp only [zst, if_neg n1, if_neg n2, if_neg n3, if_neg n4, if_neg n5]) (by omega) ⟨zwr_s _ _ _ _, zSk_wr hst.2.2 (by omega)⟩
      simpa using this
theorem c_run {G : zG} {h sl : Nat} (hsl : 1 ≤ sl) {o l3 i to : Int} (hk : zK o = (0, 0)) {ok : Int → Bool} {E : (Int → Int) × (Int → Int → Int)} {q : Bool} (hE : zEok ok E) (hix : ∀ v, 40 ≤ v → v < 60 → ok v = true → 0 ≤ zix q v ∧ zix q v ≤ 20) {M : zM} {Q : Int → zM → Prop} {ty : Bool} {cs : List Int}
    (hS : ∀ M', zSm (fun a _ => a = o + 2) M M' → zScn G (h + 1) sl q l3 ok E M') (ht : to ≤ M o 2) (hm : M o 2 ≤ 1600) (h0 : 0 ≤ i) (hi : i + cs.length = to) (hs : zSeg q M (o + 1) i cs) (hz : zty ok cs [] = some [ty]) (kq : ∀ M', zSm (fun a _ => a = o + 2) M M' → Q (zval E cs) M') : zCt G (h + 1 + 1) sl 0 0 y_Code_run [(2, o), (0, i), (0, to), (2, l3)] M Q :=
  E_Code_run hsl (c_runL hsl hk hE hix hS ht hm cs (st := []) (ts := []) (zSm.refl _ _) h0 hi hs hz trivial (by simp) trivial kq)
theorem zval_in {ok : Int → Bool} {E : (Int → Int) × (Int → Int → Int)} (hE : zEok ok E) {cs : List Int} {ty : Bool} (hz : zty ok cs [] = some [ty]) : if ty = true then zval E cs = 0 ∨ zval E cs = 1 else -1000000 ≤ zval E cs ∧ zval E cs ≤ 1000000 := by
  have h := zrn_ty hE hz (show zvt [] [] from trivial)
  unfold zval
  match he : zrn E cs [], h with
  | [a], h => exact h.1
  | [], h => exact h.elim
  | _ :: _ :: _, h => exact h.2.elim
