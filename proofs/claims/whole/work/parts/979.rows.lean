/-! WHAT IS MADE: rows (by wip/whole/gen/inits.py); a store by its writes, the newest first. -/
theorem zwo {M : zM} {o k v c : Int} (h : o ≠ 0) (hm : M 0 0 = c) : zwr M o k v 0 0 = c := (zwr_o M (fun e => h e.symm)).trans hm
theorem zvs2 {M : zM} {c : Int} : zwr M 0 0 c 0 0 = c := zwr_s _ _ _ _
theorem zwk {M : zM} {o k v a b w : Int} (h : ¬ (a = o ∧ b = k)) (hm : M a b = w) : zwr M o k v a b = w := by rw [zwr_i, if_neg h]; exact hm
def zvl2 : List (Int × Int × Int) → zM → zM
  | [], M => M
  | (o, k, v) :: r, M => zwr (zvl2 r M) o k v
def zvk2 : List (Int × Int × Int) → Int → Int → Option Int
  | [], _, _ => none
  | (o, k, v) :: r, a, b => if a = o ∧ b = k then some v else zvk2 r a b
theorem zvl2_at : ∀ {l : List (Int × Int × Int)} {M : zM} {a b v : Int}, zvk2 l a b = some v → zvl2 l M a b = v
  | [], _, _, _, _, h => by nomatch h
  | (o, k, w) :: r, M, a, b, v, h => by
    have h : (if a = o ∧ b = k then some w else zvk2 r a b) = some v := h
    show zwr (zvl2 r M) o k w a b = v
    by_cases c : a = o ∧ b = k
    · rw [if_pos c] at h
      injection h with h
      rw [zwr_i, if_pos c]; exact h
    · rw [if_neg c] at h
      rw [zwr_i, if_neg c]; exact zvl2_at h
theorem zvl2_none : ∀ {l : List (Int × Int × Int)} {M : zM} {a b : Int}, zvk2 l a b = none → zvl2 l M a b = M a b
  | [], _, _, _, _ => rfl
  | (o, k, w) :: r, M, a, b, h => by
    have h : (if a = o ∧ b = k then some w else zvk2 r a b) = none := h
    show zwr (zvl2 r M) o k w a b = M a b
    by_cases c : a = o ∧ b = k
    · rw [if_pos c] at h; nomatch h
    · rw [if_neg c] at h
      rw [zwr_i, if_neg c]; exact zvl2_none h
theorem zvl2_no {l : List (Int × Int × Int)} {M : zM} {a b w : Int} (h : zvk2 l a b = none) (hm : M a b = w) : zvl2 l M a b = w := (zvl2_none h).trans hm
section
variable {G : zG} {a : zYt × Nat × Nat} {u : Nat × Nat × Nat × Nat} {pc tgt : Nat} {off : Int} {lv lv' : List (Nat × zV)} {st : List zV} {M : zM} {Q : Int → zM → Prop}
theorem x_imulV {x y z : Int} (hd : decode a.1.2.1 pc = .ok (.imul, 1)) (e : x * y = z) (hz : zI z) (k : zX G a u (pc + 1) lv ((0, z) :: st) M Q) : zX G a u pc lv ((0, y) :: (0, x) :: st) M Q := by
  subst e
  exact x_imul hd hz k
theorem x_iincV {i n : Nat} {x d z : Int} (hd : decode a.1.2.1 pc = .ok (.iinc i d, 3)) (hk : lv[n]? = some (i, (0, x))) (e : x + d = z) (hz : zI z) (hn : i < a.1.2.2.1) (he : zst1 lv i (0, z) = lv') (k : zX G a u (pc + 3) lv' st M Q) : zX G a u pc lv st M Q := by
  subst e
  exact x_iinc hd hk hz hn he k
theorem x_icmpgeT {x y : Int} (hd : decode a.1.2.1 pc = .ok (.if_icmp .ge off, 3)) (ht : (pc : Int) + off = (tgt : Int)) (c : y ≤ x) (k : zX G a u tgt lv st M Q) : zX G a u pc lv ((0, y) :: (0, x) :: st) M Q := x_icmpge (tgt := tgt) hd ht (fun _ => k) (fun n => absurd c n)
theorem x_icmpgeF {x y : Int} (hd : decode a.1.2.1 pc = .ok (.if_icmp .ge off, 3)) (ht : (pc : Int) + off = (tgt : Int)) (c : ¬ y ≤ x) (k : zX G a u (pc + 3) lv st M Q) : zX G a u pc lv ((0, y) :: (0, x) :: st) M Q := x_icmpge (tgt := tgt) hd ht (fun n => absurd n c) (fun _ => k)
theorem x_getV {idx ci k0 t : Nat} {fin : Bool} {ty : FieldType} {o v : Int} (hd : decode a.1.2.1 pc = .ok (.getfield idx, 3)) (hf : zFld a.1.1.cls idx ci k0 fin ty) (ho : zK o = (ci, 0)) (ht : ztyt ty = t) (hv : M o k0 = v) (k : zX G a u (pc + 3) lv ((t, v) :: st) M Q) : zX G a u pc lv ((2, o) :: st) M Q := x_getf hd hf ho ht (hv ▸ k)
end
set_option maxRecDepth 100000 in
theorem ko_Line : Cond.methodLink "ZigzagTablets$Line" 3 objectInit ∈ lw_tbl := (zt_1 _ (zpn (i := 54) rfl))
set_option maxRecDepth 100000 in
theorem wob_i : Cond.instanceMethod objectInit ∈ lw_tbl := (zt_1 _ (zpn (i := 27) rfl))
set_option maxRecDepth 100000 in
theorem wob_c : Cond.code objectInit ⟨#[0xb1]⟩ 1 none ∈ lw_tbl := (zt_1 _ (zpn (i := 28) rfl))
set_option maxRecDepth 100000 in
theorem wa_int : Cond.arrayClass .int ∈ lw_tbl := (zt_1 _ (zpn (i := 48) rfl))
set_option maxRecDepth 100000 in
theorem ko_Column : Cond.methodLink "ZigzagTablets$Column" 3 objectInit ∈ lw_tbl := (zt_2 _ (zpn (i := 68) rfl))
set_option maxRecDepth 100000 in
theorem f_Column_9 : zFld "ZigzagTablets$Column" 9 1 0 true (.array .int) := ⟨"ZigzagTablets$Column", zT1, 11, zY1, rfl, zi1, zy1, zn1, by decide, rfl, rfl, rfl, (zt_2 _ (zpn (i := 69) rfl)), rfl, rfl, by decide⟩
set_option maxRecDepth 100000 in
theorem ko_Code : Cond.methodLink "ZigzagTablets$Code" 3 objectInit ∈ lw_tbl := (zt_1 _ (zpn (i := 212) rfl))
set_option maxRecDepth 100000 in
theorem ko_Scene : Cond.methodLink "ZigzagTablets$Scene" 1 objectInit ∈ lw_tbl := (zt_2 _ (zpn (i := 35) rfl))
set_option maxRecDepth 100000 in
theorem ko_Tape : Cond.methodLink "ZigzagTablets$Tape" 1 objectInit ∈ lw_tbl := (zt_1 _ (zpn (i := 34) rfl))
set_option maxRecDepth 100000 in
theorem ko_Course : Cond.methodLink "ZigzagTablets$Course" 3 objectInit ∈ lw_tbl := (zt_1 _ (zpn (i := 82) rfl))
set_option maxRecDepth 100000 in
theorem zdf4 : ∀ j, j < 3 → defaultValue (zY4 j) = zdv (zft 4 j) := by decide +kernel
set_option maxRecDepth 100000 in
theorem nw_Course_9 : zCls "ZigzagTablets$Course" 9 4 3 := ⟨"ZigzagTablets$Line", zT4, zY4, rfl, zi4, zy4, zdf4, (zt_1 _ (zpn (i := 83) rfl)), (zt_1 _ (zpn (i := 50) rfl)), (zt_1 _ (zpn (i := 3) rfl)), rfl, by decide⟩
set_option maxRecDepth 100000 in
theorem ki_Course_11 : zLnI "ZigzagTablets$Course" 11 0 y_Line_init := ⟨rfl, rfl, (zt_1 _ (zpn (i := 52) rfl)), Or.inr ⟨_, (zt_1 _ (zpn (i := 84) rfl))⟩, (zt_1 _ (zpn (i := 53) rfl)), (zt_1 _ (zpn (i := 3) rfl)), ⟨by decide, by decide, by decide +kernel⟩, by decide⟩
set_option maxRecDepth 100000 in
theorem ko_History : Cond.methodLink "ZigzagTablets$History" 3 objectInit ∈ lw_tbl := (zt_1 _ (zpn (i := 106) rfl))
set_option maxRecDepth 100000 in
theorem wl_History_18 : Cond.classLink "ZigzagTablets$History" 18 "ZigzagTablets$Line" ∈ lw_tbl := (zt_1 _ (zpn (i := 107) rfl))
set_option maxRecDepth 100000 in
theorem wo_Line : Cond.arrayOver (.object "ZigzagTablets$Line") ∈ lw_tbl := (zt_1 _ (zpn (i := 108) rfl))
set_option maxRecDepth 100000 in
theorem nw_History_18 : zCls "ZigzagTablets$History" 18 4 3 := ⟨"ZigzagTablets$Line", zT4, zY4, rfl, zi4, zy4, zdf4, (zt_1 _ (zpn (i := 107) rfl)), (zt_1 _ (zpn (i := 50) rfl)), (zt_1 _ (zpn (i := 3) rfl)), rfl, by decide⟩
set_option maxRecDepth 100000 in
theorem ki_History_27 : zLnI "ZigzagTablets$History" 27 0 y_Line_init := ⟨rfl, rfl, (zt_1 _ (zpn (i := 52) rfl)), Or.inr ⟨_, (zt_1 _ (zpn (i := 109) rfl))⟩, (zt_1 _ (zpn (i := 53) rfl)), (zt_1 _ (zpn (i := 3) rfl)), ⟨by decide, by decide, by decide +kernel⟩, by decide⟩
set_option maxRecDepth 100000 in
theorem ko_Piece : Cond.methodLink "ZigzagTablets$Piece" 5 objectInit ∈ lw_tbl := (zt_1 _ (zpn (i := 138) rfl))
set_option maxRecDepth 100000 in
theorem nw_Piece_11 : zCls "ZigzagTablets$Piece" 11 4 3 := ⟨"ZigzagTablets$Line", zT4, zY4, rfl, zi4, zy4, zdf4, (zt_1 _ (zpn (i := 139) rfl)), (zt_1 _ (zpn (i := 50) rfl)), (zt_1 _ (zpn (i := 3) rfl)), rfl, by decide⟩
set_option maxRecDepth 100000 in
theorem ki_Piece_13 : zLnI "ZigzagTablets$Piece" 13 0 y_Line_init := ⟨rfl, rfl, (zt_1 _ (zpn (i := 52) rfl)), Or.inr ⟨_, (zt_1 _ (zpn (i := 140) rfl))⟩, (zt_1 _ (zpn (i := 53) rfl)), (zt_1 _ (zpn (i := 3) rfl)), ⟨by decide, by decide, by decide +kernel⟩, by decide⟩
set_option maxRecDepth 100000 in
theorem ko_Reader : Cond.methodLink "ZigzagTablets$Reader" 3 objectInit ∈ lw_tbl := (zt_1 _ (zpn (i := 206) rfl))
set_option maxRecDepth 100000 in
theorem zdf0 : ∀ j, j < 3 → defaultValue (zY0 j) = zdv (zft 0 j) := by decide +kernel
set_option maxRecDepth 100000 in
theorem nw_Reader_9 : zCls "ZigzagTablets$Reader" 9 0 3 := ⟨"ZigzagTablets$Code", zT0, zY0, rfl, zi0, zy0, zdf0, (zt_1 _ (zpn (i := 207) rfl)), (zt_1 _ (zpn (i := 208) rfl)), (zt_1 _ (zpn (i := 8) rfl)), rfl, by decide⟩
set_option maxRecDepth 100000 in
theorem ki_Reader_11 : zLnI "ZigzagTablets$Reader" 11 0 y_Code_init := ⟨rfl, rfl, (zt_1 _ (zpn (i := 210) rfl)), Or.inr ⟨_, (zt_1 _ (zpn (i := 209) rfl))⟩, (zt_1 _ (zpn (i := 211) rfl)), (zt_1 _ (zpn (i := 8) rfl)), ⟨by decide, by decide, by decide +kernel⟩, by decide⟩
set_option maxRecDepth 100000 in
theorem ki_Question_3 : zLnI "ZigzagTablets$Question" 3 0 y_Scene_init := ⟨rfl, rfl, (zt_2 _ (zpn (i := 33) rfl)), Or.inr ⟨_, (zt_2 _ (zpn (i := 32) rfl))⟩, (zt_2 _ (zpn (i := 34) rfl)), (zt_1 _ (zpn (i := 9) rfl)), ⟨by decide, by decide, by decide +kernel⟩, by decide⟩
set_option maxRecDepth 100000 in
theorem ki_Tablet_3 : zLnI "ZigzagTablets$Tablet" 3 0 y_Scene_init := ⟨rfl, rfl, (zt_2 _ (zpn (i := 33) rfl)), Or.inr ⟨_, (zt_2 _ (zpn (i := 57) rfl))⟩, (zt_2 _ (zpn (i := 34) rfl)), (zt_1 _ (zpn (i := 9) rfl)), ⟨by decide, by decide, by decide +kernel⟩, by decide⟩
set_option maxRecDepth 100000 in
theorem wl_Tablet_9 : Cond.classLink "ZigzagTablets$Tablet" 9 "ZigzagTablets$Column" ∈ lw_tbl := (zt_2 _ (zpn (i := 58) rfl))
set_option maxRecDepth 100000 in
theorem wo_Column : Cond.arrayOver (.object "ZigzagTablets$Column") ∈ lw_tbl := (zt_2 _ (zpn (i := 59) rfl))
set_option maxRecDepth 100000 in
theorem nw_Tablet_17 : zCls "ZigzagTablets$Tablet" 17 0 3 := ⟨"ZigzagTablets$Code", zT0, zY0, rfl, zi0, zy0, zdf0, (zt_2 _ (zpn (i := 60) rfl)), (zt_1 _ (zpn (i := 208) rfl)), (zt_1 _ (zpn (i := 8) rfl)), rfl, by decide⟩
set_option maxRecDepth 100000 in
theorem ki_Tablet_19 : zLnI "ZigzagTablets$Tablet" 19 0 y_Code_init := ⟨rfl, rfl, (zt_1 _ (zpn (i := 210) rfl)), Or.inr ⟨_, (zt_2 _ (zpn (i := 61) rfl))⟩, (zt_1 _ (zpn (i := 211) rfl)), (zt_1 _ (zpn (i := 8) rfl)), ⟨by decide, by decide, by decide +kernel⟩, by decide⟩
set_option maxRecDepth 100000 in
theorem nw_Tablet_24 : zCls "ZigzagTablets$Tablet" 24 4 3 := ⟨"ZigzagTablets$Line", zT4, zY4, rfl, zi4, zy4, zdf4, (zt_2 _ (zpn (i := 62) rfl)), (zt_1 _ (zpn (i := 50) rfl)), (zt_1 _ (zpn (i := 3) rfl)), rfl, by decide⟩
set_option maxRecDepth 100000 in
theorem ki_Tablet_26 : zLnI "ZigzagTablets$Tablet" 26 0 y_Line_init := ⟨rfl, rfl, (zt_1 _ (zpn (i := 52) rfl)), Or.inr ⟨_, (zt_2 _ (zpn (i := 63) rfl))⟩, (zt_1 _ (zpn (i := 53) rfl)), (zt_1 _ (zpn (i := 3) rfl)), ⟨by decide, by decide, by decide +kernel⟩, by decide⟩
set_option maxRecDepth 100000 in
theorem zdf1 : ∀ j, j < 11 → defaultValue (zY1 j) = zdv (zft 1 j) := by decide +kernel
set_option maxRecDepth 100000 in
theorem nw_Tablet_9 : zCls "ZigzagTablets$Tablet" 9 1 11 := ⟨"ZigzagTablets$Column", zT1, zY1, rfl, zi1, zy1, zdf1, (zt_2 _ (zpn (i := 58) rfl)), (zt_2 _ (zpn (i := 64) rfl)), (zt_1 _ (zpn (i := 12) rfl)), rfl, by decide⟩
set_option maxRecDepth 100000 in
theorem ki_Tablet_31 : zLnI "ZigzagTablets$Tablet" 31 0 y_Column_init := ⟨rfl, rfl, (zt_2 _ (zpn (i := 66) rfl)), Or.inr ⟨_, (zt_2 _ (zpn (i := 65) rfl))⟩, (zt_2 _ (zpn (i := 67) rfl)), (zt_1 _ (zpn (i := 12) rfl)), ⟨by decide, by decide, by decide +kernel⟩, by decide⟩
set_option maxRecDepth 100000 in
theorem ko_Zt : Cond.methodLink "ZigzagTablets" 1 objectInit ∈ lw_tbl := (zt_1 _ (zpn (i := 26) rfl))
set_option maxRecDepth 100000 in
theorem zdf9 : ∀ j, j < 2 → defaultValue (zY9 j) = zdv (zft 9 j) := by decide +kernel
set_option maxRecDepth 100000 in
theorem nw_Zt_7 : zCls "ZigzagTablets" 7 9 2 := ⟨"ZigzagTablets$Tape", zT9, zY9, rfl, zi9, zy9, zdf9, (zt_1 _ (zpn (i := 29) rfl)), (zt_1 _ (zpn (i := 30) rfl)), (zt_1 _ (zpn (i := 2) rfl)), rfl, by decide⟩
set_option maxRecDepth 100000 in
theorem ki_Zt_9 : zLnI "ZigzagTablets" 9 0 y_Tape_init := ⟨rfl, rfl, (zt_1 _ (zpn (i := 32) rfl)), Or.inr ⟨_, (zt_1 _ (zpn (i := 31) rfl))⟩, (zt_1 _ (zpn (i := 33) rfl)), (zt_1 _ (zpn (i := 2) rfl)), ⟨by decide, by decide, by decide +kernel⟩, by decide⟩
set_option maxRecDepth 100000 in
theorem nw_Zt_16 : zCls "ZigzagTablets" 16 4 3 := ⟨"ZigzagTablets$Line", zT4, zY4, rfl, zi4, zy4, zdf4, (zt_1 _ (zpn (i := 49) rfl)), (zt_1 _ (zpn (i := 50) rfl)), (zt_1 _ (zpn (i := 3) rfl)), rfl, by decide⟩
set_option maxRecDepth 100000 in
theorem ki_Zt_18 : zLnI "ZigzagTablets" 18 0 y_Line_init := ⟨rfl, rfl, (zt_1 _ (zpn (i := 52) rfl)), Or.inr ⟨_, (zt_1 _ (zpn (i := 51) rfl))⟩, (zt_1 _ (zpn (i := 53) rfl)), (zt_1 _ (zpn (i := 3) rfl)), ⟨by decide, by decide, by decide +kernel⟩, by decide⟩
set_option maxRecDepth 100000 in
theorem zdf2 : ∀ j, j < 5 → defaultValue (zY2 j) = zdv (zft 2 j) := by decide +kernel
set_option maxRecDepth 100000 in
theorem nw_Zt_26 : zCls "ZigzagTablets" 26 2 5 := ⟨"ZigzagTablets$Course", zT2, zY2, rfl, zi2, zy2, zdf2, (zt_1 _ (zpn (i := 77) rfl)), (zt_1 _ (zpn (i := 78) rfl)), (zt_1 _ (zpn (i := 4) rfl)), rfl, by decide⟩
set_option maxRecDepth 100000 in
theorem ki_Zt_28 : zLnI "ZigzagTablets" 28 1 y_Course_init := ⟨rfl, rfl, (zt_1 _ (zpn (i := 80) rfl)), Or.inl (zt_1 _ (zpn (i := 79) rfl)), (zt_1 _ (zpn (i := 81) rfl)), (zt_1 _ (zpn (i := 4) rfl)), ⟨by decide, by decide, by decide +kernel⟩, by decide⟩
set_option maxRecDepth 100000 in
theorem zdf3 : ∀ j, j < 7 → defaultValue (zY3 j) = zdv (zft 3 j) := by decide +kernel
set_option maxRecDepth 100000 in
theorem nw_Zt_38 : zCls "ZigzagTablets" 38 3 7 := ⟨"ZigzagTablets$History", zT3, zY3, rfl, zi3, zy3, zdf3, (zt_1 _ (zpn (i := 101) rfl)), (zt_1 _ (zpn (i := 102) rfl)), (zt_1 _ (zpn (i := 5) rfl)), rfl, by decide⟩
set_option maxRecDepth 100000 in
theorem ki_Zt_40 : zLnI "ZigzagTablets" 40 0 y_History_init := ⟨rfl, rfl, (zt_1 _ (zpn (i := 104) rfl)), Or.inl (zt_1 _ (zpn (i := 103) rfl)), (zt_1 _ (zpn (i := 105) rfl)), (zt_1 _ (zpn (i := 5) rfl)), ⟨by decide, by decide, by decide +kernel⟩, by decide⟩
set_option maxRecDepth 100000 in
theorem zdf5 : ∀ j, j < 17 → defaultValue (zY5 j) = zdv (zft 5 j) := by decide +kernel
set_option maxRecDepth 100000 in
theorem nw_Zt_45 : zCls "ZigzagTablets" 45 5 17 := ⟨"ZigzagTablets$Piece", zT5, zY5, rfl, zi5, zy5, zdf5, (zt_1 _ (zpn (i := 133) rfl)), (zt_1 _ (zpn (i := 134) rfl)), (zt_1 _ (zpn (i := 6) rfl)), rfl, by decide⟩
set_option maxRecDepth 100000 in
theorem ki_Zt_47 : zLnI "ZigzagTablets" 47 1 y_Piece_init := ⟨rfl, rfl, (zt_1 _ (zpn (i := 136) rfl)), Or.inl (zt_1 _ (zpn (i := 135) rfl)), (zt_1 _ (zpn (i := 137) rfl)), (zt_1 _ (zpn (i := 6) rfl)), ⟨by decide, by decide, by decide +kernel⟩, by decide⟩
set_option maxRecDepth 100000 in
theorem zdf7 : ∀ j, j < 12 → defaultValue (zY7 j) = zdv (zft 7 j) := by decide +kernel
set_option maxRecDepth 100000 in
theorem nw_Zt_54 : zCls "ZigzagTablets" 54 7 12 := ⟨"ZigzagTablets$Reader", zT7, zY7, rfl, zi7, zy7, zdf7, (zt_1 _ (zpn (i := 201) rfl)), (zt_1 _ (zpn (i := 202) rfl)), (zt_1 _ (zpn (i := 7) rfl)), rfl, by decide⟩
set_option maxRecDepth 100000 in
theorem ki_Zt_56 : zLnI "ZigzagTablets" 56 1 y_Reader_init := ⟨rfl, rfl, (zt_1 _ (zpn (i := 204) rfl)), Or.inl (zt_1 _ (zpn (i := 203) rfl)), (zt_1 _ (zpn (i := 205) rfl)), (zt_1 _ (zpn (i := 7) rfl)), ⟨by decide, by decide, by decide +kernel⟩, by decide⟩
set_option maxRecDepth 100000 in
theorem zdf6 : ∀ j, j < 5 → defaultValue (zY6 j) = zdv (zft 6 j) := by decide +kernel
set_option maxRecDepth 100000 in
theorem nw_Zt_63 : zCls "ZigzagTablets" 63 6 5 := ⟨"ZigzagTablets$Question", zT6, zY6, rfl, zi6, zy6, zdf6, (zt_2 _ (zpn (i := 27) rfl)), (zt_2 _ (zpn (i := 28) rfl)), (zt_1 _ (zpn (i := 10) rfl)), rfl, by decide⟩
set_option maxRecDepth 100000 in
theorem ki_Zt_65 : zLnI "ZigzagTablets" 65 3 y_Question_init := ⟨rfl, rfl, (zt_2 _ (zpn (i := 30) rfl)), Or.inl (zt_2 _ (zpn (i := 29) rfl)), (zt_2 _ (zpn (i := 31) rfl)), (zt_1 _ (zpn (i := 10) rfl)), ⟨by decide, by decide, by decide +kernel⟩, by decide⟩
set_option maxRecDepth 100000 in
theorem zdf8 : ∀ j, j < 10 → defaultValue (zY8 j) = zdv (zft 8 j) := by decide +kernel
set_option maxRecDepth 100000 in
theorem nw_Zt_79 : zCls "ZigzagTablets" 79 8 10 := ⟨"ZigzagTablets$Tablet", zT8, zY8, rfl, zi8, zy8, zdf8, (zt_2 _ (zpn (i := 52) rfl)), (zt_2 _ (zpn (i := 53) rfl)), (zt_1 _ (zpn (i := 11) rfl)), rfl, by decide⟩
set_option maxRecDepth 100000 in
theorem ki_Zt_81 : zLnI "ZigzagTablets" 81 0 y_Tablet_init := ⟨rfl, rfl, (zt_2 _ (zpn (i := 55) rfl)), Or.inl (zt_2 _ (zpn (i := 54) rfl)), (zt_2 _ (zpn (i := 56) rfl)), (zt_1 _ (zpn (i := 11) rfl)), ⟨by decide, by decide, by decide +kernel⟩, by decide⟩
set_option maxRecDepth 100000 in
theorem ko_Md : Cond.methodLink "ZigzagTabletsModel" 1 objectInit ∈ lw_tbl := (zt_5 _ (zpn (i := 194) rfl))
set_option maxRecDepth 100000 in
theorem wa_char : Cond.arrayClass .char ∈ lw_tbl := (zt_7 _ (zpn (i := 19) rfl))
set_option maxRecDepth 100000 in
theorem wa_long : Cond.arrayClass .long ∈ lw_tbl := (zt_7 _ (zpn (i := 20) rfl))
set_option maxRecDepth 100000 in
theorem wa_boolean : Cond.arrayClass .boolean ∈ lw_tbl := (zt_7 _ (zpn (i := 21) rfl))
set_option maxRecDepth 100000 in
theorem zdf10 : ∀ j, j < 17 → defaultValue (zY10 j) = zdv (zft 10 j) := by decide +kernel
set_option maxRecDepth 100000 in
theorem nw_Law_7 : zCls "ZigzagTabletsLaw" 7 10 17 := ⟨"ZigzagTablets", zT10, zY10, rfl, zi10, zy10, zdf10, (zt_1 _ (zpn (i := 21) rfl)), (zt_1 _ (zpn (i := 22) rfl)), (zt_1 _ (zpn (i := 1) rfl)), rfl, by decide⟩
set_option maxRecDepth 100000 in
theorem ki_Law_9 : zLnI "ZigzagTabletsLaw" 9 0 y_Zt_init := ⟨rfl, rfl, (zt_1 _ (zpn (i := 24) rfl)), Or.inl (zt_1 _ (zpn (i := 23) rfl)), (zt_1 _ (zpn (i := 25) rfl)), (zt_1 _ (zpn (i := 1) rfl)), ⟨by decide, by decide, by decide +kernel⟩, by decide⟩
set_option maxRecDepth 100000 in
theorem zdf11 : ∀ j, j < 101 → defaultValue (zY11 j) = zdv (zft 11 j) := by decide +kernel
set_option maxRecDepth 100000 in
theorem nw_Law_10 : zCls "ZigzagTabletsLaw" 10 11 101 := ⟨"ZigzagTabletsModel", zT11, zY11, rfl, zi11, zy11, zdf11, (zt_5 _ (zpn (i := 189) rfl)), (zt_5 _ (zpn (i := 190) rfl)), (zt_1 _ (zpn (i := 15) rfl)), rfl, by decide⟩
set_option maxRecDepth 100000 in
theorem ki_Law_12 : zLnI "ZigzagTabletsLaw" 12 0 y_Md_init := ⟨rfl, rfl, (zt_5 _ (zpn (i := 192) rfl)), Or.inl (zt_5 _ (zpn (i := 191) rfl)), (zt_5 _ (zpn (i := 193) rfl)), (zt_1 _ (zpn (i := 15) rfl)), ⟨by decide, by decide, by decide +kernel⟩, by decide⟩
