theorem zlt {i n : Nat} (h : Nat.ble (i + 1) n = true) : i < n := Nat.le_of_ble_eq_true h
theorem z0n1 : (0 : Nat) ≠ 1 := by decide
theorem z2n1 : (2 : Nat) ≠ 1 := by decide
def znth : List Cond → Nat → Option Cond
  | [], _ => none
  | x :: _, 0 => some x
  | _ :: xs, n + 1 => znth xs n
theorem zpn : ∀ {t : List Cond} {i : Nat} {w : Cond}, znth t i = some w → w ∈ t := by
  intro t
  induction t with
  | nil => intro i w h; cases h
  | cons x xs ih =>
    intro i w h
    cases i with
    | zero => cases h; exact List.mem_cons_self
    | succ n => exact List.mem_cons_of_mem _ (ih h)
theorem zt_0 : ∀ w ∈ k2_sels lw_privs, w ∈ lw_tbl := fun w h => List.mem_append_left _ h
theorem zt_x : ∀ w ∈ tables_1, w ∈ lw_tbl := fun w h => List.mem_append_right _ h
theorem zt_1 : ∀ w ∈ tables_1_1, w ∈ lw_tbl := fun w h => zt_x w (by unfold tables_1; simp only [List.mem_append]; simp [h])
theorem zt_2 : ∀ w ∈ tables_1_2, w ∈ lw_tbl := fun w h => zt_x w (by unfold tables_1; simp only [List.mem_append]; simp [h])
theorem zt_3 : ∀ w ∈ tables_1_3, w ∈ lw_tbl := fun w h => zt_x w (by unfold tables_1; simp only [List.mem_append]; simp [h])
theorem zt_4 : ∀ w ∈ tables_1_4, w ∈ lw_tbl := fun w h => zt_x w (by unfold tables_1; simp only [List.mem_append]; simp [h])
theorem zt_5 : ∀ w ∈ tables_1_5, w ∈ lw_tbl := fun w h => zt_x w (by unfold tables_1; simp only [List.mem_append]; simp [h])
theorem zt_6 : ∀ w ∈ tables_1_6, w ∈ lw_tbl := fun w h => zt_x w (by unfold tables_1; simp only [List.mem_append]; simp [h])
theorem zt_7 : ∀ w ∈ tables_1_7, w ∈ lw_tbl := fun w h => zt_x w (by unfold tables_1; simp only [List.mem_append]; simp [h])
theorem zt_8 : ∀ w ∈ tables_1_8, w ∈ lw_tbl := fun w h => zt_x w (by unfold tables_1; simp only [List.mem_append]; simp [h])
theorem zt_9 : ∀ w ∈ tables_1_9, w ∈ lw_tbl := fun w h => zt_x w (by unfold tables_1; simp only [List.mem_append]; simp [h])
set_option maxRecDepth 100000 in
theorem f_Zt_10 : zFld "ZigzagTablets" 10 10 0 true (.object "ZigzagTablets$Tape") := ⟨"ZigzagTablets", zT10, 17, zY10, rfl, zi10, zy10, zn10, by decide, rfl, rfl, rfl, (zt_3 _ (zpn (i := 30) rfl)), rfl, rfl, by decide⟩
set_option maxRecDepth 100000 in
theorem f_Zt_100 : zFld "ZigzagTablets" 100 9 1 false .int := ⟨"ZigzagTablets$Tape", zT9, 2, zY9, rfl, zi9, zy9, zn9, by decide, rfl, rfl, rfl, (zt_1 _ (zpn (i := 39) rfl)), rfl, rfl, by decide⟩
set_option maxRecDepth 100000 in
theorem k_Zt_107 : zLnV "ZigzagTablets" 107 1 y_Tape_add := ⟨⟨(zt_3 _ (zpn (i := 90) rfl)), (zt_3 _ (zpn (i := 93) rfl)), (zt_1 _ (zpn (i := 2) rfl)), ⟨by decide, by decide, by decide +kernel⟩, by decide⟩, (zt_3 _ (zpn (i := 91) rfl)), (zt_3 _ (zpn (i := 92) rfl))⟩
set_option maxRecDepth 100000 in
theorem k_Zt_103 : zLnV "ZigzagTablets" 103 1 y_Zt_none := ⟨⟨(zt_3 _ (zpn (i := 86) rfl)), (zt_3 _ (zpn (i := 89) rfl)), (zt_1 _ (zpn (i := 1) rfl)), ⟨by decide, by decide, by decide +kernel⟩, by decide⟩, (zt_3 _ (zpn (i := 88) rfl)), (zt_0 _ (zpn (i := 3) rfl))⟩
set_option maxRecDepth 100000 in
theorem k_Zt_110 : zLnV "ZigzagTablets" 110 1 y_Zt_refused := ⟨⟨(zt_3 _ (zpn (i := 98) rfl)), (zt_3 _ (zpn (i := 101) rfl)), (zt_1 _ (zpn (i := 1) rfl)), ⟨by decide, by decide, by decide +kernel⟩, by decide⟩, (zt_3 _ (zpn (i := 100) rfl)), (zt_0 _ (zpn (i := 4) rfl))⟩
set_option maxRecDepth 100000 in
theorem f_Zt_59 : zFld "ZigzagTablets" 59 10 7 true (.object "ZigzagTablets$Reader") := ⟨"ZigzagTablets", zT10, 17, zY10, rfl, zi10, zy10, zn10, by decide, rfl, rfl, rfl, (zt_3 _ (zpn (i := 37) rfl)), rfl, rfl, by decide⟩
set_option maxRecDepth 100000 in
theorem f_Zt_86 : zFld "ZigzagTablets" 86 10 12 false (.object "ZigzagTablets$Tablet") := ⟨"ZigzagTablets", zT10, 17, zY10, rfl, zi10, zy10, zn10, by decide, rfl, rfl, rfl, (zt_3 _ (zpn (i := 42) rfl)), rfl, rfl, by decide⟩
set_option maxRecDepth 100000 in
theorem k_Zt_114 : zLnV "ZigzagTablets" 114 1 y_Reader_readTablet := ⟨⟨(zt_3 _ (zpn (i := 106) rfl)), (zt_3 _ (zpn (i := 109) rfl)), (zt_1 _ (zpn (i := 7) rfl)), ⟨by decide, by decide, by decide +kernel⟩, by decide⟩, (zt_3 _ (zpn (i := 107) rfl)), (zt_3 _ (zpn (i := 108) rfl))⟩
set_option maxRecDepth 100000 in
theorem k_Zt_118 : zLnV "ZigzagTablets" 118 0 y_Zt_noteFault := ⟨⟨(zt_4 _ (zpn (i := 95) rfl)), (zt_4 _ (zpn (i := 98) rfl)), (zt_1 _ (zpn (i := 1) rfl)), ⟨by decide, by decide, by decide +kernel⟩, by decide⟩, (zt_4 _ (zpn (i := 97) rfl)), (zt_0 _ (zpn (i := 37) rfl))⟩
set_option maxRecDepth 100000 in
theorem f_Zt_82 : zFld "ZigzagTablets" 82 10 11 false (.object "ZigzagTablets$Tablet") := ⟨"ZigzagTablets", zT10, 17, zY10, rfl, zi10, zy10, zn10, by decide, rfl, rfl, rfl, (zt_3 _ (zpn (i := 41) rfl)), rfl, rfl, by decide⟩
set_option maxRecDepth 100000 in
theorem k_Zt_97 : zLnV "ZigzagTablets" 97 0 y_Zt_startAgain := ⟨⟨(zt_2 _ (zpn (i := 176) rfl)), (zt_2 _ (zpn (i := 179) rfl)), (zt_1 _ (zpn (i := 1) rfl)), ⟨by decide, by decide, by decide +kernel⟩, by decide⟩, (zt_2 _ (zpn (i := 178) rfl)), (zt_0 _ (zpn (i := 0) rfl))⟩
set_option maxRecDepth 100000 in
theorem f_Zt_121 : zFld "ZigzagTablets" 121 8 3 false .int := ⟨"ZigzagTablets$Tablet", zT8, 10, zY8, rfl, zi8, zy8, zn8, by decide, rfl, rfl, rfl, (zt_2 _ (zpn (i := 143) rfl)), rfl, rfl, by decide⟩
set_option maxRecDepth 100000 in
theorem f_Zt_89 : zFld "ZigzagTablets" 89 10 15 false .int := ⟨"ZigzagTablets", zT10, 17, zY10, rfl, zi10, zy10, zn10, by decide, rfl, rfl, rfl, (zt_3 _ (zpn (i := 45) rfl)), rfl, rfl, by decide⟩
set_option maxRecDepth 100000 in
theorem f_Zt_124 : zFld "ZigzagTablets" 124 10 14 false .int := ⟨"ZigzagTablets", zT10, 17, zY10, rfl, zi10, zy10, zn10, by decide, rfl, rfl, rfl, (zt_3 _ (zpn (i := 44) rfl)), rfl, rfl, by decide⟩
set_option maxRecDepth 100000 in
theorem f_Zt_127 : zFld "ZigzagTablets" 127 8 2 false .int := ⟨"ZigzagTablets$Tablet", zT8, 10, zY8, rfl, zi8, zy8, zn8, by decide, rfl, rfl, rfl, (zt_2 _ (zpn (i := 139) rfl)), rfl, rfl, by decide⟩
set_option maxRecDepth 100000 in
theorem f_Zt_19 : zFld "ZigzagTablets" 19 10 1 true (.object "ZigzagTablets$Line") := ⟨"ZigzagTablets", zT10, 17, zY10, rfl, zi10, zy10, zn10, by decide, rfl, rfl, rfl, (zt_3 _ (zpn (i := 31) rfl)), rfl, rfl, by decide⟩
set_option maxRecDepth 100000 in
theorem f_Zt_130 : zFld "ZigzagTablets" 130 4 1 false .int := ⟨"ZigzagTablets$Line", zT4, 3, zY4, rfl, zi4, zy4, zn4, by decide, rfl, rfl, rfl, (zt_1 _ (zpn (i := 64) rfl)), rfl, rfl, by decide⟩
set_option maxRecDepth 100000 in
theorem k_Zt_133 : zLnV "ZigzagTablets" 133 1 y_Tablet_isMarked := ⟨⟨(zt_4 _ (zpn (i := 108) rfl)), (zt_4 _ (zpn (i := 111) rfl)), (zt_1 _ (zpn (i := 11) rfl)), ⟨by decide, by decide, by decide +kernel⟩, by decide⟩, (zt_4 _ (zpn (i := 109) rfl)), (zt_4 _ (zpn (i := 110) rfl))⟩
set_option maxRecDepth 100000 in
theorem k_Zt_137 : zLnV "ZigzagTablets" 137 0 y_Zt_untrueColumns := ⟨⟨(zt_4 _ (zpn (i := 112) rfl)), (zt_4 _ (zpn (i := 115) rfl)), (zt_1 _ (zpn (i := 1) rfl)), ⟨by decide, by decide, by decide +kernel⟩, by decide⟩, (zt_4 _ (zpn (i := 114) rfl)), (zt_0 _ (zpn (i := 38) rfl))⟩
set_option maxRecDepth 100000 in
theorem f_Zt_41 : zFld "ZigzagTablets" 41 10 5 true (.object "ZigzagTablets$History") := ⟨"ZigzagTablets", zT10, 17, zY10, rfl, zi10, zy10, zn10, by decide, rfl, rfl, rfl, (zt_3 _ (zpn (i := 35) rfl)), rfl, rfl, by decide⟩
set_option maxRecDepth 100000 in
theorem k_Zt_141 : zLnV "ZigzagTablets" 141 0 y_History_keptTold := ⟨⟨(zt_4 _ (zpn (i := 117) rfl)), (zt_4 _ (zpn (i := 120) rfl)), (zt_1 _ (zpn (i := 5) rfl)), ⟨by decide, by decide, by decide +kernel⟩, by decide⟩, (zt_4 _ (zpn (i := 118) rfl)), (zt_4 _ (zpn (i := 119) rfl))⟩
set_option maxRecDepth 100000 in
theorem f_Zt_50 : zFld "ZigzagTablets" 50 10 6 true (.object "ZigzagTablets$Piece") := ⟨"ZigzagTablets", zT10, 17, zY10, rfl, zi10, zy10, zn10, by decide, rfl, rfl, rfl, (zt_3 _ (zpn (i := 36) rfl)), rfl, rfl, by decide⟩
set_option maxRecDepth 100000 in
theorem f_Zt_144 : zFld "ZigzagTablets" 144 5 8 false .int := ⟨"ZigzagTablets$Piece", zT5, 17, zY5, rfl, zi5, zy5, zn5, by decide, rfl, rfl, rfl, (zt_1 _ (zpn (i := 152) rfl)), rfl, rfl, by decide⟩
set_option maxRecDepth 100000 in
theorem f_Zt_147 : zFld "ZigzagTablets" 147 3 6 false .int := ⟨"ZigzagTablets$History", zT3, 7, zY3, rfl, zi3, zy3, zn3, by decide, rfl, rfl, rfl, (zt_1 _ (zpn (i := 117) rfl)), rfl, rfl, by decide⟩
set_option maxRecDepth 100000 in
theorem k_Zt_150 : zLnV "ZigzagTablets" 150 1 y_Zt_isColumn := ⟨⟨(zt_4 _ (zpn (i := 126) rfl)), (zt_4 _ (zpn (i := 129) rfl)), (zt_1 _ (zpn (i := 1) rfl)), ⟨by decide, by decide, by decide +kernel⟩, by decide⟩, (zt_4 _ (zpn (i := 128) rfl)), (zt_0 _ (zpn (i := 39) rfl))⟩
set_option maxRecDepth 100000 in
theorem f_Zt_153 : zFld "ZigzagTablets" 153 8 0 true (.array (.object "ZigzagTablets$Column")) := ⟨"ZigzagTablets$Tablet", zT8, 10, zY8, rfl, zi8, zy8, zn8, by decide, rfl, rfl, rfl, (zt_2 _ (zpn (i := 133) rfl)), rfl, rfl, by decide⟩
set_option maxRecDepth 100000 in
theorem f_Zt_157 : zFld "ZigzagTablets" 157 1 0 true (.array .int) := ⟨"ZigzagTablets$Column", zT1, 11, zY1, rfl, zi1, zy1, zn1, by decide, rfl, rfl, rfl, (zt_2 _ (zpn (i := 70) rfl)), rfl, rfl, by decide⟩
set_option maxRecDepth 100000 in
theorem f_Zt_162 : zFld "ZigzagTablets" 162 1 1 false .int := ⟨"ZigzagTablets$Column", zT1, 11, zY1, rfl, zi1, zy1, zn1, by decide, rfl, rfl, rfl, (zt_2 _ (zpn (i := 75) rfl)), rfl, rfl, by decide⟩
set_option maxRecDepth 100000 in
theorem k_Zt_165 : zLnV "ZigzagTablets" 165 1 y_Line_goesUp := ⟨⟨(zt_4 _ (zpn (i := 134) rfl)), (zt_4 _ (zpn (i := 137) rfl)), (zt_1 _ (zpn (i := 3) rfl)), ⟨by decide, by decide, by decide +kernel⟩, by decide⟩, (zt_4 _ (zpn (i := 135) rfl)), (zt_4 _ (zpn (i := 136) rfl))⟩
set_option maxRecDepth 100000 in
theorem f_Zt_168 : zFld "ZigzagTablets" 168 1 2 false .int := ⟨"ZigzagTablets$Column", zT1, 11, zY1, rfl, zi1, zy1, zn1, by decide, rfl, rfl, rfl, (zt_2 _ (zpn (i := 80) rfl)), rfl, rfl, by decide⟩
set_option maxRecDepth 100000 in
theorem f_Zt_171 : zFld "ZigzagTablets" 171 1 3 false .int := ⟨"ZigzagTablets$Column", zT1, 11, zY1, rfl, zi1, zy1, zn1, by decide, rfl, rfl, rfl, (zt_2 _ (zpn (i := 85) rfl)), rfl, rfl, by decide⟩
set_option maxRecDepth 100000 in
theorem w_Zt_174 : Cond.constantLong "ZigzagTablets" 174 (Int64.ofInt (-1000000000000000)) ∈ lw_tbl := (zt_4 _ (zpn (i := 142) rfl))
set_option maxRecDepth 100000 in
theorem f_Zt_31 : zFld "ZigzagTablets" 31 10 3 true (.object "ZigzagTablets$Course") := ⟨"ZigzagTablets", zT10, 17, zY10, rfl, zi10, zy10, zn10, by decide, rfl, rfl, rfl, (zt_3 _ (zpn (i := 33) rfl)), rfl, rfl, by decide⟩
set_option maxRecDepth 100000 in
theorem k_Zt_179 : zLnV "ZigzagTablets" 179 2 y_Course_told := ⟨⟨(zt_4 _ (zpn (i := 116) rfl)), (zt_2 _ (zpn (i := 205) rfl)), (zt_1 _ (zpn (i := 4) rfl)), ⟨by decide, by decide, by decide +kernel⟩, by decide⟩, (zt_2 _ (zpn (i := 203) rfl)), (zt_2 _ (zpn (i := 204) rfl))⟩
set_option maxRecDepth 100000 in
theorem f_Zt_176 : zFld "ZigzagTablets" 176 4 0 true (.array .int) := ⟨"ZigzagTablets$Line", zT4, 3, zY4, rfl, zi4, zy4, zn4, by decide, rfl, rfl, rfl, (zt_1 _ (zpn (i := 59) rfl)), rfl, rfl, by decide⟩
set_option maxRecDepth 100000 in
theorem k_Zt_186 : zLnV "ZigzagTablets" 186 1 y_History_keptUntrue := ⟨⟨(zt_4 _ (zpn (i := 152) rfl)), (zt_4 _ (zpn (i := 155) rfl)), (zt_1 _ (zpn (i := 5) rfl)), ⟨by decide, by decide, by decide +kernel⟩, by decide⟩, (zt_4 _ (zpn (i := 153) rfl)), (zt_4 _ (zpn (i := 154) rfl))⟩
set_option maxRecDepth 100000 in
theorem k_Zt_183 : zLnV "ZigzagTablets" 183 1 y_History_keptLine := ⟨⟨(zt_4 _ (zpn (i := 147) rfl)), (zt_4 _ (zpn (i := 150) rfl)), (zt_1 _ (zpn (i := 5) rfl)), ⟨by decide, by decide, by decide +kernel⟩, by decide⟩, (zt_4 _ (zpn (i := 148) rfl)), (zt_4 _ (zpn (i := 149) rfl))⟩
set_option maxRecDepth 100000 in
theorem k_Zt_189 : zLnV "ZigzagTablets" 189 3 y_Zt_isAhead := ⟨⟨(zt_4 _ (zpn (i := 160) rfl)), (zt_4 _ (zpn (i := 163) rfl)), (zt_1 _ (zpn (i := 1) rfl)), ⟨by decide, by decide, by decide +kernel⟩, by decide⟩, (zt_4 _ (zpn (i := 162) rfl)), (zt_0 _ (zpn (i := 40) rfl))⟩
set_option maxRecDepth 100000 in
theorem f_Zt_35 : zFld "ZigzagTablets" 35 10 4 true (.object "ZigzagTablets$Course") := ⟨"ZigzagTablets", zT10, 17, zY10, rfl, zi10, zy10, zn10, by decide, rfl, rfl, rfl, (zt_3 _ (zpn (i := 34) rfl)), rfl, rfl, by decide⟩
set_option maxRecDepth 100000 in
theorem k_Zt_193 : zLnV "ZigzagTablets" 193 1 y_Course_reach := ⟨⟨(zt_4 _ (zpn (i := 164) rfl)), (zt_4 _ (zpn (i := 167) rfl)), (zt_1 _ (zpn (i := 4) rfl)), ⟨by decide, by decide, by decide +kernel⟩, by decide⟩, (zt_4 _ (zpn (i := 165) rfl)), (zt_4 _ (zpn (i := 166) rfl))⟩
set_option maxRecDepth 100000 in
theorem f_Zt_23 : zFld "ZigzagTablets" 23 10 2 true (.object "ZigzagTablets$Line") := ⟨"ZigzagTablets", zT10, 17, zY10, rfl, zi10, zy10, zn10, by decide, rfl, rfl, rfl, (zt_3 _ (zpn (i := 32) rfl)), rfl, rfl, by decide⟩
set_option maxRecDepth 100000 in
theorem k_Zt_196 : zLnV "ZigzagTablets" 196 1 y_Line_copy := ⟨⟨(zt_4 _ (zpn (i := 196) rfl)), (zt_3 _ (zpn (i := 9) rfl)), (zt_1 _ (zpn (i := 3) rfl)), ⟨by decide, by decide, by decide +kernel⟩, by decide⟩, (zt_3 _ (zpn (i := 7) rfl)), (zt_3 _ (zpn (i := 8) rfl))⟩
set_option maxRecDepth 100000 in
theorem f_Zt_200 : zFld "ZigzagTablets" 200 1 6 false .int := ⟨"ZigzagTablets$Column", zT1, 11, zY1, rfl, zi1, zy1, zn1, by decide, rfl, rfl, rfl, (zt_2 _ (zpn (i := 95) rfl)), rfl, rfl, by decide⟩
set_option maxRecDepth 100000 in
theorem k_Zt_203 : zLnV "ZigzagTablets" 203 3 y_Tablet_move := ⟨⟨(zt_4 _ (zpn (i := 197) rfl)), (zt_4 _ (zpn (i := 175) rfl)), (zt_1 _ (zpn (i := 11) rfl)), ⟨by decide, by decide, by decide +kernel⟩, by decide⟩, (zt_4 _ (zpn (i := 173) rfl)), (zt_4 _ (zpn (i := 174) rfl))⟩
set_option maxRecDepth 100000 in
theorem k_Zt_207 : zLnV "ZigzagTablets" 207 0 y_Zt_mostAhead := ⟨⟨(zt_4 _ (zpn (i := 202) rfl)), (zt_4 _ (zpn (i := 205) rfl)), (zt_1 _ (zpn (i := 1) rfl)), ⟨by decide, by decide, by decide +kernel⟩, by decide⟩, (zt_4 _ (zpn (i := 204) rfl)), (zt_0 _ (zpn (i := 42) rfl))⟩
set_option maxRecDepth 100000 in
theorem k_Zt_210 : zLnV "ZigzagTablets" 210 3 y_Course_show := ⟨⟨(zt_4 _ (zpn (i := 215) rfl)), (zt_4 _ (zpn (i := 218) rfl)), (zt_1 _ (zpn (i := 4) rfl)), ⟨by decide, by decide, by decide +kernel⟩, by decide⟩, (zt_4 _ (zpn (i := 216) rfl)), (zt_4 _ (zpn (i := 217) rfl))⟩
set_option maxRecDepth 100000 in
theorem k_Zt_214 : zLnS "ZigzagTablets" 214 2 y_Jm_max_III := ⟨⟨(zt_4 _ (zpn (i := 220) rfl)), (zt_2 _ (zpn (i := 213) rfl)), (zt_1 _ (zpn (i := 13) rfl)), ⟨by decide, by decide, by decide +kernel⟩, by decide⟩, (zt_2 _ (zpn (i := 212) rfl))⟩
set_option maxRecDepth 100000 in
theorem k_Zt_219 : zLnV "ZigzagTablets" 219 0 y_Zt_columnsAstray := ⟨⟨(zt_4 _ (zpn (i := 225) rfl)), (zt_4 _ (zpn (i := 228) rfl)), (zt_1 _ (zpn (i := 1) rfl)), ⟨by decide, by decide, by decide +kernel⟩, by decide⟩, (zt_4 _ (zpn (i := 227) rfl)), (zt_0 _ (zpn (i := 43) rfl))⟩
set_option maxRecDepth 100000 in
theorem k_Zt_222 : zLnS "ZigzagTablets" 222 1 y_Ji_bitCount := ⟨⟨(zt_4 _ (zpn (i := 234) rfl)), (zt_4 _ (zpn (i := 236) rfl)), (zt_1 _ (zpn (i := 20) rfl)), ⟨by decide, by decide, by decide +kernel⟩, by decide⟩, (zt_4 _ (zpn (i := 235) rfl))⟩
set_option maxRecDepth 100000 in
theorem k_Zt_227 : zLnV "ZigzagTablets" 227 2 y_Zt_heals := ⟨⟨(zt_5 _ (zpn (i := 0) rfl)), (zt_5 _ (zpn (i := 3) rfl)), (zt_1 _ (zpn (i := 1) rfl)), ⟨by decide, by decide, by decide +kernel⟩, by decide⟩, (zt_5 _ (zpn (i := 2) rfl)), (zt_0 _ (zpn (i := 44) rfl))⟩
set_option maxRecDepth 100000 in
theorem f_Zt_231 : zFld "ZigzagTablets" 231 8 4 false .int := ⟨"ZigzagTablets$Tablet", zT8, 10, zY8, rfl, zi8, zy8, zn8, by decide, rfl, rfl, rfl, (zt_2 _ (zpn (i := 146) rfl)), rfl, rfl, by decide⟩
set_option maxRecDepth 100000 in
theorem k_Zt_234 : zLnV "ZigzagTablets" 234 2 y_Column_slipped := ⟨⟨(zt_5 _ (zpn (i := 10) rfl)), (zt_5 _ (zpn (i := 13) rfl)), (zt_1 _ (zpn (i := 12) rfl)), ⟨by decide, by decide, by decide +kernel⟩, by decide⟩, (zt_5 _ (zpn (i := 11) rfl)), (zt_5 _ (zpn (i := 12) rfl))⟩
set_option maxRecDepth 100000 in
theorem k_Zt_237 : zLnV "ZigzagTablets" 237 2 y_Piece_read := ⟨⟨(zt_5 _ (zpn (i := 20) rfl)), (zt_5 _ (zpn (i := 23) rfl)), (zt_1 _ (zpn (i := 6) rfl)), ⟨by decide, by decide, by decide +kernel⟩, by decide⟩, (zt_5 _ (zpn (i := 21) rfl)), (zt_5 _ (zpn (i := 22) rfl))⟩
set_option maxRecDepth 100000 in
theorem k_Zt_241 : zLnV "ZigzagTablets" 241 0 y_Piece_listFits := ⟨⟨(zt_5 _ (zpn (i := 40) rfl)), (zt_5 _ (zpn (i := 43) rfl)), (zt_1 _ (zpn (i := 6) rfl)), ⟨by decide, by decide, by decide +kernel⟩, by decide⟩, (zt_5 _ (zpn (i := 41) rfl)), (zt_5 _ (zpn (i := 42) rfl))⟩
set_option maxRecDepth 100000 in
theorem f_Zt_244 : zFld "ZigzagTablets" 244 5 9 false .int := ⟨"ZigzagTablets$Piece", zT5, 17, zY5, rfl, zi5, zy5, zn5, by decide, rfl, rfl, rfl, (zt_1 _ (zpn (i := 154) rfl)), rfl, rfl, by decide⟩
set_option maxRecDepth 100000 in
theorem f_Zt_247 : zFld "ZigzagTablets" 247 5 6 true (.array .int) := ⟨"ZigzagTablets$Piece", zT5, 17, zY5, rfl, zi5, zy5, zn5, by decide, rfl, rfl, rfl, (zt_1 _ (zpn (i := 148) rfl)), rfl, rfl, by decide⟩
set_option maxRecDepth 100000 in
theorem k_Zt_250 : zLnV "ZigzagTablets" 250 2 y_Piece_listDifferences := ⟨⟨(zt_5 _ (zpn (i := 53) rfl)), (zt_5 _ (zpn (i := 56) rfl)), (zt_1 _ (zpn (i := 6) rfl)), ⟨by decide, by decide, by decide +kernel⟩, by decide⟩, (zt_5 _ (zpn (i := 54) rfl)), (zt_5 _ (zpn (i := 55) rfl))⟩
set_option maxRecDepth 100000 in
theorem f_Zt_254 : zFld "ZigzagTablets" 254 5 10 false .int := ⟨"ZigzagTablets$Piece", zT5, 17, zY5, rfl, zi5, zy5, zn5, by decide, rfl, rfl, rfl, (zt_1 _ (zpn (i := 156) rfl)), rfl, rfl, by decide⟩
set_option maxRecDepth 100000 in
theorem f_Zt_257 : zFld "ZigzagTablets" 257 5 7 true (.array .int) := ⟨"ZigzagTablets$Piece", zT5, 17, zY5, rfl, zi5, zy5, zn5, by decide, rfl, rfl, rfl, (zt_1 _ (zpn (i := 150) rfl)), rfl, rfl, by decide⟩
set_option maxRecDepth 100000 in
theorem k_Zt_260 : zLnV "ZigzagTablets" 260 1 y_Piece_weigh := ⟨⟨(zt_5 _ (zpn (i := 68) rfl)), (zt_5 _ (zpn (i := 71) rfl)), (zt_1 _ (zpn (i := 6) rfl)), ⟨by decide, by decide, by decide +kernel⟩, by decide⟩, (zt_5 _ (zpn (i := 69) rfl)), (zt_5 _ (zpn (i := 70) rfl))⟩
set_option maxRecDepth 100000 in
theorem f_Zt_264 : zFld "ZigzagTablets" 264 5 13 false .int := ⟨"ZigzagTablets$Piece", zT5, 17, zY5, rfl, zi5, zy5, zn5, by decide, rfl, rfl, rfl, (zt_1 _ (zpn (i := 162) rfl)), rfl, rfl, by decide⟩
set_option maxRecDepth 100000 in
theorem f_Zt_267 : zFld "ZigzagTablets" 267 5 11 false .int := ⟨"ZigzagTablets$Piece", zT5, 17, zY5, rfl, zi5, zy5, zn5, by decide, rfl, rfl, rfl, (zt_1 _ (zpn (i := 158) rfl)), rfl, rfl, by decide⟩
set_option maxRecDepth 100000 in
theorem f_Zt_270 : zFld "ZigzagTablets" 270 5 12 false .int := ⟨"ZigzagTablets$Piece", zT5, 17, zY5, rfl, zi5, zy5, zn5, by decide, rfl, rfl, rfl, (zt_1 _ (zpn (i := 160) rfl)), rfl, rfl, by decide⟩
set_option maxRecDepth 100000 in
theorem k_Zt_273 : zLnV "ZigzagTablets" 273 1 y_History_remember := ⟨⟨(zt_5 _ (zpn (i := 80) rfl)), (zt_5 _ (zpn (i := 83) rfl)), (zt_1 _ (zpn (i := 5) rfl)), ⟨by decide, by decide, by decide +kernel⟩, by decide⟩, (zt_5 _ (zpn (i := 81) rfl)), (zt_5 _ (zpn (i := 82) rfl))⟩
set_option maxRecDepth 100000 in
theorem k_Zt_283 : zLnV "ZigzagTablets" 283 0 y_Zt_settle := ⟨⟨(zt_5 _ (zpn (i := 93) rfl)), (zt_5 _ (zpn (i := 96) rfl)), (zt_1 _ (zpn (i := 1) rfl)), ⟨by decide, by decide, by decide +kernel⟩, by decide⟩, (zt_5 _ (zpn (i := 95) rfl)), (zt_0 _ (zpn (i := 49) rfl))⟩
set_option maxRecDepth 100000 in
theorem k_Zt_276 : zLnV "ZigzagTablets" 276 3 y_Tablet_next := ⟨⟨(zt_5 _ (zpn (i := 5) rfl)), (zt_4 _ (zpn (i := 171) rfl)), (zt_1 _ (zpn (i := 11) rfl)), ⟨by decide, by decide, by decide +kernel⟩, by decide⟩, (zt_4 _ (zpn (i := 169) rfl)), (zt_4 _ (zpn (i := 170) rfl))⟩
set_option maxRecDepth 100000 in
theorem k_Zt_279 : zLnV "ZigzagTablets" 279 0 y_Zt_keepIfMarked := ⟨⟨(zt_5 _ (zpn (i := 85) rfl)), (zt_5 _ (zpn (i := 88) rfl)), (zt_1 _ (zpn (i := 1) rfl)), ⟨by decide, by decide, by decide +kernel⟩, by decide⟩, (zt_5 _ (zpn (i := 87) rfl)), (zt_0 _ (zpn (i := 48) rfl))⟩
set_option maxRecDepth 100000 in
theorem k_Zt_286 : zLnV "ZigzagTablets" 286 0 y_Column_moves := ⟨⟨(zt_4 _ (zpn (i := 233) rfl)), (zt_2 _ (zpn (i := 191) rfl)), (zt_1 _ (zpn (i := 12) rfl)), ⟨by decide, by decide, by decide +kernel⟩, by decide⟩, (zt_2 _ (zpn (i := 189) rfl)), (zt_2 _ (zpn (i := 190) rfl))⟩
set_option maxRecDepth 100000 in
theorem k_Zt_289 : zLnV "ZigzagTablets" 289 1 y_Column_canTell := ⟨⟨(zt_5 _ (zpn (i := 101) rfl)), (zt_5 _ (zpn (i := 35) rfl)), (zt_1 _ (zpn (i := 12) rfl)), ⟨by decide, by decide, by decide +kernel⟩, by decide⟩, (zt_5 _ (zpn (i := 33) rfl)), (zt_5 _ (zpn (i := 34) rfl))⟩
set_option maxRecDepth 100000 in
theorem k_Zt_292 : zLnV "ZigzagTablets" 292 2 y_Line_go := ⟨⟨(zt_5 _ (zpn (i := 4) rfl)), (zt_2 _ (zpn (i := 187) rfl)), (zt_1 _ (zpn (i := 3) rfl)), ⟨by decide, by decide, by decide +kernel⟩, by decide⟩, (zt_2 _ (zpn (i := 185) rfl)), (zt_2 _ (zpn (i := 186) rfl))⟩
set_option maxRecDepth 100000 in
theorem k_Zt_296 : zLnV "ZigzagTablets" 296 0 y_Zt_slipByTheSeed := ⟨⟨(zt_5 _ (zpn (i := 110) rfl)), (zt_5 _ (zpn (i := 113) rfl)), (zt_1 _ (zpn (i := 1) rfl)), ⟨by decide, by decide, by decide +kernel⟩, by decide⟩, (zt_5 _ (zpn (i := 112) rfl)), (zt_0 _ (zpn (i := 50) rfl))⟩
set_option maxRecDepth 100000 in
theorem k_Zt_299 : zLnV "ZigzagTablets" 299 1 y_History_goBack := ⟨⟨(zt_5 _ (zpn (i := 126) rfl)), (zt_5 _ (zpn (i := 129) rfl)), (zt_1 _ (zpn (i := 5) rfl)), ⟨by decide, by decide, by decide +kernel⟩, by decide⟩, (zt_5 _ (zpn (i := 127) rfl)), (zt_5 _ (zpn (i := 128) rfl))⟩
set_option maxRecDepth 100000 in
theorem f_Zt_93 : zFld "ZigzagTablets" 93 10 16 false .long := ⟨"ZigzagTablets", zT10, 17, zY10, rfl, zi10, zy10, zn10, by decide, rfl, rfl, rfl, (zt_3 _ (zpn (i := 46) rfl)), rfl, rfl, by decide⟩
set_option maxRecDepth 100000 in
theorem k_Zt_302 : zLnV "ZigzagTablets" 302 0 y_Reader_readQuestion := ⟨⟨(zt_5 _ (zpn (i := 138) rfl)), (zt_5 _ (zpn (i := 141) rfl)), (zt_1 _ (zpn (i := 7) rfl)), ⟨by decide, by decide, by decide +kernel⟩, by decide⟩, (zt_5 _ (zpn (i := 139) rfl)), (zt_5 _ (zpn (i := 140) rfl))⟩
set_option maxRecDepth 100000 in
theorem f_Zt_68 : zFld "ZigzagTablets" 68 10 8 true (.object "ZigzagTablets$Question") := ⟨"ZigzagTablets", zT10, 17, zY10, rfl, zi10, zy10, zn10, by decide, rfl, rfl, rfl, (zt_3 _ (zpn (i := 38) rfl)), rfl, rfl, by decide⟩
set_option maxRecDepth 100000 in
theorem f_Zt_305 : zFld "ZigzagTablets" 305 7 2 false .int := ⟨"ZigzagTablets$Reader", zT7, 12, zY7, rfl, zi7, zy7, zn7, by decide, rfl, rfl, rfl, (zt_1 _ (zpn (i := 230) rfl)), rfl, rfl, by decide⟩
set_option maxRecDepth 100000 in
theorem f_Zt_308 : zFld "ZigzagTablets" 308 7 1 true (.object "ZigzagTablets$Code") := ⟨"ZigzagTablets$Reader", zT7, 12, zY7, rfl, zi7, zy7, zn7, by decide, rfl, rfl, rfl, (zt_1 _ (zpn (i := 228) rfl)), rfl, rfl, by decide⟩
set_option maxRecDepth 100000 in
theorem k_Zt_312 : zLnV "ZigzagTablets" 312 3 y_Question_answer := ⟨⟨(zt_5 _ (zpn (i := 152) rfl)), (zt_5 _ (zpn (i := 155) rfl)), (zt_1 _ (zpn (i := 10) rfl)), ⟨by decide, by decide, by decide +kernel⟩, by decide⟩, (zt_5 _ (zpn (i := 153) rfl)), (zt_5 _ (zpn (i := 154) rfl))⟩
set_option maxRecDepth 100000 in
theorem f_Zt_72 : zFld "ZigzagTablets" 72 10 9 true (.array .int) := ⟨"ZigzagTablets", zT10, 17, zY10, rfl, zi10, zy10, zn10, by decide, rfl, rfl, rfl, (zt_3 _ (zpn (i := 39) rfl)), rfl, rfl, by decide⟩
set_option maxRecDepth 100000 in
theorem k_Zt_317 : zLnS "ZigzagTablets" 317 2 y_Zt_sealOf := ⟨⟨(zt_5 _ (zpn (i := 169) rfl)), (zt_5 _ (zpn (i := 171) rfl)), (zt_1 _ (zpn (i := 1) rfl)), ⟨by decide, by decide, by decide +kernel⟩, by decide⟩, (zt_5 _ (zpn (i := 170) rfl))⟩
set_option maxRecDepth 100000 in
theorem f_Zt_321 : zFld "ZigzagTablets" 321 10 13 false .int := ⟨"ZigzagTablets", zT10, 17, zY10, rfl, zi10, zy10, zn10, by decide, rfl, rfl, rfl, (zt_3 _ (zpn (i := 43) rfl)), rfl, rfl, by decide⟩
set_option maxRecDepth 100000 in
theorem w_Zt_316 : Cond.constant "ZigzagTablets" 316 (Int32.ofInt 1000000) ∈ lw_tbl := (zt_5 _ (zpn (i := 168) rfl))
set_option maxRecDepth 100000 in
theorem k_Zt_324 : zLnV "ZigzagTablets" 324 1 y_Zt_readImage := ⟨⟨(zt_5 _ (zpn (i := 180) rfl)), (zt_5 _ (zpn (i := 183) rfl)), (zt_1 _ (zpn (i := 1) rfl)), ⟨by decide, by decide, by decide +kernel⟩, by decide⟩, (zt_5 _ (zpn (i := 182) rfl)), (zt_0 _ (zpn (i := 54) rfl))⟩
set_option maxRecDepth 100000 in
theorem k_Zt_327 : zLnV "ZigzagTablets" 327 0 y_History_forget := ⟨⟨(zt_3 _ (zpn (i := 18) rfl)), (zt_3 _ (zpn (i := 21) rfl)), (zt_1 _ (zpn (i := 5) rfl)), ⟨by decide, by decide, by decide +kernel⟩, by decide⟩, (zt_3 _ (zpn (i := 19) rfl)), (zt_3 _ (zpn (i := 20) rfl))⟩
set_option maxRecDepth 100000 in
theorem f_Zt_76 : zFld "ZigzagTablets" 76 10 10 true (.array .int) := ⟨"ZigzagTablets", zT10, 17, zY10, rfl, zi10, zy10, zn10, by decide, rfl, rfl, rfl, (zt_3 _ (zpn (i := 40) rfl)), rfl, rfl, by decide⟩
set_option maxRecDepth 100000 in
theorem f_Zt_330 : zFld "ZigzagTablets" 330 7 3 false .int := ⟨"ZigzagTablets$Reader", zT7, 12, zY7, rfl, zi7, zy7, zn7, by decide, rfl, rfl, rfl, (zt_1 _ (zpn (i := 232) rfl)), rfl, rfl, by decide⟩
set_option maxRecDepth 100000 in
theorem f_Zt_333 : zFld "ZigzagTablets" 333 7 4 false .int := ⟨"ZigzagTablets$Reader", zT7, 12, zY7, rfl, zi7, zy7, zn7, by decide, rfl, rfl, rfl, (zt_1 _ (zpn (i := 234) rfl)), rfl, rfl, by decide⟩
set_option maxRecDepth 100000 in
theorem k_Zt_334 : zLnV "ZigzagTablets" 334 1 y_Tablet_begin := ⟨⟨(zt_2 _ (zpn (i := 180) rfl)), (zt_2 _ (zpn (i := 183) rfl)), (zt_1 _ (zpn (i := 11) rfl)), ⟨by decide, by decide, by decide +kernel⟩, by decide⟩, (zt_2 _ (zpn (i := 181) rfl)), (zt_2 _ (zpn (i := 182) rfl))⟩
set_option maxRecDepth 100000 in
theorem k_Zt_337 : zLnV "ZigzagTablets" 337 2 y_Course_begin := ⟨⟨(zt_3 _ (zpn (i := 2) rfl)), (zt_3 _ (zpn (i := 5) rfl)), (zt_1 _ (zpn (i := 4) rfl)), ⟨by decide, by decide, by decide +kernel⟩, by decide⟩, (zt_3 _ (zpn (i := 3) rfl)), (zt_3 _ (zpn (i := 4) rfl))⟩
set_option maxRecDepth 100000 in
theorem k_Zt_340 : zLnV "ZigzagTablets" 340 0 y_Piece_forget := ⟨⟨(zt_3 _ (zpn (i := 22) rfl)), (zt_3 _ (zpn (i := 25) rfl)), (zt_1 _ (zpn (i := 6) rfl)), ⟨by decide, by decide, by decide +kernel⟩, by decide⟩, (zt_3 _ (zpn (i := 23) rfl)), (zt_3 _ (zpn (i := 24) rfl))⟩
set_option maxRecDepth 100000 in
theorem k_Zt_341 : zLnS "ZigzagTablets" 341 2 y_Jm_min_III := ⟨⟨(zt_4 _ (zpn (i := 206) rfl)), (zt_2 _ (zpn (i := 210) rfl)), (zt_1 _ (zpn (i := 13) rfl)), ⟨by decide, by decide, by decide +kernel⟩, by decide⟩, (zt_2 _ (zpn (i := 209) rfl))⟩
set_option maxRecDepth 100000 in
theorem k_Zt_344 : zLnV "ZigzagTablets" 344 2 y_History_keep := ⟨⟨(zt_5 _ (zpn (i := 89) rfl)), (zt_5 _ (zpn (i := 92) rfl)), (zt_1 _ (zpn (i := 5) rfl)), ⟨by decide, by decide, by decide +kernel⟩, by decide⟩, (zt_5 _ (zpn (i := 90) rfl)), (zt_5 _ (zpn (i := 91) rfl))⟩
set_option maxRecDepth 100000 in
theorem k_Zt_348 : zLnV "ZigzagTablets" 348 2 y_Course_goesUp := ⟨⟨(zt_4 _ (zpn (i := 229) rfl)), (zt_4 _ (zpn (i := 232) rfl)), (zt_1 _ (zpn (i := 4) rfl)), ⟨by decide, by decide, by decide +kernel⟩, by decide⟩, (zt_4 _ (zpn (i := 230) rfl)), (zt_4 _ (zpn (i := 231) rfl))⟩
set_option maxRecDepth 100000 in
theorem w_Zt_350 : Cond.constantLong "ZigzagTablets" 350 (Int64.ofInt 1103515245) ∈ lw_tbl := (zt_5 _ (zpn (i := 118) rfl))
set_option maxRecDepth 100000 in
theorem w_Zt_352 : Cond.constantLong "ZigzagTablets" 352 (Int64.ofInt 12345) ∈ lw_tbl := (zt_5 _ (zpn (i := 119) rfl))
set_option maxRecDepth 100000 in
theorem w_Zt_354 : Cond.constantLong "ZigzagTablets" 354 (Int64.ofInt 2147483647) ∈ lw_tbl := (zt_5 _ (zpn (i := 120) rfl))
set_option maxRecDepth 100000 in
theorem w_Zt_356 : Cond.constantLong "ZigzagTablets" 356 (Int64.ofInt 64) ∈ lw_tbl := (zt_5 _ (zpn (i := 121) rfl))
set_option maxRecDepth 100000 in
theorem k_Zt_358 : zLnV "ZigzagTablets" 358 1 y_Zt_draw := ⟨⟨(zt_5 _ (zpn (i := 114) rfl)), (zt_5 _ (zpn (i := 117) rfl)), (zt_1 _ (zpn (i := 1) rfl)), ⟨by decide, by decide, by decide +kernel⟩, by decide⟩, (zt_5 _ (zpn (i := 116) rfl)), (zt_0 _ (zpn (i := 51) rfl))⟩
set_option maxRecDepth 100000 in
theorem f_Zt_361 : zFld "ZigzagTablets" 361 9 0 true (.array .int) := ⟨"ZigzagTablets$Tape", zT9, 2, zY9, rfl, zi9, zy9, zn9, by decide, rfl, rfl, rfl, (zt_1 _ (zpn (i := 38) rfl)), rfl, rfl, by decide⟩
set_option maxRecDepth 100000 in
theorem f_Zt_364 : zFld "ZigzagTablets" 364 4 2 false .int := ⟨"ZigzagTablets$Line", zT4, 3, zY4, rfl, zi4, zy4, zn4, by decide, rfl, rfl, rfl, (zt_1 _ (zpn (i := 69) rfl)), rfl, rfl, by decide⟩
set_option maxRecDepth 100000 in
theorem k_Zt_367 : zLnV "ZigzagTablets" 367 1 y_Tape_pair := ⟨⟨(zt_5 _ (zpn (i := 184) rfl)), (zt_5 _ (zpn (i := 31) rfl)), (zt_1 _ (zpn (i := 2) rfl)), ⟨by decide, by decide, by decide +kernel⟩, by decide⟩, (zt_5 _ (zpn (i := 29) rfl)), (zt_5 _ (zpn (i := 30) rfl))⟩
set_option maxRecDepth 100000 in
theorem f_Md_234 : zFld "ZigzagTabletsModel" 234 11 1 false .int := ⟨"ZigzagTabletsModel", zT11, 101, zY11, rfl, zi11, zy11, zn11, by decide, rfl, rfl, rfl, (zt_5 _ (zpn (i := 196) rfl)), rfl, rfl, by decide⟩
set_option maxRecDepth 100000 in
theorem f_Md_17 : zFld "ZigzagTabletsModel" 17 11 9 true (.array .int) := ⟨"ZigzagTabletsModel", zT11, 101, zY11, rfl, zi11, zy11, zn11, by decide, rfl, rfl, rfl, (zt_5 _ (zpn (i := 204) rfl)), rfl, rfl, by decide⟩
set_option maxRecDepth 100000 in
theorem f_Md_7 : zFld "ZigzagTabletsModel" 7 11 0 true (.array .int) := ⟨"ZigzagTabletsModel", zT11, 101, zY11, rfl, zi11, zy11, zn11, by decide, rfl, rfl, rfl, (zt_5 _ (zpn (i := 195) rfl)), rfl, rfl, by decide⟩
set_option maxRecDepth 100000 in
theorem f_Md_237 : zFld "ZigzagTabletsModel" 237 11 5 false .int := ⟨"ZigzagTabletsModel", zT11, 101, zY11, rfl, zi11, zy11, zn11, by decide, rfl, rfl, rfl, (zt_5 _ (zpn (i := 200) rfl)), rfl, rfl, by decide⟩
set_option maxRecDepth 100000 in
theorem f_Md_240 : zFld "ZigzagTabletsModel" 240 11 6 false .int := ⟨"ZigzagTabletsModel", zT11, 101, zY11, rfl, zi11, zy11, zn11, by decide, rfl, rfl, rfl, (zt_5 _ (zpn (i := 201) rfl)), rfl, rfl, by decide⟩
set_option maxRecDepth 100000 in
theorem f_Md_243 : zFld "ZigzagTabletsModel" 243 11 2 false .int := ⟨"ZigzagTabletsModel", zT11, 101, zY11, rfl, zi11, zy11, zn11, by decide, rfl, rfl, rfl, (zt_5 _ (zpn (i := 197) rfl)), rfl, rfl, by decide⟩
set_option maxRecDepth 100000 in
theorem f_Md_246 : zFld "ZigzagTabletsModel" 246 11 3 false .int := ⟨"ZigzagTabletsModel", zT11, 101, zY11, rfl, zi11, zy11, zn11, by decide, rfl, rfl, rfl, (zt_5 _ (zpn (i := 198) rfl)), rfl, rfl, by decide⟩
set_option maxRecDepth 100000 in
theorem k_Md_249 : zLnV "ZigzagTabletsModel" 249 0 y_Md_look := ⟨⟨(zt_7 _ (zpn (i := 34) rfl)), (zt_7 _ (zpn (i := 37) rfl)), (zt_1 _ (zpn (i := 15) rfl)), ⟨by decide, by decide, by decide +kernel⟩, by decide⟩, (zt_7 _ (zpn (i := 36) rfl)), (zt_0 _ (zpn (i := 55) rfl))⟩
set_option maxRecDepth 100000 in
theorem k_Md_253 : zLnS "ZigzagTabletsModel" 253 1 y_Md_isLetter := ⟨⟨(zt_7 _ (zpn (i := 54) rfl)), (zt_7 _ (zpn (i := 56) rfl)), (zt_1 _ (zpn (i := 15) rfl)), ⟨by decide, by decide, by decide +kernel⟩, by decide⟩, (zt_7 _ (zpn (i := 55) rfl))⟩
set_option maxRecDepth 100000 in
theorem f_Md_257 : zFld "ZigzagTabletsModel" 257 11 4 false .int := ⟨"ZigzagTabletsModel", zT11, 101, zY11, rfl, zi11, zy11, zn11, by decide, rfl, rfl, rfl, (zt_5 _ (zpn (i := 199) rfl)), rfl, rfl, by decide⟩
set_option maxRecDepth 100000 in
theorem k_Md_260 : zLnV "ZigzagTabletsModel" 260 1 y_Md_isHere := ⟨⟨(zt_7 _ (zpn (i := 50) rfl)), (zt_7 _ (zpn (i := 53) rfl)), (zt_1 _ (zpn (i := 15) rfl)), ⟨by decide, by decide, by decide +kernel⟩, by decide⟩, (zt_7 _ (zpn (i := 52) rfl)), (zt_0 _ (zpn (i := 59) rfl))⟩
set_option maxRecDepth 100000 in
theorem k_Md_264 : zLnV "ZigzagTabletsModel" 264 1 y_Md_takes := ⟨⟨(zt_7 _ (zpn (i := 46) rfl)), (zt_7 _ (zpn (i := 49) rfl)), (zt_1 _ (zpn (i := 15) rfl)), ⟨by decide, by decide, by decide +kernel⟩, by decide⟩, (zt_7 _ (zpn (i := 48) rfl)), (zt_0 _ (zpn (i := 58) rfl))⟩
set_option maxRecDepth 100000 in
theorem k_Md_267 : zLnV "ZigzagTabletsModel" 267 2 y_Md_fail := ⟨⟨(zt_7 _ (zpn (i := 42) rfl)), (zt_7 _ (zpn (i := 45) rfl)), (zt_1 _ (zpn (i := 15) rfl)), ⟨by decide, by decide, by decide +kernel⟩, by decide⟩, (zt_7 _ (zpn (i := 44) rfl)), (zt_0 _ (zpn (i := 57) rfl))⟩
set_option maxRecDepth 100000 in
theorem k_Md_271 : zLnV "ZigzagTabletsModel" 271 1 y_Md_takesSign := ⟨⟨(zt_7 _ (zpn (i := 153) rfl)), (zt_7 _ (zpn (i := 156) rfl)), (zt_1 _ (zpn (i := 15) rfl)), ⟨by decide, by decide, by decide +kernel⟩, by decide⟩, (zt_7 _ (zpn (i := 155) rfl)), (zt_0 _ (zpn (i := 82) rfl))⟩
set_option maxRecDepth 100000 in
theorem k_Md_274 : zLnS "ZigzagTabletsModel" 274 1 y_Md_isDigit := ⟨⟨(zt_7 _ (zpn (i := 95) rfl)), (zt_7 _ (zpn (i := 97) rfl)), (zt_1 _ (zpn (i := 15) rfl)), ⟨by decide, by decide, by decide +kernel⟩, by decide⟩, (zt_7 _ (zpn (i := 96) rfl))⟩
set_option maxRecDepth 100000 in
theorem f_Md_277 : zFld "ZigzagTabletsModel" 277 11 10 false .int := ⟨"ZigzagTabletsModel", zT11, 101, zY11, rfl, zi11, zy11, zn11, by decide, rfl, rfl, rfl, (zt_5 _ (zpn (i := 205) rfl)), rfl, rfl, by decide⟩
set_option maxRecDepth 100000 in
theorem k_Md_280 : zLnS "ZigzagTabletsModel" 280 3 y_Md_isIn := ⟨⟨(zt_7 _ (zpn (i := 98) rfl)), (zt_7 _ (zpn (i := 100) rfl)), (zt_1 _ (zpn (i := 15) rfl)), ⟨by decide, by decide, by decide +kernel⟩, by decide⟩, (zt_7 _ (zpn (i := 99) rfl))⟩
set_option maxRecDepth 100000 in
theorem f_Md_20 : zFld "ZigzagTabletsModel" 20 11 11 true (.array .char) := ⟨"ZigzagTabletsModel", zT11, 101, zY11, rfl, zi11, zy11, zn11, by decide, rfl, rfl, rfl, (zt_5 _ (zpn (i := 206) rfl)), rfl, rfl, by decide⟩
set_option maxRecDepth 100000 in
theorem f_Md_24 : zFld "ZigzagTabletsModel" 24 11 12 true (.array .char) := ⟨"ZigzagTabletsModel", zT11, 101, zY11, rfl, zi11, zy11, zn11, by decide, rfl, rfl, rfl, (zt_5 _ (zpn (i := 207) rfl)), rfl, rfl, by decide⟩
set_option maxRecDepth 100000 in
theorem f_Md_27 : zFld "ZigzagTabletsModel" 27 11 13 true (.array .char) := ⟨"ZigzagTabletsModel", zT11, 101, zY11, rfl, zi11, zy11, zn11, by decide, rfl, rfl, rfl, (zt_5 _ (zpn (i := 208) rfl)), rfl, rfl, by decide⟩
set_option maxRecDepth 100000 in
theorem f_Md_30 : zFld "ZigzagTabletsModel" 30 11 14 true (.array .char) := ⟨"ZigzagTabletsModel", zT11, 101, zY11, rfl, zi11, zy11, zn11, by decide, rfl, rfl, rfl, (zt_5 _ (zpn (i := 209) rfl)), rfl, rfl, by decide⟩
set_option maxRecDepth 100000 in
theorem f_Md_33 : zFld "ZigzagTabletsModel" 33 11 15 true (.array .char) := ⟨"ZigzagTabletsModel", zT11, 101, zY11, rfl, zi11, zy11, zn11, by decide, rfl, rfl, rfl, (zt_5 _ (zpn (i := 210) rfl)), rfl, rfl, by decide⟩
set_option maxRecDepth 100000 in
theorem f_Md_36 : zFld "ZigzagTabletsModel" 36 11 16 true (.array .char) := ⟨"ZigzagTabletsModel", zT11, 101, zY11, rfl, zi11, zy11, zn11, by decide, rfl, rfl, rfl, (zt_5 _ (zpn (i := 211) rfl)), rfl, rfl, by decide⟩
set_option maxRecDepth 100000 in
theorem f_Md_39 : zFld "ZigzagTabletsModel" 39 11 17 true (.array .char) := ⟨"ZigzagTabletsModel", zT11, 101, zY11, rfl, zi11, zy11, zn11, by decide, rfl, rfl, rfl, (zt_5 _ (zpn (i := 212) rfl)), rfl, rfl, by decide⟩
set_option maxRecDepth 100000 in
theorem f_Md_42 : zFld "ZigzagTabletsModel" 42 11 18 true (.array .char) := ⟨"ZigzagTabletsModel", zT11, 101, zY11, rfl, zi11, zy11, zn11, by decide, rfl, rfl, rfl, (zt_5 _ (zpn (i := 213) rfl)), rfl, rfl, by decide⟩
set_option maxRecDepth 100000 in
theorem f_Md_45 : zFld "ZigzagTabletsModel" 45 11 19 true (.array .char) := ⟨"ZigzagTabletsModel", zT11, 101, zY11, rfl, zi11, zy11, zn11, by decide, rfl, rfl, rfl, (zt_5 _ (zpn (i := 214) rfl)), rfl, rfl, by decide⟩
set_option maxRecDepth 100000 in
theorem f_Md_48 : zFld "ZigzagTabletsModel" 48 11 20 true (.array .char) := ⟨"ZigzagTabletsModel", zT11, 101, zY11, rfl, zi11, zy11, zn11, by decide, rfl, rfl, rfl, (zt_5 _ (zpn (i := 215) rfl)), rfl, rfl, by decide⟩
set_option maxRecDepth 100000 in
theorem f_Md_51 : zFld "ZigzagTabletsModel" 51 11 21 true (.array .char) := ⟨"ZigzagTabletsModel", zT11, 101, zY11, rfl, zi11, zy11, zn11, by decide, rfl, rfl, rfl, (zt_5 _ (zpn (i := 216) rfl)), rfl, rfl, by decide⟩
set_option maxRecDepth 100000 in
theorem f_Md_54 : zFld "ZigzagTabletsModel" 54 11 22 true (.array .char) := ⟨"ZigzagTabletsModel", zT11, 101, zY11, rfl, zi11, zy11, zn11, by decide, rfl, rfl, rfl, (zt_5 _ (zpn (i := 217) rfl)), rfl, rfl, by decide⟩
set_option maxRecDepth 100000 in
theorem f_Md_57 : zFld "ZigzagTabletsModel" 57 11 23 true (.array .char) := ⟨"ZigzagTabletsModel", zT11, 101, zY11, rfl, zi11, zy11, zn11, by decide, rfl, rfl, rfl, (zt_5 _ (zpn (i := 218) rfl)), rfl, rfl, by decide⟩
set_option maxRecDepth 100000 in
theorem f_Md_60 : zFld "ZigzagTabletsModel" 60 11 24 true (.array .char) := ⟨"ZigzagTabletsModel", zT11, 101, zY11, rfl, zi11, zy11, zn11, by decide, rfl, rfl, rfl, (zt_5 _ (zpn (i := 219) rfl)), rfl, rfl, by decide⟩
set_option maxRecDepth 100000 in
theorem f_Md_63 : zFld "ZigzagTabletsModel" 63 11 25 true (.array .char) := ⟨"ZigzagTabletsModel", zT11, 101, zY11, rfl, zi11, zy11, zn11, by decide, rfl, rfl, rfl, (zt_5 _ (zpn (i := 220) rfl)), rfl, rfl, by decide⟩
set_option maxRecDepth 100000 in
theorem f_Md_66 : zFld "ZigzagTabletsModel" 66 11 26 true (.array .char) := ⟨"ZigzagTabletsModel", zT11, 101, zY11, rfl, zi11, zy11, zn11, by decide, rfl, rfl, rfl, (zt_5 _ (zpn (i := 221) rfl)), rfl, rfl, by decide⟩
set_option maxRecDepth 100000 in
theorem f_Md_69 : zFld "ZigzagTabletsModel" 69 11 27 true (.array .char) := ⟨"ZigzagTabletsModel", zT11, 101, zY11, rfl, zi11, zy11, zn11, by decide, rfl, rfl, rfl, (zt_5 _ (zpn (i := 222) rfl)), rfl, rfl, by decide⟩
set_option maxRecDepth 100000 in
theorem f_Md_72 : zFld "ZigzagTabletsModel" 72 11 28 true (.array .char) := ⟨"ZigzagTabletsModel", zT11, 101, zY11, rfl, zi11, zy11, zn11, by decide, rfl, rfl, rfl, (zt_5 _ (zpn (i := 223) rfl)), rfl, rfl, by decide⟩
set_option maxRecDepth 100000 in
theorem f_Md_75 : zFld "ZigzagTabletsModel" 75 11 29 true (.array .char) := ⟨"ZigzagTabletsModel", zT11, 101, zY11, rfl, zi11, zy11, zn11, by decide, rfl, rfl, rfl, (zt_5 _ (zpn (i := 224) rfl)), rfl, rfl, by decide⟩
set_option maxRecDepth 100000 in
theorem f_Md_78 : zFld "ZigzagTabletsModel" 78 11 30 true (.array .char) := ⟨"ZigzagTabletsModel", zT11, 101, zY11, rfl, zi11, zy11, zn11, by decide, rfl, rfl, rfl, (zt_5 _ (zpn (i := 225) rfl)), rfl, rfl, by decide⟩
set_option maxRecDepth 100000 in
theorem f_Md_81 : zFld "ZigzagTabletsModel" 81 11 31 true (.array .char) := ⟨"ZigzagTabletsModel", zT11, 101, zY11, rfl, zi11, zy11, zn11, by decide, rfl, rfl, rfl, (zt_5 _ (zpn (i := 226) rfl)), rfl, rfl, by decide⟩
set_option maxRecDepth 100000 in
theorem f_Md_84 : zFld "ZigzagTabletsModel" 84 11 32 true (.array .char) := ⟨"ZigzagTabletsModel", zT11, 101, zY11, rfl, zi11, zy11, zn11, by decide, rfl, rfl, rfl, (zt_5 _ (zpn (i := 227) rfl)), rfl, rfl, by decide⟩
set_option maxRecDepth 100000 in
theorem f_Md_87 : zFld "ZigzagTabletsModel" 87 11 33 true (.array .char) := ⟨"ZigzagTabletsModel", zT11, 101, zY11, rfl, zi11, zy11, zn11, by decide, rfl, rfl, rfl, (zt_5 _ (zpn (i := 228) rfl)), rfl, rfl, by decide⟩
set_option maxRecDepth 100000 in
theorem f_Md_90 : zFld "ZigzagTabletsModel" 90 11 34 true (.array .char) := ⟨"ZigzagTabletsModel", zT11, 101, zY11, rfl, zi11, zy11, zn11, by decide, rfl, rfl, rfl, (zt_5 _ (zpn (i := 229) rfl)), rfl, rfl, by decide⟩
set_option maxRecDepth 100000 in
theorem f_Md_93 : zFld "ZigzagTabletsModel" 93 11 35 true (.array .char) := ⟨"ZigzagTabletsModel", zT11, 101, zY11, rfl, zi11, zy11, zn11, by decide, rfl, rfl, rfl, (zt_5 _ (zpn (i := 230) rfl)), rfl, rfl, by decide⟩
set_option maxRecDepth 100000 in
theorem f_Md_96 : zFld "ZigzagTabletsModel" 96 11 36 true (.array .char) := ⟨"ZigzagTabletsModel", zT11, 101, zY11, rfl, zi11, zy11, zn11, by decide, rfl, rfl, rfl, (zt_5 _ (zpn (i := 231) rfl)), rfl, rfl, by decide⟩
set_option maxRecDepth 100000 in
theorem f_Md_99 : zFld "ZigzagTabletsModel" 99 11 37 true (.array .char) := ⟨"ZigzagTabletsModel", zT11, 101, zY11, rfl, zi11, zy11, zn11, by decide, rfl, rfl, rfl, (zt_5 _ (zpn (i := 232) rfl)), rfl, rfl, by decide⟩
set_option maxRecDepth 100000 in
theorem f_Md_102 : zFld "ZigzagTabletsModel" 102 11 38 true (.array .char) := ⟨"ZigzagTabletsModel", zT11, 101, zY11, rfl, zi11, zy11, zn11, by decide, rfl, rfl, rfl, (zt_5 _ (zpn (i := 233) rfl)), rfl, rfl, by decide⟩
set_option maxRecDepth 100000 in
theorem f_Md_105 : zFld "ZigzagTabletsModel" 105 11 39 true (.array .char) := ⟨"ZigzagTabletsModel", zT11, 101, zY11, rfl, zi11, zy11, zn11, by decide, rfl, rfl, rfl, (zt_5 _ (zpn (i := 234) rfl)), rfl, rfl, by decide⟩
set_option maxRecDepth 100000 in
theorem f_Md_108 : zFld "ZigzagTabletsModel" 108 11 40 true (.array .char) := ⟨"ZigzagTabletsModel", zT11, 101, zY11, rfl, zi11, zy11, zn11, by decide, rfl, rfl, rfl, (zt_5 _ (zpn (i := 235) rfl)), rfl, rfl, by decide⟩
set_option maxRecDepth 100000 in
theorem k_Md_284 : zLnV "ZigzagTabletsModel" 284 0 y_Md_isOwnHere := ⟨⟨(zt_7 _ (zpn (i := 73) rfl)), (zt_7 _ (zpn (i := 76) rfl)), (zt_1 _ (zpn (i := 15) rfl)), ⟨by decide, by decide, by decide +kernel⟩, by decide⟩, (zt_7 _ (zpn (i := 75) rfl)), (zt_0 _ (zpn (i := 64) rfl))⟩
set_option maxRecDepth 100000 in
theorem f_Md_288 : zFld "ZigzagTabletsModel" 288 11 41 false .int := ⟨"ZigzagTabletsModel", zT11, 101, zY11, rfl, zi11, zy11, zn11, by decide, rfl, rfl, rfl, (zt_5 _ (zpn (i := 236) rfl)), rfl, rfl, by decide⟩
set_option maxRecDepth 100000 in
theorem w_Md_291 : Cond.constantLong "ZigzagTabletsModel" 291 (Int64.ofInt 27) ∈ lw_tbl := (zt_7 _ (zpn (i := 77) rfl))
set_option maxRecDepth 100000 in
theorem w_Md_293 : Cond.constantLong "ZigzagTabletsModel" 293 (Int64.ofInt 97) ∈ lw_tbl := (zt_7 _ (zpn (i := 78) rfl))
set_option maxRecDepth 100000 in
theorem f_Md_111 : zFld "ZigzagTabletsModel" 111 11 42 true (.array .int) := ⟨"ZigzagTabletsModel", zT11, 101, zY11, rfl, zi11, zy11, zn11, by decide, rfl, rfl, rfl, (zt_5 _ (zpn (i := 237) rfl)), rfl, rfl, by decide⟩
set_option maxRecDepth 100000 in
theorem f_Md_114 : zFld "ZigzagTabletsModel" 114 11 43 true (.array .long) := ⟨"ZigzagTabletsModel", zT11, 101, zY11, rfl, zi11, zy11, zn11, by decide, rfl, rfl, rfl, (zt_5 _ (zpn (i := 238) rfl)), rfl, rfl, by decide⟩
set_option maxRecDepth 100000 in
theorem f_Md_295 : zFld "ZigzagTabletsModel" 295 11 50 false .int := ⟨"ZigzagTabletsModel", zT11, 101, zY11, rfl, zi11, zy11, zn11, by decide, rfl, rfl, rfl, (zt_6 _ (zpn (i := 5) rfl)), rfl, rfl, by decide⟩
set_option maxRecDepth 100000 in
theorem k_Md_298 : zLnV "ZigzagTabletsModel" 298 0 y_Md_name := ⟨⟨(zt_7 _ (zpn (i := 69) rfl)), (zt_7 _ (zpn (i := 72) rfl)), (zt_1 _ (zpn (i := 15) rfl)), ⟨by decide, by decide, by decide +kernel⟩, by decide⟩, (zt_7 _ (zpn (i := 71) rfl)), (zt_0 _ (zpn (i := 63) rfl))⟩
set_option maxRecDepth 100000 in
theorem k_Md_302 : zLnV "ZigzagTabletsModel" 302 1 y_Md_asks := ⟨⟨(zt_7 _ (zpn (i := 87) rfl)), (zt_7 _ (zpn (i := 90) rfl)), (zt_1 _ (zpn (i := 15) rfl)), ⟨by decide, by decide, by decide +kernel⟩, by decide⟩, (zt_7 _ (zpn (i := 89) rfl)), (zt_0 _ (zpn (i := 67) rfl))⟩
set_option maxRecDepth 100000 in
theorem k_Md_306 : zLnV "ZigzagTabletsModel" 306 2 y_Md_number := ⟨⟨(zt_7 _ (zpn (i := 91) rfl)), (zt_7 _ (zpn (i := 94) rfl)), (zt_1 _ (zpn (i := 15) rfl)), ⟨by decide, by decide, by decide +kernel⟩, by decide⟩, (zt_7 _ (zpn (i := 93) rfl)), (zt_0 _ (zpn (i := 68) rfl))⟩
set_option maxRecDepth 100000 in
theorem f_Md_118 : zFld "ZigzagTabletsModel" 118 11 44 true (.array .int) := ⟨"ZigzagTabletsModel", zT11, 101, zY11, rfl, zi11, zy11, zn11, by decide, rfl, rfl, rfl, (zt_5 _ (zpn (i := 239) rfl)), rfl, rfl, by decide⟩
set_option maxRecDepth 100000 in
theorem k_Md_310 : zLnV "ZigzagTabletsModel" 310 3 y_Md_told := ⟨⟨(zt_7 _ (zpn (i := 83) rfl)), (zt_7 _ (zpn (i := 86) rfl)), (zt_1 _ (zpn (i := 15) rfl)), ⟨by decide, by decide, by decide +kernel⟩, by decide⟩, (zt_7 _ (zpn (i := 85) rfl)), (zt_0 _ (zpn (i := 66) rfl))⟩
set_option maxRecDepth 100000 in
theorem k_Md_313 : zLnV "ZigzagTabletsModel" 313 2 y_Md_laid := ⟨⟨(zt_7 _ (zpn (i := 61) rfl)), (zt_7 _ (zpn (i := 64) rfl)), (zt_1 _ (zpn (i := 15) rfl)), ⟨by decide, by decide, by decide +kernel⟩, by decide⟩, (zt_7 _ (zpn (i := 63) rfl)), (zt_0 _ (zpn (i := 61) rfl))⟩
set_option maxRecDepth 100000 in
theorem f_Md_316 : zFld "ZigzagTabletsModel" 316 11 90 false .int := ⟨"ZigzagTabletsModel", zT11, 101, zY11, rfl, zi11, zy11, zn11, by decide, rfl, rfl, rfl, (zt_6 _ (zpn (i := 45) rfl)), rfl, rfl, by decide⟩
set_option maxRecDepth 100000 in
theorem f_Md_319 : zFld "ZigzagTabletsModel" 319 11 92 false .int := ⟨"ZigzagTabletsModel", zT11, 101, zY11, rfl, zi11, zy11, zn11, by decide, rfl, rfl, rfl, (zt_6 _ (zpn (i := 47) rfl)), rfl, rfl, by decide⟩
set_option maxRecDepth 100000 in
theorem f_Md_322 : zFld "ZigzagTabletsModel" 322 11 93 false .int := ⟨"ZigzagTabletsModel", zT11, 101, zY11, rfl, zi11, zy11, zn11, by decide, rfl, rfl, rfl, (zt_6 _ (zpn (i := 48) rfl)), rfl, rfl, by decide⟩
set_option maxRecDepth 100000 in
theorem f_Md_325 : zFld "ZigzagTabletsModel" 325 11 94 false .int := ⟨"ZigzagTabletsModel", zT11, 101, zY11, rfl, zi11, zy11, zn11, by decide, rfl, rfl, rfl, (zt_6 _ (zpn (i := 49) rfl)), rfl, rfl, by decide⟩
set_option maxRecDepth 100000 in
theorem k_Md_331 : zLnV "ZigzagTabletsModel" 331 0 y_Md_qSums := ⟨⟨(zt_7 _ (zpn (i := 129) rfl)), (zt_7 _ (zpn (i := 132) rfl)), (zt_1 _ (zpn (i := 15) rfl)), ⟨by decide, by decide, by decide +kernel⟩, by decide⟩, (zt_7 _ (zpn (i := 131) rfl)), (zt_0 _ (zpn (i := 76) rfl))⟩
set_option maxRecDepth 100000 in
theorem k_Md_328 : zLnV "ZigzagTabletsModel" 328 0 y_Md_qTest := ⟨⟨(zt_7 _ (zpn (i := 113) rfl)), (zt_7 _ (zpn (i := 116) rfl)), (zt_1 _ (zpn (i := 15) rfl)), ⟨by decide, by decide, by decide +kernel⟩, by decide⟩, (zt_7 _ (zpn (i := 115) rfl)), (zt_0 _ (zpn (i := 72) rfl))⟩
set_option maxRecDepth 100000 in
theorem f_Md_121 : zFld "ZigzagTabletsModel" 121 11 45 true (.array .int) := ⟨"ZigzagTabletsModel", zT11, 101, zY11, rfl, zi11, zy11, zn11, by decide, rfl, rfl, rfl, (zt_6 _ (zpn (i := 0) rfl)), rfl, rfl, by decide⟩
set_option maxRecDepth 100000 in
theorem f_Md_334 : zFld "ZigzagTabletsModel" 334 11 48 false .int := ⟨"ZigzagTabletsModel", zT11, 101, zY11, rfl, zi11, zy11, zn11, by decide, rfl, rfl, rfl, (zt_6 _ (zpn (i := 3) rfl)), rfl, rfl, by decide⟩
set_option maxRecDepth 100000 in
theorem f_Md_124 : zFld "ZigzagTabletsModel" 124 11 46 true (.array .int) := ⟨"ZigzagTabletsModel", zT11, 101, zY11, rfl, zi11, zy11, zn11, by decide, rfl, rfl, rfl, (zt_6 _ (zpn (i := 1) rfl)), rfl, rfl, by decide⟩
set_option maxRecDepth 100000 in
theorem f_Md_127 : zFld "ZigzagTabletsModel" 127 11 47 true (.array .int) := ⟨"ZigzagTabletsModel", zT11, 101, zY11, rfl, zi11, zy11, zn11, by decide, rfl, rfl, rfl, (zt_6 _ (zpn (i := 2) rfl)), rfl, rfl, by decide⟩
set_option maxRecDepth 100000 in
theorem f_Md_222 : zFld "ZigzagTabletsModel" 222 11 89 true (.array .int) := ⟨"ZigzagTabletsModel", zT11, 101, zY11, rfl, zi11, zy11, zn11, by decide, rfl, rfl, rfl, (zt_6 _ (zpn (i := 44) rfl)), rfl, rfl, by decide⟩
set_option maxRecDepth 100000 in
theorem k_Md_337 : zLnV "ZigzagTabletsModel" 337 2 y_Md_reads := ⟨⟨(zt_7 _ (zpn (i := 109) rfl)), (zt_7 _ (zpn (i := 112) rfl)), (zt_1 _ (zpn (i := 15) rfl)), ⟨by decide, by decide, by decide +kernel⟩, by decide⟩, (zt_7 _ (zpn (i := 111) rfl)), (zt_0 _ (zpn (i := 71) rfl))⟩
set_option maxRecDepth 100000 in
theorem k_Md_340 : zLnV "ZigzagTabletsModel" 340 0 y_Md_newName := ⟨⟨(zt_7 _ (zpn (i := 65) rfl)), (zt_7 _ (zpn (i := 68) rfl)), (zt_1 _ (zpn (i := 15) rfl)), ⟨by decide, by decide, by decide +kernel⟩, by decide⟩, (zt_7 _ (zpn (i := 67) rfl)), (zt_0 _ (zpn (i := 62) rfl))⟩
set_option maxRecDepth 100000 in
theorem k_Md_349 : zLnV "ZigzagTabletsModel" 349 0 y_Md_ringTold := ⟨⟨(zt_7 _ (zpn (i := 105) rfl)), (zt_7 _ (zpn (i := 108) rfl)), (zt_1 _ (zpn (i := 15) rfl)), ⟨by decide, by decide, by decide +kernel⟩, by decide⟩, (zt_7 _ (zpn (i := 107) rfl)), (zt_0 _ (zpn (i := 70) rfl))⟩
set_option maxRecDepth 100000 in
theorem k_Md_346 : zLnV "ZigzagTabletsModel" 346 0 y_Md_arcTold := ⟨⟨(zt_7 _ (zpn (i := 101) rfl)), (zt_7 _ (zpn (i := 104) rfl)), (zt_1 _ (zpn (i := 15) rfl)), ⟨by decide, by decide, by decide +kernel⟩, by decide⟩, (zt_7 _ (zpn (i := 103) rfl)), (zt_0 _ (zpn (i := 69) rfl))⟩
set_option maxRecDepth 100000 in
theorem k_Md_343 : zLnV "ZigzagTabletsModel" 343 0 y_Md_zigTold := ⟨⟨(zt_7 _ (zpn (i := 79) rfl)), (zt_7 _ (zpn (i := 82) rfl)), (zt_1 _ (zpn (i := 15) rfl)), ⟨by decide, by decide, by decide +kernel⟩, by decide⟩, (zt_7 _ (zpn (i := 81) rfl)), (zt_0 _ (zpn (i := 65) rfl))⟩
set_option maxRecDepth 100000 in
theorem f_Md_352 : zFld "ZigzagTabletsModel" 352 11 49 false .int := ⟨"ZigzagTabletsModel", zT11, 101, zY11, rfl, zi11, zy11, zn11, by decide, rfl, rfl, rfl, (zt_6 _ (zpn (i := 4) rfl)), rfl, rfl, by decide⟩
set_option maxRecDepth 100000 in
theorem k_Md_355 : zLnV "ZigzagTabletsModel" 355 2 y_Md_columnTold := ⟨⟨(zt_7 _ (zpn (i := 57) rfl)), (zt_7 _ (zpn (i := 60) rfl)), (zt_1 _ (zpn (i := 15) rfl)), ⟨by decide, by decide, by decide +kernel⟩, by decide⟩, (zt_7 _ (zpn (i := 59) rfl)), (zt_0 _ (zpn (i := 60) rfl))⟩
set_option maxRecDepth 100000 in
theorem k_Md_358 : zLnV "ZigzagTabletsModel" 358 1 y_Md_asksSign := ⟨⟨(zt_7 _ (zpn (i := 149) rfl)), (zt_7 _ (zpn (i := 152) rfl)), (zt_1 _ (zpn (i := 15) rfl)), ⟨by decide, by decide, by decide +kernel⟩, by decide⟩, (zt_7 _ (zpn (i := 151) rfl)), (zt_0 _ (zpn (i := 81) rfl))⟩
set_option maxRecDepth 100000 in
theorem k_Md_362 : zLnV "ZigzagTabletsModel" 362 0 y_Md_statementTold := ⟨⟨(zt_7 _ (zpn (i := 38) rfl)), (zt_7 _ (zpn (i := 41) rfl)), (zt_1 _ (zpn (i := 15) rfl)), ⟨by decide, by decide, by decide +kernel⟩, by decide⟩, (zt_7 _ (zpn (i := 40) rfl)), (zt_0 _ (zpn (i := 56) rfl))⟩
set_option maxRecDepth 100000 in
theorem f_Md_365 : zFld "ZigzagTabletsModel" 365 11 7 false .int := ⟨"ZigzagTabletsModel", zT11, 101, zY11, rfl, zi11, zy11, zn11, by decide, rfl, rfl, rfl, (zt_5 _ (zpn (i := 202) rfl)), rfl, rfl, by decide⟩
set_option maxRecDepth 100000 in
theorem f_Md_13 : zFld "ZigzagTabletsModel" 13 11 8 false .int := ⟨"ZigzagTabletsModel", zT11, 101, zY11, rfl, zi11, zy11, zn11, by decide, rfl, rfl, rfl, (zt_5 _ (zpn (i := 203) rfl)), rfl, rfl, by decide⟩
set_option maxRecDepth 100000 in
theorem k_Md_372 : zLnV "ZigzagTabletsModel" 372 0 y_Md_stands := ⟨⟨(zt_7 _ (zpn (i := 208) rfl)), (zt_7 _ (zpn (i := 211) rfl)), (zt_1 _ (zpn (i := 15) rfl)), ⟨by decide, by decide, by decide +kernel⟩, by decide⟩, (zt_7 _ (zpn (i := 210) rfl)), (zt_0 _ (zpn (i := 95) rfl))⟩
set_option maxRecDepth 100000 in
theorem k_Md_368 : zLnV "ZigzagTabletsModel" 368 1 y_Md_refuses := ⟨⟨(zt_7 _ (zpn (i := 204) rfl)), (zt_7 _ (zpn (i := 207) rfl)), (zt_1 _ (zpn (i := 15) rfl)), ⟨by decide, by decide, by decide +kernel⟩, by decide⟩, (zt_7 _ (zpn (i := 206) rfl)), (zt_0 _ (zpn (i := 94) rfl))⟩
set_option maxRecDepth 100000 in
theorem f_Md_375 : zFld "ZigzagTabletsModel" 375 11 52 false .boolean := ⟨"ZigzagTabletsModel", zT11, 101, zY11, rfl, zi11, zy11, zn11, by decide, rfl, rfl, rfl, (zt_6 _ (zpn (i := 7) rfl)), rfl, rfl, by decide⟩
set_option maxRecDepth 100000 in
theorem k_Md_379 : zLnV "ZigzagTabletsModel" 379 0 y_Md_laysTrue := ⟨⟨(zt_7 _ (zpn (i := 212) rfl)), (zt_7 _ (zpn (i := 215) rfl)), (zt_1 _ (zpn (i := 15) rfl)), ⟨by decide, by decide, by decide +kernel⟩, by decide⟩, (zt_7 _ (zpn (i := 214) rfl)), (zt_0 _ (zpn (i := 96) rfl))⟩
set_option maxRecDepth 100000 in
theorem k_Md_382 : zLnV "ZigzagTabletsModel" 382 0 y_Md_begins := ⟨⟨(zt_7 _ (zpn (i := 216) rfl)), (zt_7 _ (zpn (i := 219) rfl)), (zt_1 _ (zpn (i := 15) rfl)), ⟨by decide, by decide, by decide +kernel⟩, by decide⟩, (zt_7 _ (zpn (i := 218) rfl)), (zt_0 _ (zpn (i := 97) rfl))⟩
set_option maxRecDepth 100000 in
theorem f_Md_385 : zFld "ZigzagTabletsModel" 385 11 66 false .int := ⟨"ZigzagTabletsModel", zT11, 101, zY11, rfl, zi11, zy11, zn11, by decide, rfl, rfl, rfl, (zt_6 _ (zpn (i := 21) rfl)), rfl, rfl, by decide⟩
set_option maxRecDepth 100000 in
theorem f_Md_388 : zFld "ZigzagTabletsModel" 388 11 62 false .int := ⟨"ZigzagTabletsModel", zT11, 101, zY11, rfl, zi11, zy11, zn11, by decide, rfl, rfl, rfl, (zt_6 _ (zpn (i := 17) rfl)), rfl, rfl, by decide⟩
set_option maxRecDepth 100000 in
theorem f_Md_130 : zFld "ZigzagTabletsModel" 130 11 51 true (.array .int) := ⟨"ZigzagTabletsModel", zT11, 101, zY11, rfl, zi11, zy11, zn11, by decide, rfl, rfl, rfl, (zt_6 _ (zpn (i := 6) rfl)), rfl, rfl, by decide⟩
set_option maxRecDepth 100000 in
theorem k_Md_391 : zLnV "ZigzagTabletsModel" 391 0 y_Md_columnMany := ⟨⟨(zt_7 _ (zpn (i := 220) rfl)), (zt_7 _ (zpn (i := 223) rfl)), (zt_1 _ (zpn (i := 15) rfl)), ⟨by decide, by decide, by decide +kernel⟩, by decide⟩, (zt_7 _ (zpn (i := 222) rfl)), (zt_0 _ (zpn (i := 98) rfl))⟩
set_option maxRecDepth 100000 in
theorem k_Md_394 : zLnV "ZigzagTabletsModel" 394 2 y_Md_fieldOf := ⟨⟨(zt_7 _ (zpn (i := 228) rfl)), (zt_7 _ (zpn (i := 231) rfl)), (zt_1 _ (zpn (i := 15) rfl)), ⟨by decide, by decide, by decide +kernel⟩, by decide⟩, (zt_7 _ (zpn (i := 230) rfl)), (zt_0 _ (zpn (i := 100) rfl))⟩
set_option maxRecDepth 100000 in
theorem f_Md_397 : zFld "ZigzagTabletsModel" 397 11 96 false .int := ⟨"ZigzagTabletsModel", zT11, 101, zY11, rfl, zi11, zy11, zn11, by decide, rfl, rfl, rfl, (zt_6 _ (zpn (i := 51) rfl)), rfl, rfl, by decide⟩
set_option maxRecDepth 100000 in
theorem f_Md_228 : zFld "ZigzagTabletsModel" 228 11 95 true (.array .long) := ⟨"ZigzagTabletsModel", zT11, 101, zY11, rfl, zi11, zy11, zn11, by decide, rfl, rfl, rfl, (zt_6 _ (zpn (i := 50) rfl)), rfl, rfl, by decide⟩
set_option maxRecDepth 100000 in
theorem k_Md_408 : zLnV "ZigzagTabletsModel" 408 1 y_Md_qJoins := ⟨⟨(zt_8 _ (zpn (i := 16) rfl)), (zt_8 _ (zpn (i := 19) rfl)), (zt_1 _ (zpn (i := 15) rfl)), ⟨by decide, by decide, by decide +kernel⟩, by decide⟩, (zt_8 _ (zpn (i := 18) rfl)), (zt_0 _ (zpn (i := 107) rfl))⟩
set_option maxRecDepth 100000 in
theorem k_Md_400 : zLnV "ZigzagTabletsModel" 400 1 y_Md_qPuts := ⟨⟨(zt_8 _ (zpn (i := 0) rfl)), (zt_8 _ (zpn (i := 3) rfl)), (zt_1 _ (zpn (i := 15) rfl)), ⟨by decide, by decide, by decide +kernel⟩, by decide⟩, (zt_8 _ (zpn (i := 2) rfl)), (zt_0 _ (zpn (i := 103) rfl))⟩
set_option maxRecDepth 100000 in
theorem k_Md_404 : zLnV "ZigzagTabletsModel" 404 2 y_Md_qPartOf := ⟨⟨(zt_8 _ (zpn (i := 4) rfl)), (zt_8 _ (zpn (i := 7) rfl)), (zt_1 _ (zpn (i := 15) rfl)), ⟨by decide, by decide, by decide +kernel⟩, by decide⟩, (zt_8 _ (zpn (i := 6) rfl)), (zt_0 _ (zpn (i := 104) rfl))⟩
set_option maxRecDepth 100000 in
theorem f_Md_411 : zFld "ZigzagTabletsModel" 411 11 54 false .int := ⟨"ZigzagTabletsModel", zT11, 101, zY11, rfl, zi11, zy11, zn11, by decide, rfl, rfl, rfl, (zt_6 _ (zpn (i := 9) rfl)), rfl, rfl, by decide⟩
set_option maxRecDepth 100000 in
theorem k_Md_414 : zLnV "ZigzagTabletsModel" 414 1 y_Md_codesTell := ⟨⟨(zt_7 _ (zpn (i := 236) rfl)), (zt_7 _ (zpn (i := 239) rfl)), (zt_1 _ (zpn (i := 15) rfl)), ⟨by decide, by decide, by decide +kernel⟩, by decide⟩, (zt_7 _ (zpn (i := 238) rfl)), (zt_0 _ (zpn (i := 102) rfl))⟩
set_option maxRecDepth 100000 in
theorem w_Md_418 : Cond.constantLong "ZigzagTabletsModel" 418 (Int64.ofInt 1000000) ∈ lw_tbl := (zt_8 _ (zpn (i := 23) rfl))
set_option maxRecDepth 100000 in
theorem w_Md_421 : Cond.constantLong "ZigzagTabletsModel" 421 (Int64.ofInt (-1000000)) ∈ lw_tbl := (zt_8 _ (zpn (i := 24) rfl))
set_option maxRecDepth 100000 in
theorem w_Md_423 : Cond.constant "ZigzagTabletsModel" 423 (Int32.ofInt (-1000000)) ∈ lw_tbl := (zt_8 _ (zpn (i := 29) rfl))
set_option maxRecDepth 100000 in
theorem w_Md_420 : Cond.constant "ZigzagTabletsModel" 420 (Int32.ofInt 1000000) ∈ lw_tbl := (zt_8 _ (zpn (i := 28) rfl))
set_option maxRecDepth 100000 in
theorem k_Md_424 : zLnV "ZigzagTabletsModel" 424 1 y_Md_sortOf := ⟨⟨(zt_7 _ (zpn (i := 224) rfl)), (zt_7 _ (zpn (i := 227) rfl)), (zt_1 _ (zpn (i := 15) rfl)), ⟨by decide, by decide, by decide +kernel⟩, by decide⟩, (zt_7 _ (zpn (i := 226) rfl)), (zt_0 _ (zpn (i := 99) rfl))⟩
set_option maxRecDepth 100000 in
theorem k_Md_427 : zLnV "ZigzagTabletsModel" 427 2 y_Md_summed := ⟨⟨(zt_7 _ (zpn (i := 232) rfl)), (zt_7 _ (zpn (i := 235) rfl)), (zt_1 _ (zpn (i := 15) rfl)), ⟨by decide, by decide, by decide +kernel⟩, by decide⟩, (zt_7 _ (zpn (i := 234) rfl)), (zt_0 _ (zpn (i := 101) rfl))⟩
set_option maxRecDepth 100000 in
theorem k_Md_430 : zLnV "ZigzagTabletsModel" 430 1 y_Md_valueOf := ⟨⟨(zt_8 _ (zpn (i := 8) rfl)), (zt_8 _ (zpn (i := 11) rfl)), (zt_1 _ (zpn (i := 15) rfl)), ⟨by decide, by decide, by decide +kernel⟩, by decide⟩, (zt_8 _ (zpn (i := 10) rfl)), (zt_0 _ (zpn (i := 105) rfl))⟩
set_option maxRecDepth 100000 in
theorem k_Md_439 : zLnS "ZigzagTabletsModel" 439 2 y_Md_around := ⟨⟨(zt_8 _ (zpn (i := 46) rfl)), (zt_8 _ (zpn (i := 48) rfl)), (zt_1 _ (zpn (i := 15) rfl)), ⟨by decide, by decide, by decide +kernel⟩, by decide⟩, (zt_8 _ (zpn (i := 47) rfl))⟩
set_option maxRecDepth 100000 in
theorem k_Md_436 : zLnV "ZigzagTabletsModel" 436 1 y_Md_arcs := ⟨⟨(zt_8 _ (zpn (i := 42) rfl)), (zt_8 _ (zpn (i := 45) rfl)), (zt_1 _ (zpn (i := 15) rfl)), ⟨by decide, by decide, by decide +kernel⟩, by decide⟩, (zt_8 _ (zpn (i := 44) rfl)), (zt_0 _ (zpn (i := 111) rfl))⟩
set_option maxRecDepth 100000 in
theorem k_Md_433 : zLnV "ZigzagTabletsModel" 433 1 y_Md_zigs := ⟨⟨(zt_8 _ (zpn (i := 38) rfl)), (zt_8 _ (zpn (i := 41) rfl)), (zt_1 _ (zpn (i := 15) rfl)), ⟨by decide, by decide, by decide +kernel⟩, by decide⟩, (zt_8 _ (zpn (i := 40) rfl)), (zt_0 _ (zpn (i := 110) rfl))⟩
set_option maxRecDepth 100000 in
theorem k_Md_443 : zLnV "ZigzagTabletsModel" 443 1 y_Md_goesOn := ⟨⟨(zt_8 _ (zpn (i := 34) rfl)), (zt_8 _ (zpn (i := 37) rfl)), (zt_1 _ (zpn (i := 15) rfl)), ⟨by decide, by decide, by decide +kernel⟩, by decide⟩, (zt_8 _ (zpn (i := 36) rfl)), (zt_0 _ (zpn (i := 109) rfl))⟩
set_option maxRecDepth 100000 in
theorem k_Md_446 : zLnV "ZigzagTabletsModel" 446 0 y_Md_lineGoes := ⟨⟨(zt_8 _ (zpn (i := 30) rfl)), (zt_8 _ (zpn (i := 33) rfl)), (zt_1 _ (zpn (i := 15) rfl)), ⟨by decide, by decide, by decide +kernel⟩, by decide⟩, (zt_8 _ (zpn (i := 32) rfl)), (zt_0 _ (zpn (i := 108) rfl))⟩
set_option maxRecDepth 100000 in
theorem f_Md_133 : zFld "ZigzagTabletsModel" 133 11 55 true (.array .int) := ⟨"ZigzagTabletsModel", zT11, 101, zY11, rfl, zi11, zy11, zn11, by decide, rfl, rfl, rfl, (zt_6 _ (zpn (i := 10) rfl)), rfl, rfl, by decide⟩
set_option maxRecDepth 100000 in
theorem f_Md_136 : zFld "ZigzagTabletsModel" 136 11 56 true (.array .int) := ⟨"ZigzagTabletsModel", zT11, 101, zY11, rfl, zi11, zy11, zn11, by decide, rfl, rfl, rfl, (zt_6 _ (zpn (i := 11) rfl)), rfl, rfl, by decide⟩
set_option maxRecDepth 100000 in
theorem k_Md_449 : zLnV "ZigzagTabletsModel" 449 2 y_Md_trueOf := ⟨⟨(zt_8 _ (zpn (i := 12) rfl)), (zt_8 _ (zpn (i := 15) rfl)), (zt_1 _ (zpn (i := 15) rfl)), ⟨by decide, by decide, by decide +kernel⟩, by decide⟩, (zt_8 _ (zpn (i := 14) rfl)), (zt_0 _ (zpn (i := 106) rfl))⟩
set_option maxRecDepth 100000 in
theorem k_Md_452 : zLnV "ZigzagTabletsModel" 452 0 y_Md_wrongMany := ⟨⟨(zt_8 _ (zpn (i := 61) rfl)), (zt_8 _ (zpn (i := 64) rfl)), (zt_1 _ (zpn (i := 15) rfl)), ⟨by decide, by decide, by decide +kernel⟩, by decide⟩, (zt_8 _ (zpn (i := 63) rfl)), (zt_0 _ (zpn (i := 113) rfl))⟩
set_option maxRecDepth 100000 in
theorem f_Md_455 : zFld "ZigzagTabletsModel" 455 11 57 false .boolean := ⟨"ZigzagTabletsModel", zT11, 101, zY11, rfl, zi11, zy11, zn11, by decide, rfl, rfl, rfl, (zt_6 _ (zpn (i := 12) rfl)), rfl, rfl, by decide⟩
set_option maxRecDepth 100000 in
theorem f_Md_139 : zFld "ZigzagTabletsModel" 139 11 58 true (.array .int) := ⟨"ZigzagTabletsModel", zT11, 101, zY11, rfl, zi11, zy11, zn11, by decide, rfl, rfl, rfl, (zt_6 _ (zpn (i := 13) rfl)), rfl, rfl, by decide⟩
set_option maxRecDepth 100000 in
theorem k_Md_458 : zLnV "ZigzagTabletsModel" 458 0 y_Md_triesAnew := ⟨⟨(zt_8 _ (zpn (i := 116) rfl)), (zt_8 _ (zpn (i := 119) rfl)), (zt_1 _ (zpn (i := 15) rfl)), ⟨by decide, by decide, by decide +kernel⟩, by decide⟩, (zt_8 _ (zpn (i := 118) rfl)), (zt_0 _ (zpn (i := 121) rfl))⟩
set_option maxRecDepth 100000 in
theorem w_Md_461 : Cond.constantLong "ZigzagTabletsModel" 461 (Int64.ofInt 999) ∈ lw_tbl := (zt_8 _ (zpn (i := 103) rfl))
set_option maxRecDepth 100000 in
theorem k_Md_463 : zLnV "ZigzagTabletsModel" 463 0 y_Md_isMarked := ⟨⟨(zt_8 _ (zpn (i := 57) rfl)), (zt_8 _ (zpn (i := 60) rfl)), (zt_1 _ (zpn (i := 15) rfl)), ⟨by decide, by decide, by decide +kernel⟩, by decide⟩, (zt_8 _ (zpn (i := 59) rfl)), (zt_0 _ (zpn (i := 112) rfl))⟩
set_option maxRecDepth 100000 in
theorem k_Md_466 : zLnV "ZigzagTabletsModel" 466 1 y_Md_isColumn := ⟨⟨(zt_8 _ (zpn (i := 69) rfl)), (zt_8 _ (zpn (i := 72) rfl)), (zt_1 _ (zpn (i := 15) rfl)), ⟨by decide, by decide, by decide +kernel⟩, by decide⟩, (zt_8 _ (zpn (i := 71) rfl)), (zt_0 _ (zpn (i := 114) rfl))⟩
set_option maxRecDepth 100000 in
theorem w_Md_470 : Cond.constantLong "ZigzagTabletsModel" 470 (Int64.ofInt 5) ∈ lw_tbl := (zt_8 _ (zpn (i := 73) rfl))
set_option maxRecDepth 100000 in
theorem k_Md_472 : zLnV "ZigzagTabletsModel" 472 1 y_Md_leastOf := ⟨⟨(zt_8 _ (zpn (i := 78) rfl)), (zt_8 _ (zpn (i := 81) rfl)), (zt_1 _ (zpn (i := 15) rfl)), ⟨by decide, by decide, by decide +kernel⟩, by decide⟩, (zt_8 _ (zpn (i := 80) rfl)), (zt_0 _ (zpn (i := 115) rfl))⟩
set_option maxRecDepth 100000 in
theorem k_Md_475 : zLnV "ZigzagTabletsModel" 475 1 y_Md_mostOf := ⟨⟨(zt_8 _ (zpn (i := 82) rfl)), (zt_8 _ (zpn (i := 85) rfl)), (zt_1 _ (zpn (i := 15) rfl)), ⟨by decide, by decide, by decide +kernel⟩, by decide⟩, (zt_8 _ (zpn (i := 84) rfl)), (zt_0 _ (zpn (i := 116) rfl))⟩
set_option maxRecDepth 100000 in
theorem w_Md_478 : Cond.constantLong "ZigzagTabletsModel" 478 (Int64.ofInt (-1000000000000000)) ∈ lw_tbl := (zt_8 _ (zpn (i := 90) rfl))
set_option maxRecDepth 100000 in
theorem f_Md_480 : zFld "ZigzagTabletsModel" 480 11 61 false .int := ⟨"ZigzagTabletsModel", zT11, 101, zY11, rfl, zi11, zy11, zn11, by decide, rfl, rfl, rfl, (zt_6 _ (zpn (i := 16) rfl)), rfl, rfl, by decide⟩
set_option maxRecDepth 100000 in
theorem k_Md_483 : zLnV "ZigzagTabletsModel" 483 0 y_Md_putsAside := ⟨⟨(zt_8 _ (zpn (i := 108) rfl)), (zt_8 _ (zpn (i := 111) rfl)), (zt_1 _ (zpn (i := 15) rfl)), ⟨by decide, by decide, by decide +kernel⟩, by decide⟩, (zt_8 _ (zpn (i := 110) rfl)), (zt_0 _ (zpn (i := 119) rfl))⟩
set_option maxRecDepth 100000 in
theorem f_Md_145 : zFld "ZigzagTabletsModel" 145 11 60 true (.array .boolean) := ⟨"ZigzagTabletsModel", zT11, 101, zY11, rfl, zi11, zy11, zn11, by decide, rfl, rfl, rfl, (zt_6 _ (zpn (i := 15) rfl)), rfl, rfl, by decide⟩
set_option maxRecDepth 100000 in
theorem f_Md_142 : zFld "ZigzagTabletsModel" 142 11 59 true (.array .int) := ⟨"ZigzagTabletsModel", zT11, 101, zY11, rfl, zi11, zy11, zn11, by decide, rfl, rfl, rfl, (zt_6 _ (zpn (i := 14) rfl)), rfl, rfl, by decide⟩
set_option maxRecDepth 100000 in
theorem k_Md_486 : zLnV "ZigzagTabletsModel" 486 0 y_Md_takesBack := ⟨⟨(zt_8 _ (zpn (i := 112) rfl)), (zt_8 _ (zpn (i := 115) rfl)), (zt_1 _ (zpn (i := 15) rfl)), ⟨by decide, by decide, by decide +kernel⟩, by decide⟩, (zt_8 _ (zpn (i := 114) rfl)), (zt_0 _ (zpn (i := 120) rfl))⟩
set_option maxRecDepth 100000 in
theorem k_Md_489 : zLnV "ZigzagTabletsModel" 489 3 y_Md_isAhead := ⟨⟨(zt_8 _ (zpn (i := 99) rfl)), (zt_8 _ (zpn (i := 102) rfl)), (zt_1 _ (zpn (i := 15) rfl)), ⟨by decide, by decide, by decide +kernel⟩, by decide⟩, (zt_8 _ (zpn (i := 101) rfl)), (zt_0 _ (zpn (i := 117) rfl))⟩
set_option maxRecDepth 100000 in
theorem k_Md_493 : zLnV "ZigzagTabletsModel" 493 0 y_Md_laysAhead := ⟨⟨(zt_8 _ (zpn (i := 104) rfl)), (zt_8 _ (zpn (i := 107) rfl)), (zt_1 _ (zpn (i := 15) rfl)), ⟨by decide, by decide, by decide +kernel⟩, by decide⟩, (zt_8 _ (zpn (i := 106) rfl)), (zt_0 _ (zpn (i := 118) rfl))⟩
set_option maxRecDepth 100000 in
theorem w_Md_496 : Cond.constantLong "ZigzagTabletsModel" 496 (Int64.ofInt 3) ∈ lw_tbl := (zt_8 _ (zpn (i := 124) rfl))
set_option maxRecDepth 100000 in
theorem w_Md_498 : Cond.constantLong "ZigzagTabletsModel" 498 (Int64.ofInt 2) ∈ lw_tbl := (zt_8 _ (zpn (i := 141) rfl))
set_option maxRecDepth 100000 in
theorem k_Md_500 : zLnS "ZigzagTabletsModel" 500 1 y_Md_bits := ⟨⟨(zt_8 _ (zpn (i := 146) rfl)), (zt_8 _ (zpn (i := 148) rfl)), (zt_1 _ (zpn (i := 15) rfl)), ⟨by decide, by decide, by decide +kernel⟩, by decide⟩, (zt_8 _ (zpn (i := 147) rfl))⟩
set_option maxRecDepth 100000 in
theorem k_Md_503 : zLnV "ZigzagTabletsModel" 503 1 y_Md_setsRight := ⟨⟨(zt_8 _ (zpn (i := 149) rfl)), (zt_8 _ (zpn (i := 152) rfl)), (zt_1 _ (zpn (i := 15) rfl)), ⟨by decide, by decide, by decide +kernel⟩, by decide⟩, (zt_8 _ (zpn (i := 151) rfl)), (zt_0 _ (zpn (i := 122) rfl))⟩
set_option maxRecDepth 100000 in
theorem k_Md_506 : zLnV "ZigzagTabletsModel" 506 1 y_Md_areTrueFor := ⟨⟨(zt_8 _ (zpn (i := 153) rfl)), (zt_8 _ (zpn (i := 156) rfl)), (zt_1 _ (zpn (i := 15) rfl)), ⟨by decide, by decide, by decide +kernel⟩, by decide⟩, (zt_8 _ (zpn (i := 155) rfl)), (zt_0 _ (zpn (i := 123) rfl))⟩
set_option maxRecDepth 100000 in
theorem k_Md_509 : zLnV "ZigzagTabletsModel" 509 2 y_Md_isSlipped := ⟨⟨(zt_8 _ (zpn (i := 161) rfl)), (zt_8 _ (zpn (i := 164) rfl)), (zt_1 _ (zpn (i := 15) rfl)), ⟨by decide, by decide, by decide +kernel⟩, by decide⟩, (zt_8 _ (zpn (i := 163) rfl)), (zt_0 _ (zpn (i := 124) rfl))⟩
set_option maxRecDepth 100000 in
theorem k_Md_513 : zLnV "ZigzagTabletsModel" 513 2 y_Md_canTell := ⟨⟨(zt_8 _ (zpn (i := 169) rfl)), (zt_8 _ (zpn (i := 172) rfl)), (zt_1 _ (zpn (i := 15) rfl)), ⟨by decide, by decide, by decide +kernel⟩, by decide⟩, (zt_8 _ (zpn (i := 171) rfl)), (zt_0 _ (zpn (i := 125) rfl))⟩
set_option maxRecDepth 100000 in
theorem f_Md_149 : zFld "ZigzagTabletsModel" 149 11 63 true (.array .int) := ⟨"ZigzagTabletsModel", zT11, 101, zY11, rfl, zi11, zy11, zn11, by decide, rfl, rfl, rfl, (zt_6 _ (zpn (i := 18) rfl)), rfl, rfl, by decide⟩
set_option maxRecDepth 100000 in
theorem k_Md_516 : zLnV "ZigzagTabletsModel" 516 1 y_Md_doesFit := ⟨⟨(zt_8 _ (zpn (i := 177) rfl)), (zt_8 _ (zpn (i := 180) rfl)), (zt_1 _ (zpn (i := 15) rfl)), ⟨by decide, by decide, by decide +kernel⟩, by decide⟩, (zt_8 _ (zpn (i := 179) rfl)), (zt_0 _ (zpn (i := 126) rfl))⟩
set_option maxRecDepth 100000 in
theorem k_Md_519 : zLnV "ZigzagTabletsModel" 519 0 y_Md_fitsFirst := ⟨⟨(zt_8 _ (zpn (i := 185) rfl)), (zt_8 _ (zpn (i := 188) rfl)), (zt_1 _ (zpn (i := 15) rfl)), ⟨by decide, by decide, by decide +kernel⟩, by decide⟩, (zt_8 _ (zpn (i := 187) rfl)), (zt_0 _ (zpn (i := 127) rfl))⟩
set_option maxRecDepth 100000 in
theorem f_Md_152 : zFld "ZigzagTabletsModel" 152 11 64 true (.array .int) := ⟨"ZigzagTabletsModel", zT11, 101, zY11, rfl, zi11, zy11, zn11, by decide, rfl, rfl, rfl, (zt_6 _ (zpn (i := 19) rfl)), rfl, rfl, by decide⟩
set_option maxRecDepth 100000 in
theorem k_Md_522 : zLnV "ZigzagTabletsModel" 522 2 y_Md_mostAlike := ⟨⟨(zt_8 _ (zpn (i := 193) rfl)), (zt_8 _ (zpn (i := 196) rfl)), (zt_1 _ (zpn (i := 15) rfl)), ⟨by decide, by decide, by decide +kernel⟩, by decide⟩, (zt_8 _ (zpn (i := 195) rfl)), (zt_0 _ (zpn (i := 128) rfl))⟩
set_option maxRecDepth 100000 in
theorem f_Md_525 : zFld "ZigzagTabletsModel" 525 11 67 false .int := ⟨"ZigzagTabletsModel", zT11, 101, zY11, rfl, zi11, zy11, zn11, by decide, rfl, rfl, rfl, (zt_6 _ (zpn (i := 22) rfl)), rfl, rfl, by decide⟩
set_option maxRecDepth 100000 in
theorem f_Md_155 : zFld "ZigzagTabletsModel" 155 11 65 true (.array .int) := ⟨"ZigzagTabletsModel", zT11, 101, zY11, rfl, zi11, zy11, zn11, by decide, rfl, rfl, rfl, (zt_6 _ (zpn (i := 20) rfl)), rfl, rfl, by decide⟩
set_option maxRecDepth 100000 in
theorem k_Md_528 : zLnV "ZigzagTabletsModel" 528 0 y_Md_keeps := ⟨⟨(zt_8 _ (zpn (i := 205) rfl)), (zt_8 _ (zpn (i := 208) rfl)), (zt_1 _ (zpn (i := 15) rfl)), ⟨by decide, by decide, by decide +kernel⟩, by decide⟩, (zt_8 _ (zpn (i := 207) rfl)), (zt_0 _ (zpn (i := 129) rfl))⟩
set_option maxRecDepth 100000 in
theorem k_Md_531 : zLnV "ZigzagTabletsModel" 531 0 y_Md_isKept := ⟨⟨(zt_8 _ (zpn (i := 209) rfl)), (zt_8 _ (zpn (i := 212) rfl)), (zt_1 _ (zpn (i := 15) rfl)), ⟨by decide, by decide, by decide +kernel⟩, by decide⟩, (zt_8 _ (zpn (i := 211) rfl)), (zt_0 _ (zpn (i := 130) rfl))⟩
set_option maxRecDepth 100000 in
theorem k_Md_534 : zLnV "ZigzagTabletsModel" 534 1 y_Md_isRefused := ⟨⟨(zt_8 _ (zpn (i := 217) rfl)), (zt_8 _ (zpn (i := 220) rfl)), (zt_1 _ (zpn (i := 15) rfl)), ⟨by decide, by decide, by decide +kernel⟩, by decide⟩, (zt_8 _ (zpn (i := 219) rfl)), (zt_0 _ (zpn (i := 131) rfl))⟩
set_option maxRecDepth 100000 in
theorem f_Md_158 : zFld "ZigzagTabletsModel" 158 11 68 false .long := ⟨"ZigzagTabletsModel", zT11, 101, zY11, rfl, zi11, zy11, zn11, by decide, rfl, rfl, rfl, (zt_6 _ (zpn (i := 23) rfl)), rfl, rfl, by decide⟩
set_option maxRecDepth 100000 in
theorem w_Md_537 : Cond.constantLong "ZigzagTabletsModel" 537 (Int64.ofInt 1103515245) ∈ lw_tbl := (zt_8 _ (zpn (i := 237) rfl))
set_option maxRecDepth 100000 in
theorem w_Md_539 : Cond.constantLong "ZigzagTabletsModel" 539 (Int64.ofInt 12345) ∈ lw_tbl := (zt_8 _ (zpn (i := 238) rfl))
set_option maxRecDepth 100000 in
theorem w_Md_541 : Cond.constantLong "ZigzagTabletsModel" 541 (Int64.ofInt 2147483648) ∈ lw_tbl := (zt_8 _ (zpn (i := 239) rfl))
set_option maxRecDepth 100000 in
theorem w_Md_543 : Cond.constantLong "ZigzagTabletsModel" 543 (Int64.ofInt 64) ∈ lw_tbl := (zt_9 _ (zpn (i := 0) rfl))
set_option maxRecDepth 100000 in
theorem k_Md_545 : zLnV "ZigzagTabletsModel" 545 1 y_Md_drawOf := ⟨⟨(zt_8 _ (zpn (i := 233) rfl)), (zt_8 _ (zpn (i := 236) rfl)), (zt_1 _ (zpn (i := 15) rfl)), ⟨by decide, by decide, by decide +kernel⟩, by decide⟩, (zt_8 _ (zpn (i := 235) rfl)), (zt_0 _ (zpn (i := 132) rfl))⟩
set_option maxRecDepth 100000 in
theorem f_Md_225 : zFld "ZigzagTabletsModel" 225 11 91 true (.array .int) := ⟨"ZigzagTabletsModel", zT11, 101, zY11, rfl, zi11, zy11, zn11, by decide, rfl, rfl, rfl, (zt_6 _ (zpn (i := 46) rfl)), rfl, rfl, by decide⟩
set_option maxRecDepth 100000 in
theorem k_Md_548 : zLnV "ZigzagTabletsModel" 548 1 y_Md_qCode := ⟨⟨(zt_7 _ (zpn (i := 125) rfl)), (zt_7 _ (zpn (i := 128) rfl)), (zt_1 _ (zpn (i := 15) rfl)), ⟨by decide, by decide, by decide +kernel⟩, by decide⟩, (zt_7 _ (zpn (i := 127) rfl)), (zt_0 _ (zpn (i := 75) rfl))⟩
set_option maxRecDepth 100000 in
theorem k_Md_551 : zLnS "ZigzagTabletsModel" 551 1 y_Md_qIsBracket := ⟨⟨(zt_7 _ (zpn (i := 181) rfl)), (zt_7 _ (zpn (i := 183) rfl)), (zt_1 _ (zpn (i := 15) rfl)), ⟨by decide, by decide, by decide +kernel⟩, by decide⟩, (zt_7 _ (zpn (i := 182) rfl))⟩
set_option maxRecDepth 100000 in
theorem k_Md_554 : zLnV "ZigzagTabletsModel" 554 0 y_Md_qDrops := ⟨⟨(zt_7 _ (zpn (i := 169) rfl)), (zt_7 _ (zpn (i := 172) rfl)), (zt_1 _ (zpn (i := 15) rfl)), ⟨by decide, by decide, by decide +kernel⟩, by decide⟩, (zt_7 _ (zpn (i := 171) rfl)), (zt_0 _ (zpn (i := 86) rfl))⟩
set_option maxRecDepth 100000 in
theorem f_Md_198 : zFld "ZigzagTabletsModel" 198 11 81 true (.array .char) := ⟨"ZigzagTabletsModel", zT11, 101, zY11, rfl, zi11, zy11, zn11, by decide, rfl, rfl, rfl, (zt_6 _ (zpn (i := 36) rfl)), rfl, rfl, by decide⟩
set_option maxRecDepth 100000 in
theorem f_Md_201 : zFld "ZigzagTabletsModel" 201 11 82 true (.array .char) := ⟨"ZigzagTabletsModel", zT11, 101, zY11, rfl, zi11, zy11, zn11, by decide, rfl, rfl, rfl, (zt_6 _ (zpn (i := 37) rfl)), rfl, rfl, by decide⟩
set_option maxRecDepth 100000 in
theorem f_Md_204 : zFld "ZigzagTabletsModel" 204 11 83 true (.array .char) := ⟨"ZigzagTabletsModel", zT11, 101, zY11, rfl, zi11, zy11, zn11, by decide, rfl, rfl, rfl, (zt_6 _ (zpn (i := 38) rfl)), rfl, rfl, by decide⟩
set_option maxRecDepth 100000 in
theorem f_Md_207 : zFld "ZigzagTabletsModel" 207 11 84 true (.array .char) := ⟨"ZigzagTabletsModel", zT11, 101, zY11, rfl, zi11, zy11, zn11, by decide, rfl, rfl, rfl, (zt_6 _ (zpn (i := 39) rfl)), rfl, rfl, by decide⟩
set_option maxRecDepth 100000 in
theorem f_Md_210 : zFld "ZigzagTabletsModel" 210 11 85 true (.array .char) := ⟨"ZigzagTabletsModel", zT11, 101, zY11, rfl, zi11, zy11, zn11, by decide, rfl, rfl, rfl, (zt_6 _ (zpn (i := 40) rfl)), rfl, rfl, by decide⟩
set_option maxRecDepth 100000 in
theorem f_Md_213 : zFld "ZigzagTabletsModel" 213 11 86 true (.array .char) := ⟨"ZigzagTabletsModel", zT11, 101, zY11, rfl, zi11, zy11, zn11, by decide, rfl, rfl, rfl, (zt_6 _ (zpn (i := 41) rfl)), rfl, rfl, by decide⟩
set_option maxRecDepth 100000 in
theorem f_Md_216 : zFld "ZigzagTabletsModel" 216 11 87 true (.array .char) := ⟨"ZigzagTabletsModel", zT11, 101, zY11, rfl, zi11, zy11, zn11, by decide, rfl, rfl, rfl, (zt_6 _ (zpn (i := 42) rfl)), rfl, rfl, by decide⟩
set_option maxRecDepth 100000 in
theorem f_Md_219 : zFld "ZigzagTabletsModel" 219 11 88 true (.array .char) := ⟨"ZigzagTabletsModel", zT11, 101, zY11, rfl, zi11, zy11, zn11, by decide, rfl, rfl, rfl, (zt_6 _ (zpn (i := 43) rfl)), rfl, rfl, by decide⟩
set_option maxRecDepth 100000 in
theorem k_Md_557 : zLnV "ZigzagTabletsModel" 557 0 y_Md_qWordHere := ⟨⟨(zt_7 _ (zpn (i := 141) rfl)), (zt_7 _ (zpn (i := 144) rfl)), (zt_1 _ (zpn (i := 15) rfl)), ⟨by decide, by decide, by decide +kernel⟩, by decide⟩, (zt_7 _ (zpn (i := 143) rfl)), (zt_0 _ (zpn (i := 79) rfl))⟩
set_option maxRecDepth 100000 in
theorem k_Md_560 : zLnV "ZigzagTabletsModel" 560 1 y_Md_isAllowed := ⟨⟨(zt_7 _ (zpn (i := 145) rfl)), (zt_7 _ (zpn (i := 148) rfl)), (zt_1 _ (zpn (i := 15) rfl)), ⟨by decide, by decide, by decide +kernel⟩, by decide⟩, (zt_7 _ (zpn (i := 147) rfl)), (zt_0 _ (zpn (i := 80) rfl))⟩
set_option maxRecDepth 100000 in
theorem k_Md_563 : zLnV "ZigzagTabletsModel" 563 2 y_Md_qWordOf := ⟨⟨(zt_7 _ (zpn (i := 137) rfl)), (zt_7 _ (zpn (i := 140) rfl)), (zt_1 _ (zpn (i := 15) rfl)), ⟨by decide, by decide, by decide +kernel⟩, by decide⟩, (zt_7 _ (zpn (i := 139) rfl)), (zt_0 _ (zpn (i := 78) rfl))⟩
set_option maxRecDepth 100000 in
theorem f_Md_192 : zFld "ZigzagTabletsModel" 192 11 79 true (.array .char) := ⟨"ZigzagTabletsModel", zT11, 101, zY11, rfl, zi11, zy11, zn11, by decide, rfl, rfl, rfl, (zt_6 _ (zpn (i := 34) rfl)), rfl, rfl, by decide⟩
set_option maxRecDepth 100000 in
theorem f_Md_195 : zFld "ZigzagTabletsModel" 195 11 80 true (.array .char) := ⟨"ZigzagTabletsModel", zT11, 101, zY11, rfl, zi11, zy11, zn11, by decide, rfl, rfl, rfl, (zt_6 _ (zpn (i := 35) rfl)), rfl, rfl, by decide⟩
set_option maxRecDepth 100000 in
theorem k_Md_566 : zLnV "ZigzagTabletsModel" 566 2 y_Md_qOpens := ⟨⟨(zt_7 _ (zpn (i := 117) rfl)), (zt_7 _ (zpn (i := 120) rfl)), (zt_1 _ (zpn (i := 15) rfl)), ⟨by decide, by decide, by decide +kernel⟩, by decide⟩, (zt_7 _ (zpn (i := 119) rfl)), (zt_0 _ (zpn (i := 73) rfl))⟩
set_option maxRecDepth 100000 in
theorem k_Md_569 : zLnV "ZigzagTabletsModel" 569 1 y_Md_qAsksWord := ⟨⟨(zt_7 _ (zpn (i := 157) rfl)), (zt_7 _ (zpn (i := 160) rfl)), (zt_1 _ (zpn (i := 15) rfl)), ⟨by decide, by decide, by decide +kernel⟩, by decide⟩, (zt_7 _ (zpn (i := 159) rfl)), (zt_0 _ (zpn (i := 83) rfl))⟩
set_option maxRecDepth 100000 in
theorem k_Md_572 : zLnV "ZigzagTabletsModel" 572 0 y_Md_columnHere := ⟨⟨(zt_7 _ (zpn (i := 161) rfl)), (zt_7 _ (zpn (i := 164) rfl)), (zt_1 _ (zpn (i := 15) rfl)), ⟨by decide, by decide, by decide +kernel⟩, by decide⟩, (zt_7 _ (zpn (i := 163) rfl)), (zt_0 _ (zpn (i := 84) rfl))⟩
set_option maxRecDepth 100000 in
theorem k_Md_575 : zLnV "ZigzagTabletsModel" 575 0 y_Md_qEndsPart := ⟨⟨(zt_7 _ (zpn (i := 165) rfl)), (zt_7 _ (zpn (i := 168) rfl)), (zt_1 _ (zpn (i := 15) rfl)), ⟨by decide, by decide, by decide +kernel⟩, by decide⟩, (zt_7 _ (zpn (i := 167) rfl)), (zt_0 _ (zpn (i := 85) rfl))⟩
set_option maxRecDepth 100000 in
theorem k_Md_578 : zLnV "ZigzagTabletsModel" 578 0 y_Md_qBracket := ⟨⟨(zt_7 _ (zpn (i := 177) rfl)), (zt_7 _ (zpn (i := 180) rfl)), (zt_1 _ (zpn (i := 15) rfl)), ⟨by decide, by decide, by decide +kernel⟩, by decide⟩, (zt_7 _ (zpn (i := 179) rfl)), (zt_0 _ (zpn (i := 88) rfl))⟩
set_option maxRecDepth 100000 in
theorem k_Md_581 : zLnV "ZigzagTabletsModel" 581 0 y_Md_qDropsToBracket := ⟨⟨(zt_7 _ (zpn (i := 184) rfl)), (zt_7 _ (zpn (i := 187) rfl)), (zt_1 _ (zpn (i := 15) rfl)), ⟨by decide, by decide, by decide +kernel⟩, by decide⟩, (zt_7 _ (zpn (i := 186) rfl)), (zt_0 _ (zpn (i := 89) rfl))⟩
set_option maxRecDepth 100000 in
theorem k_Md_584 : zLnV "ZigzagTabletsModel" 584 1 y_Md_qIsOn := ⟨⟨(zt_7 _ (zpn (i := 188) rfl)), (zt_7 _ (zpn (i := 191) rfl)), (zt_1 _ (zpn (i := 15) rfl)), ⟨by decide, by decide, by decide +kernel⟩, by decide⟩, (zt_7 _ (zpn (i := 190) rfl)), (zt_0 _ (zpn (i := 90) rfl))⟩
set_option maxRecDepth 100000 in
theorem k_Md_587 : zLnV "ZigzagTabletsModel" 587 0 y_Md_qPartTold := ⟨⟨(zt_7 _ (zpn (i := 133) rfl)), (zt_7 _ (zpn (i := 136) rfl)), (zt_1 _ (zpn (i := 15) rfl)), ⟨by decide, by decide, by decide +kernel⟩, by decide⟩, (zt_7 _ (zpn (i := 135) rfl)), (zt_0 _ (zpn (i := 77) rfl))⟩
set_option maxRecDepth 100000 in
theorem k_Md_590 : zLnV "ZigzagTabletsModel" 590 0 y_Md_qGoesOn := ⟨⟨(zt_7 _ (zpn (i := 173) rfl)), (zt_7 _ (zpn (i := 176) rfl)), (zt_1 _ (zpn (i := 15) rfl)), ⟨by decide, by decide, by decide +kernel⟩, by decide⟩, (zt_7 _ (zpn (i := 175) rfl)), (zt_0 _ (zpn (i := 87) rfl))⟩
set_option maxRecDepth 100000 in
theorem f_Md_189 : zFld "ZigzagTabletsModel" 189 11 78 true (.array .char) := ⟨"ZigzagTabletsModel", zT11, 101, zY11, rfl, zi11, zy11, zn11, by decide, rfl, rfl, rfl, (zt_6 _ (zpn (i := 33) rfl)), rfl, rfl, by decide⟩
set_option maxRecDepth 100000 in
theorem f_Md_180 : zFld "ZigzagTabletsModel" 180 11 75 true (.array .char) := ⟨"ZigzagTabletsModel", zT11, 101, zY11, rfl, zi11, zy11, zn11, by decide, rfl, rfl, rfl, (zt_6 _ (zpn (i := 30) rfl)), rfl, rfl, by decide⟩
set_option maxRecDepth 100000 in
theorem k_Md_593 : zLnV "ZigzagTabletsModel" 593 0 y_Md_qFact := ⟨⟨(zt_7 _ (zpn (i := 121) rfl)), (zt_7 _ (zpn (i := 124) rfl)), (zt_1 _ (zpn (i := 15) rfl)), ⟨by decide, by decide, by decide +kernel⟩, by decide⟩, (zt_7 _ (zpn (i := 123) rfl)), (zt_0 _ (zpn (i := 74) rfl))⟩
set_option maxRecDepth 100000 in
theorem k_Md_596 : zLnV "ZigzagTabletsModel" 596 0 y_Md_qDropsNots := ⟨⟨(zt_7 _ (zpn (i := 192) rfl)), (zt_7 _ (zpn (i := 195) rfl)), (zt_1 _ (zpn (i := 15) rfl)), ⟨by decide, by decide, by decide +kernel⟩, by decide⟩, (zt_7 _ (zpn (i := 194) rfl)), (zt_0 _ (zpn (i := 91) rfl))⟩
set_option maxRecDepth 100000 in
theorem k_Md_599 : zLnV "ZigzagTabletsModel" 599 0 y_Md_qGoesOnTest := ⟨⟨(zt_7 _ (zpn (i := 196) rfl)), (zt_7 _ (zpn (i := 199) rfl)), (zt_1 _ (zpn (i := 15) rfl)), ⟨by decide, by decide, by decide +kernel⟩, by decide⟩, (zt_7 _ (zpn (i := 198) rfl)), (zt_0 _ (zpn (i := 92) rfl))⟩
set_option maxRecDepth 100000 in
theorem k_Md_602 : zLnV "ZigzagTabletsModel" 602 0 y_Md_qHasSquare := ⟨⟨(zt_7 _ (zpn (i := 200) rfl)), (zt_7 _ (zpn (i := 203) rfl)), (zt_1 _ (zpn (i := 15) rfl)), ⟨by decide, by decide, by decide +kernel⟩, by decide⟩, (zt_7 _ (zpn (i := 202) rfl)), (zt_0 _ (zpn (i := 93) rfl))⟩
set_option maxRecDepth 100000 in
theorem f_Md_183 : zFld "ZigzagTabletsModel" 183 11 76 true (.array .char) := ⟨"ZigzagTabletsModel", zT11, 101, zY11, rfl, zi11, zy11, zn11, by decide, rfl, rfl, rfl, (zt_6 _ (zpn (i := 31) rfl)), rfl, rfl, by decide⟩
set_option maxRecDepth 100000 in
theorem f_Md_186 : zFld "ZigzagTabletsModel" 186 11 77 true (.array .char) := ⟨"ZigzagTabletsModel", zT11, 101, zY11, rfl, zi11, zy11, zn11, by decide, rfl, rfl, rfl, (zt_6 _ (zpn (i := 32) rfl)), rfl, rfl, by decide⟩
set_option maxRecDepth 100000 in
theorem k_Md_605 : zLnS "ZigzagTabletsModel" 605 1 y_Md_qClip := ⟨⟨(zt_8 _ (zpn (i := 20) rfl)), (zt_8 _ (zpn (i := 22) rfl)), (zt_1 _ (zpn (i := 15) rfl)), ⟨by decide, by decide, by decide +kernel⟩, by decide⟩, (zt_8 _ (zpn (i := 21) rfl))⟩
set_option maxRecDepth 100000 in
theorem k_Md_609 : zLnS "ZigzagTabletsModel" 609 2 y_Md_qFloor := ⟨⟨(zt_8 _ (zpn (i := 25) rfl)), (zt_8 _ (zpn (i := 27) rfl)), (zt_1 _ (zpn (i := 15) rfl)), ⟨by decide, by decide, by decide +kernel⟩, by decide⟩, (zt_8 _ (zpn (i := 26) rfl))⟩
set_option maxRecDepth 100000 in
theorem f_Md_613 : zFld "ZigzagTabletsModel" 613 11 53 false .int := ⟨"ZigzagTabletsModel", zT11, 101, zY11, rfl, zi11, zy11, zn11, by decide, rfl, rfl, rfl, (zt_6 _ (zpn (i := 8) rfl)), rfl, rfl, by decide⟩
set_option maxRecDepth 100000 in
theorem k_Md_616 : zLnV "ZigzagTabletsModel" 616 3 y_Md_qOf := ⟨⟨(zt_9 _ (zpn (i := 14) rfl)), (zt_9 _ (zpn (i := 17) rfl)), (zt_1 _ (zpn (i := 15) rfl)), ⟨by decide, by decide, by decide +kernel⟩, by decide⟩, (zt_9 _ (zpn (i := 16) rfl)), (zt_0 _ (zpn (i := 135) rfl))⟩
set_option maxRecDepth 100000 in
theorem f_Md_162 : zFld "ZigzagTabletsModel" 162 11 69 true (.array .char) := ⟨"ZigzagTabletsModel", zT11, 101, zY11, rfl, zi11, zy11, zn11, by decide, rfl, rfl, rfl, (zt_6 _ (zpn (i := 24) rfl)), rfl, rfl, by decide⟩
set_option maxRecDepth 100000 in
theorem f_Md_165 : zFld "ZigzagTabletsModel" 165 11 70 true (.array .char) := ⟨"ZigzagTabletsModel", zT11, 101, zY11, rfl, zi11, zy11, zn11, by decide, rfl, rfl, rfl, (zt_6 _ (zpn (i := 25) rfl)), rfl, rfl, by decide⟩
set_option maxRecDepth 100000 in
theorem f_Md_168 : zFld "ZigzagTabletsModel" 168 11 71 true (.array .char) := ⟨"ZigzagTabletsModel", zT11, 101, zY11, rfl, zi11, zy11, zn11, by decide, rfl, rfl, rfl, (zt_6 _ (zpn (i := 26) rfl)), rfl, rfl, by decide⟩
set_option maxRecDepth 100000 in
theorem f_Md_171 : zFld "ZigzagTabletsModel" 171 11 72 true (.array .char) := ⟨"ZigzagTabletsModel", zT11, 101, zY11, rfl, zi11, zy11, zn11, by decide, rfl, rfl, rfl, (zt_6 _ (zpn (i := 27) rfl)), rfl, rfl, by decide⟩
set_option maxRecDepth 100000 in
theorem f_Md_174 : zFld "ZigzagTabletsModel" 174 11 73 true (.array .char) := ⟨"ZigzagTabletsModel", zT11, 101, zY11, rfl, zi11, zy11, zn11, by decide, rfl, rfl, rfl, (zt_6 _ (zpn (i := 28) rfl)), rfl, rfl, by decide⟩
set_option maxRecDepth 100000 in
theorem f_Md_177 : zFld "ZigzagTabletsModel" 177 11 74 true (.array .char) := ⟨"ZigzagTabletsModel", zT11, 101, zY11, rfl, zi11, zy11, zn11, by decide, rfl, rfl, rfl, (zt_6 _ (zpn (i := 29) rfl)), rfl, rfl, by decide⟩
set_option maxRecDepth 100000 in
theorem f_Md_620 : zFld "ZigzagTabletsModel" 620 11 97 false .long := ⟨"ZigzagTabletsModel", zT11, 101, zY11, rfl, zi11, zy11, zn11, by decide, rfl, rfl, rfl, (zt_6 _ (zpn (i := 52) rfl)), rfl, rfl, by decide⟩
set_option maxRecDepth 100000 in
theorem w_Md_623 : Cond.constantLong "ZigzagTabletsModel" 623 (Int64.ofInt (-1)) ∈ lw_tbl := (zt_9 _ (zpn (i := 9) rfl))
set_option maxRecDepth 100000 in
theorem f_Md_625 : zFld "ZigzagTabletsModel" 625 11 98 false .boolean := ⟨"ZigzagTabletsModel", zT11, 101, zY11, rfl, zi11, zy11, zn11, by decide, rfl, rfl, rfl, (zt_6 _ (zpn (i := 53) rfl)), rfl, rfl, by decide⟩
set_option maxRecDepth 100000 in
theorem k_Md_628 : zLnV "ZigzagTabletsModel" 628 0 y_Md_qKind := ⟨⟨(zt_9 _ (zpn (i := 5) rfl)), (zt_9 _ (zpn (i := 8) rfl)), (zt_1 _ (zpn (i := 15) rfl)), ⟨by decide, by decide, by decide +kernel⟩, by decide⟩, (zt_9 _ (zpn (i := 7) rfl)), (zt_0 _ (zpn (i := 133) rfl))⟩
set_option maxRecDepth 100000 in
theorem k_Md_631 : zLnV "ZigzagTabletsModel" 631 1 y_Md_qTold := ⟨⟨(zt_9 _ (zpn (i := 10) rfl)), (zt_9 _ (zpn (i := 13) rfl)), (zt_1 _ (zpn (i := 15) rfl)), ⟨by decide, by decide, by decide +kernel⟩, by decide⟩, (zt_9 _ (zpn (i := 12) rfl)), (zt_0 _ (zpn (i := 134) rfl))⟩
set_option maxRecDepth 100000 in
theorem k_Md_634 : zLnV "ZigzagTabletsModel" 634 3 y_Md_qTakes := ⟨⟨(zt_9 _ (zpn (i := 18) rfl)), (zt_9 _ (zpn (i := 21) rfl)), (zt_1 _ (zpn (i := 15) rfl)), ⟨by decide, by decide, by decide +kernel⟩, by decide⟩, (zt_9 _ (zpn (i := 20) rfl)), (zt_0 _ (zpn (i := 136) rfl))⟩
set_option maxRecDepth 100000 in
theorem f_Md_231 : zFld "ZigzagTabletsModel" 231 11 99 true (.array .int) := ⟨"ZigzagTabletsModel", zT11, 101, zY11, rfl, zi11, zy11, zn11, by decide, rfl, rfl, rfl, (zt_6 _ (zpn (i := 54) rfl)), rfl, rfl, by decide⟩
set_option maxRecDepth 100000 in
theorem f_Md_638 : zFld "ZigzagTabletsModel" 638 11 100 false .int := ⟨"ZigzagTabletsModel", zT11, 101, zY11, rfl, zi11, zy11, zn11, by decide, rfl, rfl, rfl, (zt_6 _ (zpn (i := 55) rfl)), rfl, rfl, by decide⟩
set_option maxRecDepth 100000 in
theorem k_Md_641 : zLnV "ZigzagTabletsModel" 641 1 y_Md_writes := ⟨⟨(zt_9 _ (zpn (i := 38) rfl)), (zt_9 _ (zpn (i := 41) rfl)), (zt_1 _ (zpn (i := 15) rfl)), ⟨by decide, by decide, by decide +kernel⟩, by decide⟩, (zt_9 _ (zpn (i := 40) rfl)), (zt_0 _ (zpn (i := 138) rfl))⟩
set_option maxRecDepth 100000 in
theorem k_Md_644 : zLnV "ZigzagTabletsModel" 644 1 y_Md_writesTwo := ⟨⟨(zt_9 _ (zpn (i := 34) rfl)), (zt_9 _ (zpn (i := 37) rfl)), (zt_1 _ (zpn (i := 15) rfl)), ⟨by decide, by decide, by decide +kernel⟩, by decide⟩, (zt_9 _ (zpn (i := 36) rfl)), (zt_0 _ (zpn (i := 137) rfl))⟩
set_option maxRecDepth 100000 in
theorem k_Md_648 : zLnS "ZigzagTabletsModel" 648 2 y_Md_checked := ⟨⟨(zt_9 _ (zpn (i := 43) rfl)), (zt_9 _ (zpn (i := 45) rfl)), (zt_1 _ (zpn (i := 15) rfl)), ⟨by decide, by decide, by decide +kernel⟩, by decide⟩, (zt_9 _ (zpn (i := 44) rfl))⟩
set_option maxRecDepth 100000 in
theorem w_Md_647 : Cond.constant "ZigzagTabletsModel" 647 (Int32.ofInt 65536) ∈ lw_tbl := (zt_9 _ (zpn (i := 42) rfl))
set_option maxRecDepth 100000 in
theorem k_Md_652 : zLnV "ZigzagTabletsModel" 652 1 y_Md_twoAt := ⟨⟨(zt_9 _ (zpn (i := 54) rfl)), (zt_9 _ (zpn (i := 57) rfl)), (zt_1 _ (zpn (i := 15) rfl)), ⟨by decide, by decide, by decide +kernel⟩, by decide⟩, (zt_9 _ (zpn (i := 56) rfl)), (zt_0 _ (zpn (i := 140) rfl))⟩
set_option maxRecDepth 100000 in
theorem k_Md_655 : zLnV "ZigzagTabletsModel" 655 1 y_Md_valueAt := ⟨⟨(zt_9 _ (zpn (i := 58) rfl)), (zt_9 _ (zpn (i := 61) rfl)), (zt_1 _ (zpn (i := 15) rfl)), ⟨by decide, by decide, by decide +kernel⟩, by decide⟩, (zt_9 _ (zpn (i := 60) rfl)), (zt_0 _ (zpn (i := 141) rfl))⟩
set_option maxRecDepth 100000 in
theorem k_Md_658 : zLnV "ZigzagTabletsModel" 658 1 y_Md_isImage := ⟨⟨(zt_9 _ (zpn (i := 50) rfl)), (zt_9 _ (zpn (i := 53) rfl)), (zt_1 _ (zpn (i := 15) rfl)), ⟨by decide, by decide, by decide +kernel⟩, by decide⟩, (zt_9 _ (zpn (i := 52) rfl)), (zt_0 _ (zpn (i := 139) rfl))⟩
set_option maxRecDepth 100000 in
theorem f_Code_20 : zFld "ZigzagTablets$Code" 20 0 2 false .int := ⟨"ZigzagTablets$Code", zT0, 3, zY0, rfl, zi0, zy0, zn0, by decide, rfl, rfl, rfl, (zt_1 _ (zpn (i := 215) rfl)), rfl, rfl, by decide⟩
set_option maxRecDepth 100000 in
theorem f_Code_11 : zFld "ZigzagTablets$Code" 11 0 0 true (.array .int) := ⟨"ZigzagTablets$Code", zT0, 3, zY0, rfl, zi0, zy0, zn0, by decide, rfl, rfl, rfl, (zt_1 _ (zpn (i := 213) rfl)), rfl, rfl, by decide⟩
set_option maxRecDepth 100000 in
theorem f_Code_17 : zFld "ZigzagTablets$Code" 17 0 1 true (.array .int) := ⟨"ZigzagTablets$Code", zT0, 3, zY0, rfl, zi0, zy0, zn0, by decide, rfl, rfl, rfl, (zt_1 _ (zpn (i := 214) rfl)), rfl, rfl, by decide⟩
set_option maxRecDepth 100000 in
theorem k_Code_34 : zLnS "ZigzagTablets$Code" 34 3 y_Code_joined := ⟨⟨(zt_2 _ (zpn (i := 226) rfl)), (zt_2 _ (zpn (i := 228) rfl)), (zt_1 _ (zpn (i := 8) rfl)), ⟨by decide, by decide, by decide +kernel⟩, by decide⟩, (zt_2 _ (zpn (i := 227) rfl))⟩
set_option maxRecDepth 100000 in
theorem ka_Code_30_Tablet : zLnA "ZigzagTablets$Code" 30 2 ⟨"ZigzagTablets$Scene", "asked", "(II)I"⟩ y_Tablet_asked := ⟨(zt_2 _ (zpn (i := 217) rfl)), (zt_2 _ (zpn (i := 219) rfl)), (zt_2 _ (zpn (i := 223) rfl)), (zt_2 _ (zpn (i := 224) rfl)), (zt_1 _ (zpn (i := 11) rfl)), (zt_2 _ (zpn (i := 218) rfl)), (zt_2 _ (zpn (i := 225) rfl)), ⟨by decide, by decide⟩, by decide +kernel, by decide⟩
set_option maxRecDepth 100000 in
theorem ka_Code_30_Question : zLnA "ZigzagTablets$Code" 30 2 ⟨"ZigzagTablets$Scene", "asked", "(II)I"⟩ y_Question_asked := ⟨(zt_2 _ (zpn (i := 217) rfl)), (zt_2 _ (zpn (i := 219) rfl)), (zt_2 _ (zpn (i := 220) rfl)), (zt_2 _ (zpn (i := 221) rfl)), (zt_1 _ (zpn (i := 10) rfl)), (zt_2 _ (zpn (i := 218) rfl)), (zt_2 _ (zpn (i := 222) rfl)), ⟨by decide, by decide⟩, by decide +kernel, by decide⟩
set_option maxRecDepth 100000 in
theorem ka_Code_24_Tablet : zLnA "ZigzagTablets$Code" 24 1 ⟨"ZigzagTablets$Scene", "told", "(I)I"⟩ y_Tablet_told := ⟨(zt_2 _ (zpn (i := 196) rfl)), (zt_2 _ (zpn (i := 198) rfl)), (zt_2 _ (zpn (i := 214) rfl)), (zt_2 _ (zpn (i := 215) rfl)), (zt_1 _ (zpn (i := 11) rfl)), (zt_2 _ (zpn (i := 197) rfl)), (zt_2 _ (zpn (i := 216) rfl)), ⟨by decide, by decide⟩, by decide +kernel, by decide⟩
set_option maxRecDepth 100000 in
theorem ka_Code_24_Question : zLnA "ZigzagTablets$Code" 24 1 ⟨"ZigzagTablets$Scene", "told", "(I)I"⟩ y_Question_told := ⟨(zt_2 _ (zpn (i := 196) rfl)), (zt_2 _ (zpn (i := 198) rfl)), (zt_2 _ (zpn (i := 199) rfl)), (zt_2 _ (zpn (i := 200) rfl)), (zt_1 _ (zpn (i := 10) rfl)), (zt_2 _ (zpn (i := 197) rfl)), (zt_2 _ (zpn (i := 201) rfl)), ⟨by decide, by decide⟩, by decide +kernel, by decide⟩
set_option maxRecDepth 100000 in
theorem w_Code_38 : Cond.constantLong "ZigzagTablets$Code" 38 (Int64.ofInt (-1000000)) ∈ lw_tbl := (zt_2 _ (zpn (i := 229) rfl))
set_option maxRecDepth 100000 in
theorem w_Code_40 : Cond.constantLong "ZigzagTablets$Code" 40 (Int64.ofInt 1000000) ∈ lw_tbl := (zt_2 _ (zpn (i := 230) rfl))
set_option maxRecDepth 100000 in
theorem k_Code_42 : zLnS "ZigzagTablets$Code" 42 2 y_Jm_min_JJJ := ⟨⟨(zt_2 _ (zpn (i := 231) rfl)), (zt_2 _ (zpn (i := 233) rfl)), (zt_1 _ (zpn (i := 13) rfl)), ⟨by decide, by decide, by decide +kernel⟩, by decide⟩, (zt_2 _ (zpn (i := 232) rfl))⟩
set_option maxRecDepth 100000 in
theorem k_Code_48 : zLnS "ZigzagTablets$Code" 48 2 y_Jm_max_JJJ := ⟨⟨(zt_2 _ (zpn (i := 234) rfl)), (zt_2 _ (zpn (i := 236) rfl)), (zt_1 _ (zpn (i := 13) rfl)), ⟨by decide, by decide, by decide +kernel⟩, by decide⟩, (zt_2 _ (zpn (i := 235) rfl))⟩
set_option maxRecDepth 100000 in
theorem k_Code_51 : zLnS "ZigzagTablets$Code" 51 2 y_Jm_floorDiv := ⟨⟨(zt_2 _ (zpn (i := 237) rfl)), (zt_2 _ (zpn (i := 239) rfl)), (zt_1 _ (zpn (i := 13) rfl)), ⟨by decide, by decide, by decide +kernel⟩, by decide⟩, (zt_2 _ (zpn (i := 238) rfl))⟩
set_option maxRecDepth 100000 in
theorem k_Code_54 : zLnS "ZigzagTablets$Code" 54 2 y_Jm_min_III := ⟨⟨(zt_3 _ (zpn (i := 0) rfl)), (zt_2 _ (zpn (i := 210) rfl)), (zt_1 _ (zpn (i := 13) rfl)), ⟨by decide, by decide, by decide +kernel⟩, by decide⟩, (zt_2 _ (zpn (i := 209) rfl))⟩
set_option maxRecDepth 100000 in
theorem k_Code_56 : zLnS "ZigzagTablets$Code" 56 2 y_Jm_max_III := ⟨⟨(zt_3 _ (zpn (i := 1) rfl)), (zt_2 _ (zpn (i := 213) rfl)), (zt_1 _ (zpn (i := 13) rfl)), ⟨by decide, by decide, by decide +kernel⟩, by decide⟩, (zt_2 _ (zpn (i := 212) rfl))⟩
set_option maxRecDepth 100000 in
theorem f_Column_15 : zFld "ZigzagTablets$Column" 15 1 1 false .int := ⟨"ZigzagTablets$Column", zT1, 11, zY1, rfl, zi1, zy1, zn1, by decide, rfl, rfl, rfl, (zt_2 _ (zpn (i := 72) rfl)), rfl, rfl, by decide⟩
set_option maxRecDepth 100000 in
theorem f_Column_19 : zFld "ZigzagTablets$Column" 19 1 2 false .int := ⟨"ZigzagTablets$Column", zT1, 11, zY1, rfl, zi1, zy1, zn1, by decide, rfl, rfl, rfl, (zt_2 _ (zpn (i := 76) rfl)), rfl, rfl, by decide⟩
set_option maxRecDepth 100000 in
theorem f_Column_22 : zFld "ZigzagTablets$Column" 22 1 3 false .int := ⟨"ZigzagTablets$Column", zT1, 11, zY1, rfl, zi1, zy1, zn1, by decide, rfl, rfl, rfl, (zt_2 _ (zpn (i := 81) rfl)), rfl, rfl, by decide⟩
set_option maxRecDepth 100000 in
theorem f_Column_25 : zFld "ZigzagTablets$Column" 25 1 4 false .int := ⟨"ZigzagTablets$Column", zT1, 11, zY1, rfl, zi1, zy1, zn1, by decide, rfl, rfl, rfl, (zt_2 _ (zpn (i := 86) rfl)), rfl, rfl, by decide⟩
set_option maxRecDepth 100000 in
theorem f_Column_28 : zFld "ZigzagTablets$Column" 28 1 5 false .boolean := ⟨"ZigzagTablets$Column", zT1, 11, zY1, rfl, zi1, zy1, zn1, by decide, rfl, rfl, rfl, (zt_2 _ (zpn (i := 89) rfl)), rfl, rfl, by decide⟩
set_option maxRecDepth 100000 in
theorem f_Column_32 : zFld "ZigzagTablets$Column" 32 1 6 false .int := ⟨"ZigzagTablets$Column", zT1, 11, zY1, rfl, zi1, zy1, zn1, by decide, rfl, rfl, rfl, (zt_2 _ (zpn (i := 92) rfl)), rfl, rfl, by decide⟩
set_option maxRecDepth 100000 in
theorem f_Column_35 : zFld "ZigzagTablets$Column" 35 1 7 false .int := ⟨"ZigzagTablets$Column", zT1, 11, zY1, rfl, zi1, zy1, zn1, by decide, rfl, rfl, rfl, (zt_2 _ (zpn (i := 96) rfl)), rfl, rfl, by decide⟩
set_option maxRecDepth 100000 in
theorem f_Column_38 : zFld "ZigzagTablets$Column" 38 1 8 false .int := ⟨"ZigzagTablets$Column", zT1, 11, zY1, rfl, zi1, zy1, zn1, by decide, rfl, rfl, rfl, (zt_2 _ (zpn (i := 98) rfl)), rfl, rfl, by decide⟩
set_option maxRecDepth 100000 in
theorem f_Column_41 : zFld "ZigzagTablets$Column" 41 1 9 false .int := ⟨"ZigzagTablets$Column", zT1, 11, zY1, rfl, zi1, zy1, zn1, by decide, rfl, rfl, rfl, (zt_2 _ (zpn (i := 100) rfl)), rfl, rfl, by decide⟩
set_option maxRecDepth 100000 in
theorem f_Column_44 : zFld "ZigzagTablets$Column" 44 1 10 false .int := ⟨"ZigzagTablets$Column", zT1, 11, zY1, rfl, zi1, zy1, zn1, by decide, rfl, rfl, rfl, (zt_2 _ (zpn (i := 103) rfl)), rfl, rfl, by decide⟩
set_option maxRecDepth 100000 in
theorem k_Column_47 : zLnV "ZigzagTablets$Column" 47 0 y_Column_moves := ⟨⟨(zt_5 _ (zpn (i := 14) rfl)), (zt_2 _ (zpn (i := 191) rfl)), (zt_1 _ (zpn (i := 12) rfl)), ⟨by decide, by decide, by decide +kernel⟩, by decide⟩, (zt_2 _ (zpn (i := 189) rfl)), (zt_2 _ (zpn (i := 190) rfl))⟩
set_option maxRecDepth 100000 in
theorem k_Column_51 : zLnS "ZigzagTablets$Column" 51 2 y_Jm_floorMod := ⟨⟨(zt_5 _ (zpn (i := 15) rfl)), (zt_4 _ (zpn (i := 187) rfl)), (zt_1 _ (zpn (i := 13) rfl)), ⟨by decide, by decide, by decide +kernel⟩, by decide⟩, (zt_4 _ (zpn (i := 186) rfl))⟩
set_option maxRecDepth 100000 in
theorem f_Course_25 : zFld "ZigzagTablets$Course" 25 2 3 false (.object "ZigzagTablets$Tablet") := ⟨"ZigzagTablets$Course", zT2, 5, zY2, rfl, zi2, zy2, zn2, by decide, rfl, rfl, rfl, (zt_1 _ (zpn (i := 88) rfl)), rfl, rfl, by decide⟩
set_option maxRecDepth 100000 in
theorem f_Course_12 : zFld "ZigzagTablets$Course" 12 2 2 true (.object "ZigzagTablets$Line") := ⟨"ZigzagTablets$Course", zT2, 5, zY2, rfl, zi2, zy2, zn2, by decide, rfl, rfl, rfl, (zt_1 _ (zpn (i := 87) rfl)), rfl, rfl, by decide⟩
set_option maxRecDepth 100000 in
theorem k_Course_29 : zLnV "ZigzagTablets$Course" 29 1 y_Line_copy := ⟨⟨(zt_3 _ (zpn (i := 6) rfl)), (zt_3 _ (zpn (i := 9) rfl)), (zt_1 _ (zpn (i := 3) rfl)), ⟨by decide, by decide, by decide +kernel⟩, by decide⟩, (zt_3 _ (zpn (i := 7) rfl)), (zt_3 _ (zpn (i := 8) rfl))⟩
set_option maxRecDepth 100000 in
theorem f_Course_33 : zFld "ZigzagTablets$Course" 33 2 4 false .int := ⟨"ZigzagTablets$Course", zT2, 5, zY2, rfl, zi2, zy2, zn2, by decide, rfl, rfl, rfl, (zt_1 _ (zpn (i := 89) rfl)), rfl, rfl, by decide⟩
set_option maxRecDepth 100000 in
theorem k_Course_37 : zLnV "ZigzagTablets$Course" 37 0 y_Course_store := ⟨⟨(zt_3 _ (zpn (i := 13) rfl)), (zt_3 _ (zpn (i := 16) rfl)), (zt_1 _ (zpn (i := 4) rfl)), ⟨by decide, by decide, by decide +kernel⟩, by decide⟩, (zt_3 _ (zpn (i := 15) rfl)), (zt_0 _ (zpn (i := 1) rfl))⟩
set_option maxRecDepth 100000 in
theorem f_Course_22 : zFld "ZigzagTablets$Course" 22 2 1 true (.array .int) := ⟨"ZigzagTablets$Course", zT2, 5, zY2, rfl, zi2, zy2, zn2, by decide, rfl, rfl, rfl, (zt_1 _ (zpn (i := 86) rfl)), rfl, rfl, by decide⟩
set_option maxRecDepth 100000 in
theorem k_Course_40 : zLnV "ZigzagTablets$Course" 40 3 y_Tablet_next := ⟨⟨(zt_4 _ (zpn (i := 168) rfl)), (zt_4 _ (zpn (i := 171) rfl)), (zt_1 _ (zpn (i := 11) rfl)), ⟨by decide, by decide, by decide +kernel⟩, by decide⟩, (zt_4 _ (zpn (i := 169) rfl)), (zt_4 _ (zpn (i := 170) rfl))⟩
set_option maxRecDepth 100000 in
theorem f_Course_46 : zFld "ZigzagTablets$Course" 46 4 2 false .int := ⟨"ZigzagTablets$Line", zT4, 3, zY4, rfl, zi4, zy4, zn4, by decide, rfl, rfl, rfl, (zt_1 _ (zpn (i := 68) rfl)), rfl, rfl, by decide⟩
set_option maxRecDepth 100000 in
theorem f_Course_48 : zFld "ZigzagTablets$Course" 48 4 0 true (.array .int) := ⟨"ZigzagTablets$Line", zT4, 3, zY4, rfl, zi4, zy4, zn4, by decide, rfl, rfl, rfl, (zt_1 _ (zpn (i := 57) rfl)), rfl, rfl, by decide⟩
set_option maxRecDepth 100000 in
theorem f_Course_18 : zFld "ZigzagTablets$Course" 18 2 0 true (.array .int) := ⟨"ZigzagTablets$Course", zT2, 5, zY2, rfl, zi2, zy2, zn2, by decide, rfl, rfl, rfl, (zt_1 _ (zpn (i := 85) rfl)), rfl, rfl, by decide⟩
set_option maxRecDepth 100000 in
theorem w_Course_49 : Cond.methodLink "ZigzagTablets$Course" 49 arraycopyName ∈ lw_tbl := (zt_3 _ (zpn (i := 17) rfl))
set_option maxRecDepth 100000 in
theorem w_copy_n : Cond.native arraycopyName ∈ lw_tbl := (zt_3 _ (zpn (i := 12) rfl))
set_option maxRecDepth 100000 in
theorem w_copy_s : Cond.static arraycopyName ∈ lw_tbl := (zt_3 _ (zpn (i := 11) rfl))
set_option maxRecDepth 100000 in
theorem w_copy_i : Cond.initialized "java/lang/System" ∈ lw_tbl := (zt_1 _ (zpn (i := 14) rfl))
set_option maxRecDepth 100000 in
theorem f_Course_55 : zFld "ZigzagTablets$Course" 55 4 1 false .int := ⟨"ZigzagTablets$Line", zT4, 3, zY4, rfl, zi4, zy4, zn4, by decide, rfl, rfl, rfl, (zt_1 _ (zpn (i := 65) rfl)), rfl, rfl, by decide⟩
set_option maxRecDepth 100000 in
theorem k_Course_58 : zLnV "ZigzagTablets$Course" 58 2 y_Course_told := ⟨⟨(zt_4 _ (zpn (i := 219) rfl)), (zt_2 _ (zpn (i := 205) rfl)), (zt_1 _ (zpn (i := 4) rfl)), ⟨by decide, by decide, by decide +kernel⟩, by decide⟩, (zt_2 _ (zpn (i := 203) rfl)), (zt_2 _ (zpn (i := 204) rfl))⟩
set_option maxRecDepth 100000 in
theorem f_History_28 : zFld "ZigzagTablets$History" 28 3 4 false .int := ⟨"ZigzagTablets$History", zT3, 7, zY3, rfl, zi3, zy3, zn3, by decide, rfl, rfl, rfl, (zt_1 _ (zpn (i := 114) rfl)), rfl, rfl, by decide⟩
set_option maxRecDepth 100000 in
theorem f_History_32 : zFld "ZigzagTablets$History" 32 3 6 false .int := ⟨"ZigzagTablets$History", zT3, 7, zY3, rfl, zi3, zy3, zn3, by decide, rfl, rfl, rfl, (zt_1 _ (zpn (i := 116) rfl)), rfl, rfl, by decide⟩
set_option maxRecDepth 100000 in
theorem f_History_9 : zFld "ZigzagTablets$History" 9 3 0 true (.array .int) := ⟨"ZigzagTablets$History", zT3, 7, zY3, rfl, zi3, zy3, zn3, by decide, rfl, rfl, rfl, (zt_1 _ (zpn (i := 110) rfl)), rfl, rfl, by decide⟩
set_option maxRecDepth 100000 in
theorem f_History_15 : zFld "ZigzagTablets$History" 15 3 1 true (.array .int) := ⟨"ZigzagTablets$History", zT3, 7, zY3, rfl, zi3, zy3, zn3, by decide, rfl, rfl, rfl, (zt_1 _ (zpn (i := 111) rfl)), rfl, rfl, by decide⟩
set_option maxRecDepth 100000 in
theorem k_History_35 : zLnS "ZigzagTablets$History" 35 2 y_Jm_min_III := ⟨⟨(zt_4 _ (zpn (i := 121) rfl)), (zt_2 _ (zpn (i := 210) rfl)), (zt_1 _ (zpn (i := 13) rfl)), ⟨by decide, by decide, by decide +kernel⟩, by decide⟩, (zt_2 _ (zpn (i := 209) rfl))⟩
set_option maxRecDepth 100000 in
theorem k_History_41 : zLnV "ZigzagTablets$History" 41 0 y_History_keptTold := ⟨⟨(zt_4 _ (zpn (i := 151) rfl)), (zt_4 _ (zpn (i := 120) rfl)), (zt_1 _ (zpn (i := 5) rfl)), ⟨by decide, by decide, by decide +kernel⟩, by decide⟩, (zt_4 _ (zpn (i := 118) rfl)), (zt_4 _ (zpn (i := 119) rfl))⟩
set_option maxRecDepth 100000 in
theorem f_History_45 : zFld "ZigzagTablets$History" 45 3 5 false .int := ⟨"ZigzagTablets$History", zT3, 7, zY3, rfl, zi3, zy3, zn3, by decide, rfl, rfl, rfl, (zt_1 _ (zpn (i := 115) rfl)), rfl, rfl, by decide⟩
set_option maxRecDepth 100000 in
theorem f_History_20 : zFld "ZigzagTablets$History" 20 3 2 true (.array (.object "ZigzagTablets$Line")) := ⟨"ZigzagTablets$History", zT3, 7, zY3, rfl, zi3, zy3, zn3, by decide, rfl, rfl, rfl, (zt_1 _ (zpn (i := 112) rfl)), rfl, rfl, by decide⟩
set_option maxRecDepth 100000 in
theorem k_History_48 : zLnV "ZigzagTablets$History" 48 1 y_Line_copy := ⟨⟨(zt_5 _ (zpn (i := 84) rfl)), (zt_3 _ (zpn (i := 9) rfl)), (zt_1 _ (zpn (i := 3) rfl)), ⟨by decide, by decide, by decide +kernel⟩, by decide⟩, (zt_3 _ (zpn (i := 7) rfl)), (zt_3 _ (zpn (i := 8) rfl))⟩
set_option maxRecDepth 100000 in
theorem f_History_24 : zFld "ZigzagTablets$History" 24 3 3 true (.array .int) := ⟨"ZigzagTablets$History", zT3, 7, zY3, rfl, zi3, zy3, zn3, by decide, rfl, rfl, rfl, (zt_1 _ (zpn (i := 113) rfl)), rfl, rfl, by decide⟩
set_option maxRecDepth 100000 in
theorem f_Line_15 : zFld "ZigzagTablets$Line" 15 4 1 false .int := ⟨"ZigzagTablets$Line", zT4, 3, zY4, rfl, zi4, zy4, zn4, by decide, rfl, rfl, rfl, (zt_1 _ (zpn (i := 61) rfl)), rfl, rfl, by decide⟩
set_option maxRecDepth 100000 in
theorem f_Line_19 : zFld "ZigzagTablets$Line" 19 4 2 false .int := ⟨"ZigzagTablets$Line", zT4, 3, zY4, rfl, zi4, zy4, zn4, by decide, rfl, rfl, rfl, (zt_1 _ (zpn (i := 66) rfl)), rfl, rfl, by decide⟩
set_option maxRecDepth 100000 in
theorem f_Line_9 : zFld "ZigzagTablets$Line" 9 4 0 true (.array .int) := ⟨"ZigzagTablets$Line", zT4, 3, zY4, rfl, zi4, zy4, zn4, by decide, rfl, rfl, rfl, (zt_1 _ (zpn (i := 55) rfl)), rfl, rfl, by decide⟩
set_option maxRecDepth 100000 in
theorem w_Line_22 : Cond.methodLink "ZigzagTablets$Line" 22 arraycopyName ∈ lw_tbl := (zt_3 _ (zpn (i := 10) rfl))
set_option maxRecDepth 100000 in
theorem f_Piece_41 : zFld "ZigzagTablets$Piece" 41 5 8 false .int := ⟨"ZigzagTablets$Piece", zT5, 17, zY5, rfl, zi5, zy5, zn5, by decide, rfl, rfl, rfl, (zt_1 _ (zpn (i := 151) rfl)), rfl, rfl, by decide⟩
set_option maxRecDepth 100000 in
theorem k_Piece_45 : zLnV "ZigzagTablets$Piece" 45 0 y_Piece_changed := ⟨⟨(zt_3 _ (zpn (i := 26) rfl)), (zt_3 _ (zpn (i := 29) rfl)), (zt_1 _ (zpn (i := 6) rfl)), ⟨by decide, by decide, by decide +kernel⟩, by decide⟩, (zt_3 _ (zpn (i := 28) rfl)), (zt_0 _ (zpn (i := 2) rfl))⟩
set_option maxRecDepth 100000 in
theorem f_Piece_48 : zFld "ZigzagTablets$Piece" 48 5 14 false .boolean := ⟨"ZigzagTablets$Piece", zT5, 17, zY5, rfl, zi5, zy5, zn5, by decide, rfl, rfl, rfl, (zt_1 _ (zpn (i := 163) rfl)), rfl, rfl, by decide⟩
set_option maxRecDepth 100000 in
theorem f_Piece_52 : zFld "ZigzagTablets$Piece" 52 5 15 false .boolean := ⟨"ZigzagTablets$Piece", zT5, 17, zY5, rfl, zi5, zy5, zn5, by decide, rfl, rfl, rfl, (zt_1 _ (zpn (i := 164) rfl)), rfl, rfl, by decide⟩
set_option maxRecDepth 100000 in
theorem f_Piece_55 : zFld "ZigzagTablets$Piece" 55 5 16 false .int := ⟨"ZigzagTablets$Piece", zT5, 17, zY5, rfl, zi5, zy5, zn5, by decide, rfl, rfl, rfl, (zt_1 _ (zpn (i := 165) rfl)), rfl, rfl, by decide⟩
set_option maxRecDepth 100000 in
theorem f_Piece_58 : zFld "ZigzagTablets$Piece" 58 9 1 false .int := ⟨"ZigzagTablets$Tape", zT9, 2, zY9, rfl, zi9, zy9, zn9, by decide, rfl, rfl, rfl, (zt_1 _ (zpn (i := 41) rfl)), rfl, rfl, by decide⟩
set_option maxRecDepth 100000 in
theorem k_Piece_63 : zLnS "ZigzagTablets$Piece" 63 3 y_Piece_isRow := ⟨⟨(zt_5 _ (zpn (i := 24) rfl)), (zt_5 _ (zpn (i := 26) rfl)), (zt_1 _ (zpn (i := 6) rfl)), ⟨by decide, by decide, by decide +kernel⟩, by decide⟩, (zt_5 _ (zpn (i := 25) rfl))⟩
set_option maxRecDepth 100000 in
theorem f_Piece_18 : zFld "ZigzagTablets$Piece" 18 5 2 true (.array .int) := ⟨"ZigzagTablets$Piece", zT5, 17, zY5, rfl, zi5, zy5, zn5, by decide, rfl, rfl, rfl, (zt_1 _ (zpn (i := 143) rfl)), rfl, rfl, by decide⟩
set_option maxRecDepth 100000 in
theorem f_Piece_67 : zFld "ZigzagTablets$Piece" 67 9 0 true (.array .int) := ⟨"ZigzagTablets$Tape", zT9, 2, zY9, rfl, zi9, zy9, zn9, by decide, rfl, rfl, rfl, (zt_1 _ (zpn (i := 36) rfl)), rfl, rfl, by decide⟩
set_option maxRecDepth 100000 in
theorem f_Piece_22 : zFld "ZigzagTablets$Piece" 22 5 3 true (.array .int) := ⟨"ZigzagTablets$Piece", zT5, 17, zY5, rfl, zi5, zy5, zn5, by decide, rfl, rfl, rfl, (zt_1 _ (zpn (i := 144) rfl)), rfl, rfl, by decide⟩
set_option maxRecDepth 100000 in
theorem f_Piece_25 : zFld "ZigzagTablets$Piece" 25 5 4 true (.array .int) := ⟨"ZigzagTablets$Piece", zT5, 17, zY5, rfl, zi5, zy5, zn5, by decide, rfl, rfl, rfl, (zt_1 _ (zpn (i := 145) rfl)), rfl, rfl, by decide⟩
set_option maxRecDepth 100000 in
theorem k_Piece_70 : zLnV "ZigzagTablets$Piece" 70 1 y_Tape_pair := ⟨⟨(zt_5 _ (zpn (i := 28) rfl)), (zt_5 _ (zpn (i := 31) rfl)), (zt_1 _ (zpn (i := 2) rfl)), ⟨by decide, by decide, by decide +kernel⟩, by decide⟩, (zt_5 _ (zpn (i := 29) rfl)), (zt_5 _ (zpn (i := 30) rfl))⟩
set_option maxRecDepth 100000 in
theorem f_Piece_74 : zFld "ZigzagTablets$Piece" 74 8 2 false .int := ⟨"ZigzagTablets$Tablet", zT8, 10, zY8, rfl, zi8, zy8, zn8, by decide, rfl, rfl, rfl, (zt_2 _ (zpn (i := 138) rfl)), rfl, rfl, by decide⟩
set_option maxRecDepth 100000 in
theorem f_Piece_79 : zFld "ZigzagTablets$Piece" 79 8 0 true (.array (.object "ZigzagTablets$Column")) := ⟨"ZigzagTablets$Tablet", zT8, 10, zY8, rfl, zi8, zy8, zn8, by decide, rfl, rfl, rfl, (zt_2 _ (zpn (i := 131) rfl)), rfl, rfl, by decide⟩
set_option maxRecDepth 100000 in
theorem k_Piece_82 : zLnV "ZigzagTablets$Piece" 82 0 y_Column_moves := ⟨⟨(zt_5 _ (zpn (i := 27) rfl)), (zt_2 _ (zpn (i := 191) rfl)), (zt_1 _ (zpn (i := 12) rfl)), ⟨by decide, by decide, by decide +kernel⟩, by decide⟩, (zt_2 _ (zpn (i := 189) rfl)), (zt_2 _ (zpn (i := 190) rfl))⟩
set_option maxRecDepth 100000 in
theorem k_Piece_88 : zLnV "ZigzagTablets$Piece" 88 1 y_Column_canTell := ⟨⟨(zt_5 _ (zpn (i := 32) rfl)), (zt_5 _ (zpn (i := 35) rfl)), (zt_1 _ (zpn (i := 12) rfl)), ⟨by decide, by decide, by decide +kernel⟩, by decide⟩, (zt_5 _ (zpn (i := 33) rfl)), (zt_5 _ (zpn (i := 34) rfl))⟩
set_option maxRecDepth 100000 in
theorem f_Piece_92 : zFld "ZigzagTablets$Piece" 92 5 9 false .int := ⟨"ZigzagTablets$Piece", zT5, 17, zY5, rfl, zi5, zy5, zn5, by decide, rfl, rfl, rfl, (zt_1 _ (zpn (i := 153) rfl)), rfl, rfl, by decide⟩
set_option maxRecDepth 100000 in
theorem k_Piece_95 : zLnV "ZigzagTablets$Piece" 95 1 y_Piece_fitsAt := ⟨⟨(zt_5 _ (zpn (i := 44) rfl)), (zt_5 _ (zpn (i := 47) rfl)), (zt_1 _ (zpn (i := 6) rfl)), ⟨by decide, by decide, by decide +kernel⟩, by decide⟩, (zt_5 _ (zpn (i := 46) rfl)), (zt_0 _ (zpn (i := 45) rfl))⟩
set_option maxRecDepth 100000 in
theorem f_Piece_31 : zFld "ZigzagTablets$Piece" 31 5 6 true (.array .int) := ⟨"ZigzagTablets$Piece", zT5, 17, zY5, rfl, zi5, zy5, zn5, by decide, rfl, rfl, rfl, (zt_1 _ (zpn (i := 147) rfl)), rfl, rfl, by decide⟩
set_option maxRecDepth 100000 in
theorem f_Piece_37 : zFld "ZigzagTablets$Piece" 37 5 0 true (.object "ZigzagTablets$Course") := ⟨"ZigzagTablets$Piece", zT5, 17, zY5, rfl, zi5, zy5, zn5, by decide, rfl, rfl, rfl, (zt_1 _ (zpn (i := 141) rfl)), rfl, rfl, by decide⟩
set_option maxRecDepth 100000 in
theorem k_Piece_98 : zLnV "ZigzagTablets$Piece" 98 2 y_Course_told := ⟨⟨(zt_5 _ (zpn (i := 48) rfl)), (zt_2 _ (zpn (i := 205) rfl)), (zt_1 _ (zpn (i := 4) rfl)), ⟨by decide, by decide, by decide +kernel⟩, by decide⟩, (zt_2 _ (zpn (i := 203) rfl)), (zt_2 _ (zpn (i := 204) rfl))⟩
set_option maxRecDepth 100000 in
theorem f_Piece_109 : zFld "ZigzagTablets$Piece" 109 1 3 false .int := ⟨"ZigzagTablets$Column", zT1, 11, zY1, rfl, zi1, zy1, zn1, by decide, rfl, rfl, rfl, (zt_2 _ (zpn (i := 84) rfl)), rfl, rfl, by decide⟩
set_option maxRecDepth 100000 in
theorem f_Piece_112 : zFld "ZigzagTablets$Piece" 112 1 2 false .int := ⟨"ZigzagTablets$Column", zT1, 11, zY1, rfl, zi1, zy1, zn1, by decide, rfl, rfl, rfl, (zt_2 _ (zpn (i := 79) rfl)), rfl, rfl, by decide⟩
set_option maxRecDepth 100000 in
theorem f_Piece_115 : zFld "ZigzagTablets$Piece" 115 5 10 false .int := ⟨"ZigzagTablets$Piece", zT5, 17, zY5, rfl, zi5, zy5, zn5, by decide, rfl, rfl, rfl, (zt_1 _ (zpn (i := 155) rfl)), rfl, rfl, by decide⟩
set_option maxRecDepth 100000 in
theorem k_Piece_104 : zLnS "ZigzagTablets$Piece" 104 2 y_Jm_max_III := ⟨⟨(zt_5 _ (zpn (i := 57) rfl)), (zt_2 _ (zpn (i := 213) rfl)), (zt_1 _ (zpn (i := 13) rfl)), ⟨by decide, by decide, by decide +kernel⟩, by decide⟩, (zt_2 _ (zpn (i := 212) rfl))⟩
set_option maxRecDepth 100000 in
theorem k_Piece_118 : zLnV "ZigzagTablets$Piece" 118 4 y_Piece_wouldFit := ⟨⟨(zt_5 _ (zpn (i := 58) rfl)), (zt_5 _ (zpn (i := 61) rfl)), (zt_1 _ (zpn (i := 6) rfl)), ⟨by decide, by decide, by decide +kernel⟩, by decide⟩, (zt_5 _ (zpn (i := 60) rfl)), (zt_0 _ (zpn (i := 46) rfl))⟩
set_option maxRecDepth 100000 in
theorem f_Piece_34 : zFld "ZigzagTablets$Piece" 34 5 7 true (.array .int) := ⟨"ZigzagTablets$Piece", zT5, 17, zY5, rfl, zi5, zy5, zn5, by decide, rfl, rfl, rfl, (zt_1 _ (zpn (i := 149) rfl)), rfl, rfl, by decide⟩
set_option maxRecDepth 100000 in
theorem f_Piece_14 : zFld "ZigzagTablets$Piece" 14 5 1 true (.object "ZigzagTablets$Line") := ⟨"ZigzagTablets$Piece", zT5, 17, zY5, rfl, zi5, zy5, zn5, by decide, rfl, rfl, rfl, (zt_1 _ (zpn (i := 142) rfl)), rfl, rfl, by decide⟩
set_option maxRecDepth 100000 in
theorem k_Piece_122 : zLnV "ZigzagTablets$Piece" 122 1 y_Tablet_begin := ⟨⟨(zt_5 _ (zpn (i := 62) rfl)), (zt_2 _ (zpn (i := 183) rfl)), (zt_1 _ (zpn (i := 11) rfl)), ⟨by decide, by decide, by decide +kernel⟩, by decide⟩, (zt_2 _ (zpn (i := 181) rfl)), (zt_2 _ (zpn (i := 182) rfl))⟩
set_option maxRecDepth 100000 in
theorem k_Piece_127 : zLnV "ZigzagTablets$Piece" 127 3 y_Tablet_next := ⟨⟨(zt_5 _ (zpn (i := 63) rfl)), (zt_4 _ (zpn (i := 171) rfl)), (zt_1 _ (zpn (i := 11) rfl)), ⟨by decide, by decide, by decide +kernel⟩, by decide⟩, (zt_4 _ (zpn (i := 169) rfl)), (zt_4 _ (zpn (i := 170) rfl))⟩
set_option maxRecDepth 100000 in
theorem f_Piece_126 : zFld "ZigzagTablets$Piece" 126 4 0 true (.array .int) := ⟨"ZigzagTablets$Line", zT4, 3, zY4, rfl, zi4, zy4, zn4, by decide, rfl, rfl, rfl, (zt_1 _ (zpn (i := 60) rfl)), rfl, rfl, by decide⟩
set_option maxRecDepth 100000 in
theorem f_Piece_131 : zFld "ZigzagTablets$Piece" 131 5 13 false .int := ⟨"ZigzagTablets$Piece", zT5, 17, zY5, rfl, zi5, zy5, zn5, by decide, rfl, rfl, rfl, (zt_1 _ (zpn (i := 161) rfl)), rfl, rfl, by decide⟩
set_option maxRecDepth 100000 in
theorem k_Piece_134 : zLnV "ZigzagTablets$Piece" 134 2 y_Piece_mostAlike := ⟨⟨(zt_5 _ (zpn (i := 72) rfl)), (zt_5 _ (zpn (i := 75) rfl)), (zt_1 _ (zpn (i := 6) rfl)), ⟨by decide, by decide, by decide +kernel⟩, by decide⟩, (zt_5 _ (zpn (i := 74) rfl)), (zt_0 _ (zpn (i := 47) rfl))⟩
set_option maxRecDepth 100000 in
theorem f_Piece_137 : zFld "ZigzagTablets$Piece" 137 5 11 false .int := ⟨"ZigzagTablets$Piece", zT5, 17, zY5, rfl, zi5, zy5, zn5, by decide, rfl, rfl, rfl, (zt_1 _ (zpn (i := 157) rfl)), rfl, rfl, by decide⟩
set_option maxRecDepth 100000 in
theorem f_Piece_140 : zFld "ZigzagTablets$Piece" 140 5 12 false .int := ⟨"ZigzagTablets$Piece", zT5, 17, zY5, rfl, zi5, zy5, zn5, by decide, rfl, rfl, rfl, (zt_1 _ (zpn (i := 159) rfl)), rfl, rfl, by decide⟩
set_option maxRecDepth 100000 in
theorem f_Piece_28 : zFld "ZigzagTablets$Piece" 28 5 5 true (.array .int) := ⟨"ZigzagTablets$Piece", zT5, 17, zY5, rfl, zi5, zy5, zn5, by decide, rfl, rfl, rfl, (zt_1 _ (zpn (i := 146) rfl)), rfl, rfl, by decide⟩
set_option maxRecDepth 100000 in
theorem f_Question_22 : zFld "ZigzagTablets$Question" 22 6 3 false (.object "ZigzagTablets$Tablet") := ⟨"ZigzagTablets$Question", zT6, 5, zY6, rfl, zi6, zy6, zn6, by decide, rfl, rfl, rfl, (zt_2 _ (zpn (i := 39) rfl)), rfl, rfl, by decide⟩
set_option maxRecDepth 100000 in
theorem w_Question_26 : Cond.constantLong "ZigzagTablets$Question" 26 (Int64.ofInt (-1)) ∈ lw_tbl := (zt_5 _ (zpn (i := 156) rfl))
set_option maxRecDepth 100000 in
theorem f_Question_28 : zFld "ZigzagTablets$Question" 28 8 2 false .int := ⟨"ZigzagTablets$Tablet", zT8, 10, zY8, rfl, zi8, zy8, zn8, by decide, rfl, rfl, rfl, (zt_2 _ (zpn (i := 137) rfl)), rfl, rfl, by decide⟩
set_option maxRecDepth 100000 in
theorem f_Question_34 : zFld "ZigzagTablets$Question" 34 6 4 false .int := ⟨"ZigzagTablets$Question", zT6, 5, zY6, rfl, zi6, zy6, zn6, by decide, rfl, rfl, rfl, (zt_2 _ (zpn (i := 40) rfl)), rfl, rfl, by decide⟩
set_option maxRecDepth 100000 in
theorem f_Question_37 : zFld "ZigzagTablets$Question" 37 0 2 false .int := ⟨"ZigzagTablets$Code", zT0, 3, zY0, rfl, zi0, zy0, zn0, by decide, rfl, rfl, rfl, (zt_1 _ (zpn (i := 217) rfl)), rfl, rfl, by decide⟩
set_option maxRecDepth 100000 in
theorem k_Question_42 : zLnV "ZigzagTablets$Question" 42 3 y_Code_run := ⟨⟨(zt_5 _ (zpn (i := 157) rfl)), (zt_2 _ (zpn (i := 195) rfl)), (zt_1 _ (zpn (i := 8) rfl)), ⟨by decide, by decide, by decide +kernel⟩, by decide⟩, (zt_2 _ (zpn (i := 193) rfl)), (zt_2 _ (zpn (i := 194) rfl))⟩
set_option maxRecDepth 100000 in
theorem k_Question_46 : zLnV "ZigzagTablets$Question" 46 3 y_Question_joined := ⟨⟨(zt_5 _ (zpn (i := 158) rfl)), (zt_5 _ (zpn (i := 161) rfl)), (zt_1 _ (zpn (i := 10) rfl)), ⟨by decide, by decide, by decide +kernel⟩, by decide⟩, (zt_5 _ (zpn (i := 160) rfl)), (zt_0 _ (zpn (i := 53) rfl))⟩
set_option maxRecDepth 100000 in
theorem k_Question_50 : zLnS "ZigzagTablets$Question" 50 2 y_Jm_max_JJJ := ⟨⟨(zt_5 _ (zpn (i := 162) rfl)), (zt_2 _ (zpn (i := 236) rfl)), (zt_1 _ (zpn (i := 13) rfl)), ⟨by decide, by decide, by decide +kernel⟩, by decide⟩, (zt_2 _ (zpn (i := 235) rfl))⟩
set_option maxRecDepth 100000 in
theorem k_Question_56 : zLnS "ZigzagTablets$Question" 56 2 y_Jm_min_JJJ := ⟨⟨(zt_5 _ (zpn (i := 163) rfl)), (zt_2 _ (zpn (i := 233) rfl)), (zt_1 _ (zpn (i := 13) rfl)), ⟨by decide, by decide, by decide +kernel⟩, by decide⟩, (zt_2 _ (zpn (i := 232) rfl))⟩
set_option maxRecDepth 100000 in
theorem f_Question_59 : zFld "ZigzagTablets$Question" 59 8 0 true (.array (.object "ZigzagTablets$Column")) := ⟨"ZigzagTablets$Tablet", zT8, 10, zY8, rfl, zi8, zy8, zn8, by decide, rfl, rfl, rfl, (zt_2 _ (zpn (i := 130) rfl)), rfl, rfl, by decide⟩
set_option maxRecDepth 100000 in
theorem f_Question_63 : zFld "ZigzagTablets$Question" 63 1 1 false .int := ⟨"ZigzagTablets$Column", zT1, 11, zY1, rfl, zi1, zy1, zn1, by decide, rfl, rfl, rfl, (zt_2 _ (zpn (i := 73) rfl)), rfl, rfl, by decide⟩
set_option maxRecDepth 100000 in
theorem f_Question_9 : zFld "ZigzagTablets$Question" 9 6 0 true (.object "ZigzagTablets$Line") := ⟨"ZigzagTablets$Question", zT6, 5, zY6, rfl, zi6, zy6, zn6, by decide, rfl, rfl, rfl, (zt_2 _ (zpn (i := 36) rfl)), rfl, rfl, by decide⟩
set_option maxRecDepth 100000 in
theorem f_Question_68 : zFld "ZigzagTablets$Question" 68 4 0 true (.array .int) := ⟨"ZigzagTablets$Line", zT4, 3, zY4, rfl, zi4, zy4, zn4, by decide, rfl, rfl, rfl, (zt_1 _ (zpn (i := 58) rfl)), rfl, rfl, by decide⟩
set_option maxRecDepth 100000 in
theorem f_Question_15 : zFld "ZigzagTablets$Question" 15 6 1 true (.object "ZigzagTablets$Course") := ⟨"ZigzagTablets$Question", zT6, 5, zY6, rfl, zi6, zy6, zn6, by decide, rfl, rfl, rfl, (zt_2 _ (zpn (i := 37) rfl)), rfl, rfl, by decide⟩
set_option maxRecDepth 100000 in
theorem f_Question_74 : zFld "ZigzagTablets$Question" 74 4 1 false .int := ⟨"ZigzagTablets$Line", zT4, 3, zY4, rfl, zi4, zy4, zn4, by decide, rfl, rfl, rfl, (zt_1 _ (zpn (i := 63) rfl)), rfl, rfl, by decide⟩
set_option maxRecDepth 100000 in
theorem k_Question_77 : zLnV "ZigzagTablets$Question" 77 2 y_Course_told := ⟨⟨(zt_2 _ (zpn (i := 202) rfl)), (zt_2 _ (zpn (i := 205) rfl)), (zt_1 _ (zpn (i := 4) rfl)), ⟨by decide, by decide, by decide +kernel⟩, by decide⟩, (zt_2 _ (zpn (i := 203) rfl)), (zt_2 _ (zpn (i := 204) rfl))⟩
set_option maxRecDepth 100000 in
theorem w_Question_83 : Cond.constant "ZigzagTablets$Question" 83 (Int32.ofInt (-1000000)) ∈ lw_tbl := (zt_2 _ (zpn (i := 206) rfl))
set_option maxRecDepth 100000 in
theorem w_Question_84 : Cond.constant "ZigzagTablets$Question" 84 (Int32.ofInt 1000000) ∈ lw_tbl := (zt_2 _ (zpn (i := 207) rfl))
set_option maxRecDepth 100000 in
theorem k_Question_85 : zLnS "ZigzagTablets$Question" 85 2 y_Jm_min_III := ⟨⟨(zt_2 _ (zpn (i := 208) rfl)), (zt_2 _ (zpn (i := 210) rfl)), (zt_1 _ (zpn (i := 13) rfl)), ⟨by decide, by decide, by decide +kernel⟩, by decide⟩, (zt_2 _ (zpn (i := 209) rfl))⟩
set_option maxRecDepth 100000 in
theorem k_Question_87 : zLnS "ZigzagTablets$Question" 87 2 y_Jm_max_III := ⟨⟨(zt_2 _ (zpn (i := 211) rfl)), (zt_2 _ (zpn (i := 213) rfl)), (zt_1 _ (zpn (i := 13) rfl)), ⟨by decide, by decide, by decide +kernel⟩, by decide⟩, (zt_2 _ (zpn (i := 212) rfl))⟩
set_option maxRecDepth 100000 in
theorem f_Question_19 : zFld "ZigzagTablets$Question" 19 6 2 true (.object "ZigzagTablets$Course") := ⟨"ZigzagTablets$Question", zT6, 5, zY6, rfl, zi6, zy6, zn6, by decide, rfl, rfl, rfl, (zt_2 _ (zpn (i := 38) rfl)), rfl, rfl, by decide⟩
set_option maxRecDepth 100000 in
theorem k_Reader_29 : zLnV "ZigzagTablets$Reader" 29 0 y_Tablet_clear := ⟨⟨(zt_3 _ (zpn (i := 110) rfl)), (zt_3 _ (zpn (i := 113) rfl)), (zt_1 _ (zpn (i := 11) rfl)), ⟨by decide, by decide, by decide +kernel⟩, by decide⟩, (zt_3 _ (zpn (i := 111) rfl)), (zt_3 _ (zpn (i := 112) rfl))⟩
set_option maxRecDepth 100000 in
theorem f_Reader_34 : zFld "ZigzagTablets$Reader" 34 7 5 false (.object "ZigzagTablets$Tablet") := ⟨"ZigzagTablets$Reader", zT7, 12, zY7, rfl, zi7, zy7, zn7, by decide, rfl, rfl, rfl, (zt_1 _ (zpn (i := 235) rfl)), rfl, rfl, by decide⟩
set_option maxRecDepth 100000 in
theorem f_Reader_38 : zFld "ZigzagTablets$Reader" 38 8 1 true (.object "ZigzagTablets$Code") := ⟨"ZigzagTablets$Tablet", zT8, 10, zY8, rfl, zi8, zy8, zn8, by decide, rfl, rfl, rfl, (zt_2 _ (zpn (i := 135) rfl)), rfl, rfl, by decide⟩
set_option maxRecDepth 100000 in
theorem f_Reader_22 : zFld "ZigzagTablets$Reader" 22 7 6 false (.object "ZigzagTablets$Code") := ⟨"ZigzagTablets$Reader", zT7, 12, zY7, rfl, zi7, zy7, zn7, by decide, rfl, rfl, rfl, (zt_1 _ (zpn (i := 236) rfl)), rfl, rfl, by decide⟩
set_option maxRecDepth 100000 in
theorem f_Reader_39 : zFld "ZigzagTablets$Reader" 39 7 7 false .boolean := ⟨"ZigzagTablets$Reader", zT7, 12, zY7, rfl, zi7, zy7, zn7, by decide, rfl, rfl, rfl, (zt_1 _ (zpn (i := 237) rfl)), rfl, rfl, by decide⟩
set_option maxRecDepth 100000 in
theorem k_Reader_43 : zLnV "ZigzagTablets$Reader" 43 0 y_Reader_start := ⟨⟨(zt_3 _ (zpn (i := 114) rfl)), (zt_3 _ (zpn (i := 117) rfl)), (zt_1 _ (zpn (i := 7) rfl)), ⟨by decide, by decide, by decide +kernel⟩, by decide⟩, (zt_3 _ (zpn (i := 116) rfl)), (zt_0 _ (zpn (i := 5) rfl))⟩
set_option maxRecDepth 100000 in
theorem f_Reader_46 : zFld "ZigzagTablets$Reader" 46 7 9 false .int := ⟨"ZigzagTablets$Reader", zT7, 12, zY7, rfl, zi7, zy7, zn7, by decide, rfl, rfl, rfl, (zt_1 _ (zpn (i := 239) rfl)), rfl, rfl, by decide⟩
set_option maxRecDepth 100000 in
theorem k_Reader_56 : zLnV "ZigzagTablets$Reader" 56 0 y_Reader_statement := ⟨⟨(zt_3 _ (zpn (i := 132) rfl)), (zt_3 _ (zpn (i := 135) rfl)), (zt_1 _ (zpn (i := 7) rfl)), ⟨by decide, by decide, by decide +kernel⟩, by decide⟩, (zt_3 _ (zpn (i := 134) rfl)), (zt_0 _ (zpn (i := 8) rfl))⟩
set_option maxRecDepth 100000 in
theorem k_Reader_60 : zLnV "ZigzagTablets$Reader" 60 1 y_Reader_takeSign := ⟨⟨(zt_3 _ (zpn (i := 227) rfl)), (zt_3 _ (zpn (i := 230) rfl)), (zt_1 _ (zpn (i := 7) rfl)), ⟨by decide, by decide, by decide +kernel⟩, by decide⟩, (zt_3 _ (zpn (i := 229) rfl)), (zt_0 _ (zpn (i := 18) rfl))⟩
set_option maxRecDepth 100000 in
theorem f_Reader_64 : zFld "ZigzagTablets$Reader" 64 8 3 false .int := ⟨"ZigzagTablets$Tablet", zT8, 10, zY8, rfl, zi8, zy8, zn8, by decide, rfl, rfl, rfl, (zt_2 _ (zpn (i := 142) rfl)), rfl, rfl, by decide⟩
set_option maxRecDepth 100000 in
theorem f_Reader_49 : zFld "ZigzagTablets$Reader" 49 7 10 false .int := ⟨"ZigzagTablets$Reader", zT7, 12, zY7, rfl, zi7, zy7, zn7, by decide, rfl, rfl, rfl, (zt_2 _ (zpn (i := 0) rfl)), rfl, rfl, by decide⟩
set_option maxRecDepth 100000 in
theorem k_Reader_52 : zLnV "ZigzagTablets$Reader" 52 2 y_Reader_refuse := ⟨⟨(zt_3 _ (zpn (i := 128) rfl)), (zt_3 _ (zpn (i := 131) rfl)), (zt_1 _ (zpn (i := 7) rfl)), ⟨by decide, by decide, by decide +kernel⟩, by decide⟩, (zt_3 _ (zpn (i := 130) rfl)), (zt_0 _ (zpn (i := 7) rfl))⟩
set_option maxRecDepth 100000 in
theorem f_Reader_12 : zFld "ZigzagTablets$Reader" 12 7 1 true (.object "ZigzagTablets$Code") := ⟨"ZigzagTablets$Reader", zT7, 12, zY7, rfl, zi7, zy7, zn7, by decide, rfl, rfl, rfl, (zt_1 _ (zpn (i := 227) rfl)), rfl, rfl, by decide⟩
set_option maxRecDepth 100000 in
theorem f_Reader_67 : zFld "ZigzagTablets$Reader" 67 0 2 false .int := ⟨"ZigzagTablets$Code", zT0, 3, zY0, rfl, zi0, zy0, zn0, by decide, rfl, rfl, rfl, (zt_1 _ (zpn (i := 218) rfl)), rfl, rfl, by decide⟩
set_option maxRecDepth 100000 in
theorem k_Reader_70 : zLnV "ZigzagTablets$Reader" 70 0 y_Reader_questionHere := ⟨⟨(zt_5 _ (zpn (i := 142) rfl)), (zt_5 _ (zpn (i := 145) rfl)), (zt_1 _ (zpn (i := 7) rfl)), ⟨by decide, by decide, by decide +kernel⟩, by decide⟩, (zt_5 _ (zpn (i := 144) rfl)), (zt_0 _ (zpn (i := 52) rfl))⟩
set_option maxRecDepth 100000 in
theorem f_Reader_74 : zFld "ZigzagTablets$Reader" 74 7 2 false .int := ⟨"ZigzagTablets$Reader", zT7, 12, zY7, rfl, zi7, zy7, zn7, by decide, rfl, rfl, rfl, (zt_1 _ (zpn (i := 229) rfl)), rfl, rfl, by decide⟩
set_option maxRecDepth 100000 in
theorem k_Reader_86 : zLnV "ZigzagTablets$Reader" 86 1 y_Reader_sum := ⟨⟨(zt_3 _ (zpn (i := 232) rfl)), (zt_3 _ (zpn (i := 235) rfl)), (zt_1 _ (zpn (i := 7) rfl)), ⟨by decide, by decide, by decide +kernel⟩, by decide⟩, (zt_3 _ (zpn (i := 234) rfl)), (zt_0 _ (zpn (i := 19) rfl))⟩
set_option maxRecDepth 100000 in
theorem k_Reader_82 : zLnV "ZigzagTablets$Reader" 82 1 y_Reader_test := ⟨⟨(zt_3 _ (zpn (i := 202) rfl)), (zt_3 _ (zpn (i := 205) rfl)), (zt_1 _ (zpn (i := 7) rfl)), ⟨by decide, by decide, by decide +kernel⟩, by decide⟩, (zt_3 _ (zpn (i := 204) rfl)), (zt_0 _ (zpn (i := 13) rfl))⟩
set_option maxRecDepth 100000 in
theorem k_Reader_77 : zLnV "ZigzagTablets$Reader" 77 0 y_Reader_unfit := ⟨⟨(zt_3 _ (zpn (i := 197) rfl)), (zt_3 _ (zpn (i := 200) rfl)), (zt_1 _ (zpn (i := 7) rfl)), ⟨by decide, by decide, by decide +kernel⟩, by decide⟩, (zt_3 _ (zpn (i := 199) rfl)), (zt_0 _ (zpn (i := 12) rfl))⟩
set_option maxRecDepth 100000 in
theorem f_Reader_89 : zFld "ZigzagTablets$Reader" 89 7 3 false .int := ⟨"ZigzagTablets$Reader", zT7, 12, zY7, rfl, zi7, zy7, zn7, by decide, rfl, rfl, rfl, (zt_1 _ (zpn (i := 231) rfl)), rfl, rfl, by decide⟩
set_option maxRecDepth 100000 in
theorem f_Reader_18 : zFld "ZigzagTablets$Reader" 18 7 4 false .int := ⟨"ZigzagTablets$Reader", zT7, 12, zY7, rfl, zi7, zy7, zn7, by decide, rfl, rfl, rfl, (zt_1 _ (zpn (i := 233) rfl)), rfl, rfl, by decide⟩
set_option maxRecDepth 100000 in
theorem f_Reader_92 : zFld "ZigzagTablets$Reader" 92 7 11 false .int := ⟨"ZigzagTablets$Reader", zT7, 12, zY7, rfl, zi7, zy7, zn7, by decide, rfl, rfl, rfl, (zt_2 _ (zpn (i := 1) rfl)), rfl, rfl, by decide⟩
set_option maxRecDepth 100000 in
theorem f_Reader_95 : zFld "ZigzagTablets$Reader" 95 7 8 false .boolean := ⟨"ZigzagTablets$Reader", zT7, 12, zY7, rfl, zi7, zy7, zn7, by decide, rfl, rfl, rfl, (zt_1 _ (zpn (i := 238) rfl)), rfl, rfl, by decide⟩
set_option maxRecDepth 100000 in
theorem k_Reader_98 : zLnV "ZigzagTablets$Reader" 98 0 y_Reader_advance := ⟨⟨(zt_3 _ (zpn (i := 118) rfl)), (zt_3 _ (zpn (i := 121) rfl)), (zt_1 _ (zpn (i := 7) rfl)), ⟨by decide, by decide, by decide +kernel⟩, by decide⟩, (zt_3 _ (zpn (i := 120) rfl)), (zt_0 _ (zpn (i := 6) rfl))⟩
set_option maxRecDepth 100000 in
theorem k_Reader_103 : zLnV "ZigzagTablets$Reader" 103 1 y_Reader_tryWord := ⟨⟨(zt_3 _ (zpn (i := 137) rfl)), (zt_3 _ (zpn (i := 140) rfl)), (zt_1 _ (zpn (i := 7) rfl)), ⟨by decide, by decide, by decide +kernel⟩, by decide⟩, (zt_3 _ (zpn (i := 139) rfl)), (zt_0 _ (zpn (i := 9) rfl))⟩
set_option maxRecDepth 100000 in
theorem k_Reader_136 : zLnV "ZigzagTablets$Reader" 136 0 y_Reader_sortHere := ⟨⟨(zt_4 _ (zpn (i := 40) rfl)), (zt_4 _ (zpn (i := 43) rfl)), (zt_1 _ (zpn (i := 7) rfl)), ⟨by decide, by decide, by decide +kernel⟩, by decide⟩, (zt_4 _ (zpn (i := 42) rfl)), (zt_0 _ (zpn (i := 28) rfl))⟩
set_option maxRecDepth 100000 in
theorem f_Reader_139 : zFld "ZigzagTablets$Reader" 139 8 2 false .int := ⟨"ZigzagTablets$Tablet", zT8, 10, zY8, rfl, zi8, zy8, zn8, by decide, rfl, rfl, rfl, (zt_2 _ (zpn (i := 140) rfl)), rfl, rfl, by decide⟩
set_option maxRecDepth 100000 in
theorem f_Reader_142 : zFld "ZigzagTablets$Reader" 142 8 0 true (.array (.object "ZigzagTablets$Column")) := ⟨"ZigzagTablets$Tablet", zT8, 10, zY8, rfl, zi8, zy8, zn8, by decide, rfl, rfl, rfl, (zt_2 _ (zpn (i := 132) rfl)), rfl, rfl, by decide⟩
set_option maxRecDepth 100000 in
theorem k_Reader_146 : zLnV "ZigzagTablets$Reader" 146 1 y_Column_clear := ⟨⟨(zt_4 _ (zpn (i := 48) rfl)), (zt_4 _ (zpn (i := 51) rfl)), (zt_1 _ (zpn (i := 12) rfl)), ⟨by decide, by decide, by decide +kernel⟩, by decide⟩, (zt_4 _ (zpn (i := 49) rfl)), (zt_4 _ (zpn (i := 50) rfl))⟩
set_option maxRecDepth 100000 in
theorem k_Reader_151 : zLnV "ZigzagTablets$Reader" 151 1 y_Reader_name := ⟨⟨(zt_4 _ (zpn (i := 52) rfl)), (zt_4 _ (zpn (i := 55) rfl)), (zt_1 _ (zpn (i := 7) rfl)), ⟨by decide, by decide, by decide +kernel⟩, by decide⟩, (zt_4 _ (zpn (i := 54) rfl)), (zt_0 _ (zpn (i := 29) rfl))⟩
set_option maxRecDepth 100000 in
theorem k_Reader_155 : zLnV "ZigzagTablets$Reader" 155 1 y_Reader_zig := ⟨⟨(zt_4 _ (zpn (i := 61) rfl)), (zt_4 _ (zpn (i := 64) rfl)), (zt_1 _ (zpn (i := 7) rfl)), ⟨by decide, by decide, by decide +kernel⟩, by decide⟩, (zt_4 _ (zpn (i := 63) rfl)), (zt_0 _ (zpn (i := 31) rfl))⟩
set_option maxRecDepth 100000 in
theorem k_Reader_159 : zLnV "ZigzagTablets$Reader" 159 1 y_Reader_arc := ⟨⟨(zt_4 _ (zpn (i := 79) rfl)), (zt_4 _ (zpn (i := 82) rfl)), (zt_1 _ (zpn (i := 7) rfl)), ⟨by decide, by decide, by decide +kernel⟩, by decide⟩, (zt_4 _ (zpn (i := 81) rfl)), (zt_0 _ (zpn (i := 34) rfl))⟩
set_option maxRecDepth 100000 in
theorem k_Reader_162 : zLnV "ZigzagTablets$Reader" 162 1 y_Reader_ring := ⟨⟨(zt_4 _ (zpn (i := 86) rfl)), (zt_4 _ (zpn (i := 89) rfl)), (zt_1 _ (zpn (i := 7) rfl)), ⟨by decide, by decide, by decide +kernel⟩, by decide⟩, (zt_4 _ (zpn (i := 88) rfl)), (zt_0 _ (zpn (i := 35) rfl))⟩
set_option maxRecDepth 100000 in
theorem k_Reader_167 : zLnV "ZigzagTablets$Reader" 167 1 y_Reader_takeWord := ⟨⟨(zt_4 _ (zpn (i := 70) rfl)), (zt_4 _ (zpn (i := 73) rfl)), (zt_1 _ (zpn (i := 7) rfl)), ⟨by decide, by decide, by decide +kernel⟩, by decide⟩, (zt_4 _ (zpn (i := 72) rfl)), (zt_0 _ (zpn (i := 33) rfl))⟩
set_option maxRecDepth 100000 in
theorem f_Reader_127 : zFld "ZigzagTablets$Reader" 127 8 5 false .boolean := ⟨"ZigzagTablets$Tablet", zT8, 10, zY8, rfl, zi8, zy8, zn8, by decide, rfl, rfl, rfl, (zt_2 _ (zpn (i := 148) rfl)), rfl, rfl, by decide⟩
set_option maxRecDepth 100000 in
theorem f_Reader_130 : zFld "ZigzagTablets$Reader" 130 8 6 false .int := ⟨"ZigzagTablets$Tablet", zT8, 10, zY8, rfl, zi8, zy8, zn8, by decide, rfl, rfl, rfl, (zt_2 _ (zpn (i := 149) rfl)), rfl, rfl, by decide⟩
set_option maxRecDepth 100000 in
theorem f_Reader_133 : zFld "ZigzagTablets$Reader" 133 8 7 false .int := ⟨"ZigzagTablets$Tablet", zT8, 10, zY8, rfl, zi8, zy8, zn8, by decide, rfl, rfl, rfl, (zt_2 _ (zpn (i := 151) rfl)), rfl, rfl, by decide⟩
set_option maxRecDepth 100000 in
theorem k_Reader_119 : zLnV "ZigzagTablets$Reader" 119 2 y_Reader_number := ⟨⟨(zt_3 _ (zpn (i := 193) rfl)), (zt_3 _ (zpn (i := 196) rfl)), (zt_1 _ (zpn (i := 7) rfl)), ⟨by decide, by decide, by decide +kernel⟩, by decide⟩, (zt_3 _ (zpn (i := 195) rfl)), (zt_0 _ (zpn (i := 11) rfl))⟩
set_option maxRecDepth 100000 in
theorem f_Reader_123 : zFld "ZigzagTablets$Reader" 123 8 4 false .int := ⟨"ZigzagTablets$Tablet", zT8, 10, zY8, rfl, zi8, zy8, zn8, by decide, rfl, rfl, rfl, (zt_2 _ (zpn (i := 145) rfl)), rfl, rfl, by decide⟩
set_option maxRecDepth 100000 in
theorem k_Reader_170 : zLnV "ZigzagTablets$Reader" 170 1 y_Reader_sumOf := ⟨⟨(zt_4 _ (zpn (i := 91) rfl)), (zt_4 _ (zpn (i := 94) rfl)), (zt_1 _ (zpn (i := 7) rfl)), ⟨by decide, by decide, by decide +kernel⟩, by decide⟩, (zt_4 _ (zpn (i := 93) rfl)), (zt_0 _ (zpn (i := 36) rfl))⟩
set_option maxRecDepth 100000 in
theorem k_Reader_178 : zLnV "ZigzagTablets$Reader" 178 3 y_Reader_numberBehind := ⟨⟨(zt_4 _ (zpn (i := 66) rfl)), (zt_4 _ (zpn (i := 69) rfl)), (zt_1 _ (zpn (i := 7) rfl)), ⟨by decide, by decide, by decide +kernel⟩, by decide⟩, (zt_4 _ (zpn (i := 68) rfl)), (zt_0 _ (zpn (i := 32) rfl))⟩
set_option maxRecDepth 100000 in
theorem f_Reader_182 : zFld "ZigzagTablets$Reader" 182 1 2 false .int := ⟨"ZigzagTablets$Column", zT1, 11, zY1, rfl, zi1, zy1, zn1, by decide, rfl, rfl, rfl, (zt_2 _ (zpn (i := 78) rfl)), rfl, rfl, by decide⟩
set_option maxRecDepth 100000 in
theorem f_Reader_185 : zFld "ZigzagTablets$Reader" 185 1 3 false .int := ⟨"ZigzagTablets$Column", zT1, 11, zY1, rfl, zi1, zy1, zn1, by decide, rfl, rfl, rfl, (zt_2 _ (zpn (i := 83) rfl)), rfl, rfl, by decide⟩
set_option maxRecDepth 100000 in
theorem f_Reader_190 : zFld "ZigzagTablets$Reader" 190 1 6 false .int := ⟨"ZigzagTablets$Column", zT1, 11, zY1, rfl, zi1, zy1, zn1, by decide, rfl, rfl, rfl, (zt_2 _ (zpn (i := 94) rfl)), rfl, rfl, by decide⟩
set_option maxRecDepth 100000 in
theorem f_Reader_195 : zFld "ZigzagTablets$Reader" 195 1 4 false .int := ⟨"ZigzagTablets$Column", zT1, 11, zY1, rfl, zi1, zy1, zn1, by decide, rfl, rfl, rfl, (zt_2 _ (zpn (i := 88) rfl)), rfl, rfl, by decide⟩
set_option maxRecDepth 100000 in
theorem f_Reader_199 : zFld "ZigzagTablets$Reader" 199 1 5 false .boolean := ⟨"ZigzagTablets$Column", zT1, 11, zY1, rfl, zi1, zy1, zn1, by decide, rfl, rfl, rfl, (zt_2 _ (zpn (i := 91) rfl)), rfl, rfl, by decide⟩
set_option maxRecDepth 100000 in
theorem f_Reader_205 : zFld "ZigzagTablets$Reader" 205 1 8 false .int := ⟨"ZigzagTablets$Column", zT1, 11, zY1, rfl, zi1, zy1, zn1, by decide, rfl, rfl, rfl, (zt_2 _ (zpn (i := 99) rfl)), rfl, rfl, by decide⟩
set_option maxRecDepth 100000 in
theorem f_Reader_212 : zFld "ZigzagTablets$Reader" 212 1 7 false .int := ⟨"ZigzagTablets$Column", zT1, 11, zY1, rfl, zi1, zy1, zn1, by decide, rfl, rfl, rfl, (zt_2 _ (zpn (i := 97) rfl)), rfl, rfl, by decide⟩
set_option maxRecDepth 100000 in
theorem f_Reader_215 : zFld "ZigzagTablets$Reader" 215 1 9 false .int := ⟨"ZigzagTablets$Column", zT1, 11, zY1, rfl, zi1, zy1, zn1, by decide, rfl, rfl, rfl, (zt_2 _ (zpn (i := 102) rfl)), rfl, rfl, by decide⟩
set_option maxRecDepth 100000 in
theorem f_Reader_218 : zFld "ZigzagTablets$Reader" 218 1 10 false .int := ⟨"ZigzagTablets$Column", zT1, 11, zY1, rfl, zi1, zy1, zn1, by decide, rfl, rfl, rfl, (zt_2 _ (zpn (i := 105) rfl)), rfl, rfl, by decide⟩
set_option maxRecDepth 100000 in
theorem k_Reader_221 : zLnV "ZigzagTablets$Reader" 221 0 y_Reader_isOwnWord := ⟨⟨(zt_4 _ (zpn (i := 56) rfl)), (zt_4 _ (zpn (i := 59) rfl)), (zt_1 _ (zpn (i := 7) rfl)), ⟨by decide, by decide, by decide +kernel⟩, by decide⟩, (zt_4 _ (zpn (i := 58) rfl)), (zt_0 _ (zpn (i := 30) rfl))⟩
set_option maxRecDepth 100000 in
theorem k_Reader_224 : zLnV "ZigzagTablets$Reader" 224 0 y_Reader_columnHere := ⟨⟨(zt_4 _ (zpn (i := 30) rfl)), (zt_4 _ (zpn (i := 33) rfl)), (zt_1 _ (zpn (i := 7) rfl)), ⟨by decide, by decide, by decide +kernel⟩, by decide⟩, (zt_4 _ (zpn (i := 32) rfl)), (zt_0 _ (zpn (i := 26) rfl))⟩
set_option maxRecDepth 100000 in
theorem f_Reader_227 : zFld "ZigzagTablets$Reader" 227 1 0 true (.array .int) := ⟨"ZigzagTablets$Column", zT1, 11, zY1, rfl, zi1, zy1, zn1, by decide, rfl, rfl, rfl, (zt_2 _ (zpn (i := 71) rfl)), rfl, rfl, by decide⟩
set_option maxRecDepth 100000 in
theorem f_Reader_25 : zFld "ZigzagTablets$Reader" 25 7 0 true (.object "ZigzagTablets$Tape") := ⟨"ZigzagTablets$Reader", zT7, 12, zY7, rfl, zi7, zy7, zn7, by decide, rfl, rfl, rfl, (zt_1 _ (zpn (i := 226) rfl)), rfl, rfl, by decide⟩
set_option maxRecDepth 100000 in
theorem f_Reader_230 : zFld "ZigzagTablets$Reader" 230 9 0 true (.array .int) := ⟨"ZigzagTablets$Tape", zT9, 2, zY9, rfl, zi9, zy9, zn9, by decide, rfl, rfl, rfl, (zt_1 _ (zpn (i := 37) rfl)), rfl, rfl, by decide⟩
set_option maxRecDepth 100000 in
theorem k_Reader_235 : zLnV "ZigzagTablets$Reader" 235 1 y_Reader_both := ⟨⟨(zt_3 _ (zpn (i := 206) rfl)), (zt_3 _ (zpn (i := 209) rfl)), (zt_1 _ (zpn (i := 7) rfl)), ⟨by decide, by decide, by decide +kernel⟩, by decide⟩, (zt_3 _ (zpn (i := 208) rfl)), (zt_0 _ (zpn (i := 14) rfl))⟩
set_option maxRecDepth 100000 in
theorem k_Reader_240 : zLnV "ZigzagTablets$Reader" 240 2 y_Code_add := ⟨⟨(zt_3 _ (zpn (i := 215) rfl)), (zt_3 _ (zpn (i := 218) rfl)), (zt_1 _ (zpn (i := 8) rfl)), ⟨by decide, by decide, by decide +kernel⟩, by decide⟩, (zt_3 _ (zpn (i := 216) rfl)), (zt_3 _ (zpn (i := 217) rfl))⟩
set_option maxRecDepth 100000 in
theorem k_Reader_244 : zLnV "ZigzagTablets$Reader" 244 1 y_Reader_fact := ⟨⟨(zt_3 _ (zpn (i := 210) rfl)), (zt_3 _ (zpn (i := 213) rfl)), (zt_1 _ (zpn (i := 7) rfl)), ⟨by decide, by decide, by decide +kernel⟩, by decide⟩, (zt_3 _ (zpn (i := 212) rfl)), (zt_0 _ (zpn (i := 15) rfl))⟩
set_option maxRecDepth 100000 in
theorem k_Reader_251 : zLnV "ZigzagTablets$Reader" 251 1 y_Reader_isSign := ⟨⟨(zt_3 _ (zpn (i := 219) rfl)), (zt_3 _ (zpn (i := 222) rfl)), (zt_1 _ (zpn (i := 7) rfl)), ⟨by decide, by decide, by decide +kernel⟩, by decide⟩, (zt_3 _ (zpn (i := 221) rfl)), (zt_0 _ (zpn (i := 16) rfl))⟩
set_option maxRecDepth 100000 in
theorem k_Reader_260 : zLnV "ZigzagTablets$Reader" 260 0 y_Reader_comparisonHere := ⟨⟨(zt_4 _ (zpn (i := 34) rfl)), (zt_4 _ (zpn (i := 37) rfl)), (zt_1 _ (zpn (i := 7) rfl)), ⟨by decide, by decide, by decide +kernel⟩, by decide⟩, (zt_4 _ (zpn (i := 36) rfl)), (zt_0 _ (zpn (i := 27) rfl))⟩
set_option maxRecDepth 100000 in
theorem k_Reader_254 : zLnV "ZigzagTablets$Reader" 254 2 y_Reader_takeOpen := ⟨⟨(zt_3 _ (zpn (i := 223) rfl)), (zt_3 _ (zpn (i := 226) rfl)), (zt_1 _ (zpn (i := 7) rfl)), ⟨by decide, by decide, by decide +kernel⟩, by decide⟩, (zt_3 _ (zpn (i := 225) rfl)), (zt_0 _ (zpn (i := 17) rfl))⟩
set_option maxRecDepth 100000 in
theorem k_Reader_263 : zLnV "ZigzagTablets$Reader" 263 1 y_Reader_product := ⟨⟨(zt_3 _ (zpn (i := 236) rfl)), (zt_3 _ (zpn (i := 239) rfl)), (zt_1 _ (zpn (i := 7) rfl)), ⟨by decide, by decide, by decide +kernel⟩, by decide⟩, (zt_3 _ (zpn (i := 238) rfl)), (zt_0 _ (zpn (i := 20) rfl))⟩
set_option maxRecDepth 100000 in
theorem k_Reader_266 : zLnV "ZigzagTablets$Reader" 266 1 y_Reader_part := ⟨⟨(zt_4 _ (zpn (i := 0) rfl)), (zt_4 _ (zpn (i := 3) rfl)), (zt_1 _ (zpn (i := 7) rfl)), ⟨by decide, by decide, by decide +kernel⟩, by decide⟩, (zt_4 _ (zpn (i := 2) rfl)), (zt_0 _ (zpn (i := 21) rfl))⟩
set_option maxRecDepth 100000 in
theorem k_Reader_278 : zLnV "ZigzagTablets$Reader" 278 1 y_Reader_isWord := ⟨⟨(zt_3 _ (zpn (i := 141) rfl)), (zt_3 _ (zpn (i := 144) rfl)), (zt_1 _ (zpn (i := 7) rfl)), ⟨by decide, by decide, by decide +kernel⟩, by decide⟩, (zt_3 _ (zpn (i := 143) rfl)), (zt_0 _ (zpn (i := 10) rfl))⟩
set_option maxRecDepth 100000 in
theorem k_Reader_271 : zLnV "ZigzagTablets$Reader" 271 2 y_Reader_pair := ⟨⟨(zt_4 _ (zpn (i := 5) rfl)), (zt_4 _ (zpn (i := 8) rfl)), (zt_1 _ (zpn (i := 7) rfl)), ⟨by decide, by decide, by decide +kernel⟩, by decide⟩, (zt_4 _ (zpn (i := 7) rfl)), (zt_0 _ (zpn (i := 22) rfl))⟩
set_option maxRecDepth 100000 in
theorem k_Reader_283 : zLnV "ZigzagTablets$Reader" 283 1 y_Reader_askedPart := ⟨⟨(zt_4 _ (zpn (i := 12) rfl)), (zt_4 _ (zpn (i := 15) rfl)), (zt_1 _ (zpn (i := 7) rfl)), ⟨by decide, by decide, by decide +kernel⟩, by decide⟩, (zt_4 _ (zpn (i := 14) rfl)), (zt_0 _ (zpn (i := 23) rfl))⟩
set_option maxRecDepth 100000 in
theorem k_Reader_289 : zLnV "ZigzagTablets$Reader" 289 0 y_Reader_toldOfLine := ⟨⟨(zt_4 _ (zpn (i := 25) rfl)), (zt_4 _ (zpn (i := 28) rfl)), (zt_1 _ (zpn (i := 7) rfl)), ⟨by decide, by decide, by decide +kernel⟩, by decide⟩, (zt_4 _ (zpn (i := 27) rfl)), (zt_0 _ (zpn (i := 25) rfl))⟩
set_option maxRecDepth 100000 in
theorem k_Reader_286 : zLnV "ZigzagTablets$Reader" 286 0 y_Reader_toldOfColumn := ⟨⟨(zt_4 _ (zpn (i := 16) rfl)), (zt_4 _ (zpn (i := 19) rfl)), (zt_1 _ (zpn (i := 7) rfl)), ⟨by decide, by decide, by decide +kernel⟩, by decide⟩, (zt_4 _ (zpn (i := 18) rfl)), (zt_0 _ (zpn (i := 24) rfl))⟩
set_option maxRecDepth 100000 in
theorem k_Reader_303 : zLnV "ZigzagTablets$Reader" 303 0 y_Js_length := ⟨⟨(zt_3 _ (zpn (i := 145) rfl)), (zt_3 _ (zpn (i := 148) rfl)), (zt_1 _ (zpn (i := 16) rfl)), ⟨by decide, by decide, by decide +kernel⟩, by decide⟩, (zt_3 _ (zpn (i := 146) rfl)), (zt_3 _ (zpn (i := 147) rfl))⟩
set_option maxRecDepth 100000 in
theorem k_Reader_308 : zLnV "ZigzagTablets$Reader" 308 1 y_Js_charAt := ⟨⟨(zt_3 _ (zpn (i := 155) rfl)), (zt_3 _ (zpn (i := 158) rfl)), (zt_1 _ (zpn (i := 16) rfl)), ⟨by decide, by decide, by decide +kernel⟩, by decide⟩, (zt_3 _ (zpn (i := 156) rfl)), (zt_3 _ (zpn (i := 157) rfl))⟩
set_option maxRecDepth 100000 in
theorem f_Reader_314 : zFld "ZigzagTablets$Reader" 314 9 1 false .int := ⟨"ZigzagTablets$Tape", zT9, 2, zY9, rfl, zi9, zy9, zn9, by decide, rfl, rfl, rfl, (zt_1 _ (zpn (i := 42) rfl)), rfl, rfl, by decide⟩
set_option maxRecDepth 100000 in
theorem k_Reader_316 : zLnS "ZigzagTablets$Reader" 316 1 y_Reader_isBlank := ⟨⟨(zt_3 _ (zpn (i := 122) rfl)), (zt_3 _ (zpn (i := 124) rfl)), (zt_1 _ (zpn (i := 7) rfl)), ⟨by decide, by decide, by decide +kernel⟩, by decide⟩, (zt_3 _ (zpn (i := 123) rfl))⟩
set_option maxRecDepth 100000 in
theorem k_Reader_319 : zLnS "ZigzagTablets$Reader" 319 1 y_Reader_kindOf := ⟨⟨(zt_3 _ (zpn (i := 125) rfl)), (zt_3 _ (zpn (i := 127) rfl)), (zt_1 _ (zpn (i := 7) rfl)), ⟨by decide, by decide, by decide +kernel⟩, by decide⟩, (zt_3 _ (zpn (i := 126) rfl))⟩
set_option maxRecDepth 100000 in
theorem f_Tablet_32 : zFld "ZigzagTablets$Tablet" 32 8 2 false .int := ⟨"ZigzagTablets$Tablet", zT8, 10, zY8, rfl, zi8, zy8, zn8, by decide, rfl, rfl, rfl, (zt_2 _ (zpn (i := 136) rfl)), rfl, rfl, by decide⟩
set_option maxRecDepth 100000 in
theorem f_Tablet_36 : zFld "ZigzagTablets$Tablet" 36 8 3 false .int := ⟨"ZigzagTablets$Tablet", zT8, 10, zY8, rfl, zi8, zy8, zn8, by decide, rfl, rfl, rfl, (zt_2 _ (zpn (i := 141) rfl)), rfl, rfl, by decide⟩
set_option maxRecDepth 100000 in
theorem f_Tablet_39 : zFld "ZigzagTablets$Tablet" 39 8 4 false .int := ⟨"ZigzagTablets$Tablet", zT8, 10, zY8, rfl, zi8, zy8, zn8, by decide, rfl, rfl, rfl, (zt_2 _ (zpn (i := 144) rfl)), rfl, rfl, by decide⟩
set_option maxRecDepth 100000 in
theorem f_Tablet_42 : zFld "ZigzagTablets$Tablet" 42 8 5 false .boolean := ⟨"ZigzagTablets$Tablet", zT8, 10, zY8, rfl, zi8, zy8, zn8, by decide, rfl, rfl, rfl, (zt_2 _ (zpn (i := 147) rfl)), rfl, rfl, by decide⟩
set_option maxRecDepth 100000 in
theorem f_Tablet_20 : zFld "ZigzagTablets$Tablet" 20 8 1 true (.object "ZigzagTablets$Code") := ⟨"ZigzagTablets$Tablet", zT8, 10, zY8, rfl, zi8, zy8, zn8, by decide, rfl, rfl, rfl, (zt_2 _ (zpn (i := 134) rfl)), rfl, rfl, by decide⟩
set_option maxRecDepth 100000 in
theorem f_Tablet_46 : zFld "ZigzagTablets$Tablet" 46 0 2 false .int := ⟨"ZigzagTablets$Code", zT0, 3, zY0, rfl, zi0, zy0, zn0, by decide, rfl, rfl, rfl, (zt_1 _ (zpn (i := 216) rfl)), rfl, rfl, by decide⟩
set_option maxRecDepth 100000 in
theorem f_Tablet_49 : zFld "ZigzagTablets$Tablet" 49 4 1 false .int := ⟨"ZigzagTablets$Line", zT4, 3, zY4, rfl, zi4, zy4, zn4, by decide, rfl, rfl, rfl, (zt_1 _ (zpn (i := 62) rfl)), rfl, rfl, by decide⟩
set_option maxRecDepth 100000 in
theorem f_Tablet_52 : zFld "ZigzagTablets$Tablet" 52 4 2 false .int := ⟨"ZigzagTablets$Line", zT4, 3, zY4, rfl, zi4, zy4, zn4, by decide, rfl, rfl, rfl, (zt_1 _ (zpn (i := 67) rfl)), rfl, rfl, by decide⟩
set_option maxRecDepth 100000 in
theorem f_Tablet_27 : zFld "ZigzagTablets$Tablet" 27 8 8 false (.object "ZigzagTablets$Line") := ⟨"ZigzagTablets$Tablet", zT8, 10, zY8, rfl, zi8, zy8, zn8, by decide, rfl, rfl, rfl, (zt_2 _ (zpn (i := 153) rfl)), rfl, rfl, by decide⟩
set_option maxRecDepth 100000 in
theorem f_Tablet_55 : zFld "ZigzagTablets$Tablet" 55 8 9 false .int := ⟨"ZigzagTablets$Tablet", zT8, 10, zY8, rfl, zi8, zy8, zn8, by decide, rfl, rfl, rfl, (zt_2 _ (zpn (i := 154) rfl)), rfl, rfl, by decide⟩
set_option maxRecDepth 100000 in
theorem f_Tablet_11 : zFld "ZigzagTablets$Tablet" 11 8 0 true (.array (.object "ZigzagTablets$Column")) := ⟨"ZigzagTablets$Tablet", zT8, 10, zY8, rfl, zi8, zy8, zn8, by decide, rfl, rfl, rfl, (zt_2 _ (zpn (i := 129) rfl)), rfl, rfl, by decide⟩
set_option maxRecDepth 100000 in
theorem f_Tablet_58 : zFld "ZigzagTablets$Tablet" 58 1 5 false .boolean := ⟨"ZigzagTablets$Column", zT1, 11, zY1, rfl, zi1, zy1, zn1, by decide, rfl, rfl, rfl, (zt_2 _ (zpn (i := 90) rfl)), rfl, rfl, by decide⟩
set_option maxRecDepth 100000 in
theorem k_Tablet_61 : zLnV "ZigzagTablets$Tablet" 61 2 y_Line_go := ⟨⟨(zt_2 _ (zpn (i := 184) rfl)), (zt_2 _ (zpn (i := 187) rfl)), (zt_1 _ (zpn (i := 3) rfl)), ⟨by decide, by decide, by decide +kernel⟩, by decide⟩, (zt_2 _ (zpn (i := 185) rfl)), (zt_2 _ (zpn (i := 186) rfl))⟩
set_option maxRecDepth 100000 in
theorem f_Tablet_65 : zFld "ZigzagTablets$Tablet" 65 4 0 true (.array .int) := ⟨"ZigzagTablets$Line", zT4, 3, zY4, rfl, zi4, zy4, zn4, by decide, rfl, rfl, rfl, (zt_1 _ (zpn (i := 56) rfl)), rfl, rfl, by decide⟩
set_option maxRecDepth 100000 in
theorem k_Tablet_69 : zLnV "ZigzagTablets$Tablet" 69 0 y_Column_moves := ⟨⟨(zt_2 _ (zpn (i := 188) rfl)), (zt_2 _ (zpn (i := 191) rfl)), (zt_1 _ (zpn (i := 12) rfl)), ⟨by decide, by decide, by decide +kernel⟩, by decide⟩, (zt_2 _ (zpn (i := 189) rfl)), (zt_2 _ (zpn (i := 190) rfl))⟩
set_option maxRecDepth 100000 in
theorem f_Tablet_76 : zFld "ZigzagTablets$Tablet" 76 1 9 false .int := ⟨"ZigzagTablets$Column", zT1, 11, zY1, rfl, zi1, zy1, zn1, by decide, rfl, rfl, rfl, (zt_2 _ (zpn (i := 101) rfl)), rfl, rfl, by decide⟩
set_option maxRecDepth 100000 in
theorem f_Tablet_79 : zFld "ZigzagTablets$Tablet" 79 1 10 false .int := ⟨"ZigzagTablets$Column", zT1, 11, zY1, rfl, zi1, zy1, zn1, by decide, rfl, rfl, rfl, (zt_2 _ (zpn (i := 104) rfl)), rfl, rfl, by decide⟩
set_option maxRecDepth 100000 in
theorem k_Tablet_82 : zLnV "ZigzagTablets$Tablet" 82 3 y_Code_run := ⟨⟨(zt_2 _ (zpn (i := 192) rfl)), (zt_2 _ (zpn (i := 195) rfl)), (zt_1 _ (zpn (i := 8) rfl)), ⟨by decide, by decide, by decide +kernel⟩, by decide⟩, (zt_2 _ (zpn (i := 193) rfl)), (zt_2 _ (zpn (i := 194) rfl))⟩
set_option maxRecDepth 100000 in
theorem f_Tablet_73 : zFld "ZigzagTablets$Tablet" 73 1 4 false .int := ⟨"ZigzagTablets$Column", zT1, 11, zY1, rfl, zi1, zy1, zn1, by decide, rfl, rfl, rfl, (zt_2 _ (zpn (i := 87) rfl)), rfl, rfl, by decide⟩
set_option maxRecDepth 100000 in
theorem f_Tablet_86 : zFld "ZigzagTablets$Tablet" 86 1 6 false .int := ⟨"ZigzagTablets$Column", zT1, 11, zY1, rfl, zi1, zy1, zn1, by decide, rfl, rfl, rfl, (zt_2 _ (zpn (i := 93) rfl)), rfl, rfl, by decide⟩
set_option maxRecDepth 100000 in
theorem k_Tablet_89 : zLnV "ZigzagTablets$Tablet" 89 3 y_Tablet_move := ⟨⟨(zt_4 _ (zpn (i := 172) rfl)), (zt_4 _ (zpn (i := 175) rfl)), (zt_1 _ (zpn (i := 11) rfl)), ⟨by decide, by decide, by decide +kernel⟩, by decide⟩, (zt_4 _ (zpn (i := 173) rfl)), (zt_4 _ (zpn (i := 174) rfl))⟩
set_option maxRecDepth 100000 in
theorem f_Tablet_93 : zFld "ZigzagTablets$Tablet" 93 1 1 false .int := ⟨"ZigzagTablets$Column", zT1, 11, zY1, rfl, zi1, zy1, zn1, by decide, rfl, rfl, rfl, (zt_2 _ (zpn (i := 74) rfl)), rfl, rfl, by decide⟩
set_option maxRecDepth 100000 in
theorem f_Tablet_103 : zFld "ZigzagTablets$Tablet" 103 1 3 false .int := ⟨"ZigzagTablets$Column", zT1, 11, zY1, rfl, zi1, zy1, zn1, by decide, rfl, rfl, rfl, (zt_2 _ (zpn (i := 82) rfl)), rfl, rfl, by decide⟩
set_option maxRecDepth 100000 in
theorem k_Tablet_99 : zLnV "ZigzagTablets$Tablet" 99 1 y_Column_arcBehind := ⟨⟨(zt_4 _ (zpn (i := 181) rfl)), (zt_4 _ (zpn (i := 184) rfl)), (zt_1 _ (zpn (i := 12) rfl)), ⟨by decide, by decide, by decide +kernel⟩, by decide⟩, (zt_4 _ (zpn (i := 182) rfl)), (zt_4 _ (zpn (i := 183) rfl))⟩
set_option maxRecDepth 100000 in
theorem k_Tablet_96 : zLnV "ZigzagTablets$Tablet" 96 3 y_Tablet_moveZig := ⟨⟨(zt_4 _ (zpn (i := 176) rfl)), (zt_4 _ (zpn (i := 179) rfl)), (zt_1 _ (zpn (i := 11) rfl)), ⟨by decide, by decide, by decide +kernel⟩, by decide⟩, (zt_4 _ (zpn (i := 178) rfl)), (zt_0 _ (zpn (i := 41) rfl))⟩
set_option maxRecDepth 100000 in
theorem k_Tablet_106 : zLnS "ZigzagTablets$Tablet" 106 2 y_Jm_floorMod := ⟨⟨(zt_4 _ (zpn (i := 185) rfl)), (zt_4 _ (zpn (i := 187) rfl)), (zt_1 _ (zpn (i := 13) rfl)), ⟨by decide, by decide, by decide +kernel⟩, by decide⟩, (zt_4 _ (zpn (i := 186) rfl))⟩
set_option maxRecDepth 100000 in
theorem k_Tablet_112 : zLnV "ZigzagTablets$Tablet" 112 1 y_Line_goesUp := ⟨⟨(zt_4 _ (zpn (i := 180) rfl)), (zt_4 _ (zpn (i := 137) rfl)), (zt_1 _ (zpn (i := 3) rfl)), ⟨by decide, by decide, by decide +kernel⟩, by decide⟩, (zt_4 _ (zpn (i := 135) rfl)), (zt_4 _ (zpn (i := 136) rfl))⟩
set_option maxRecDepth 100000 in
theorem f_Tablet_116 : zFld "ZigzagTablets$Tablet" 116 1 2 false .int := ⟨"ZigzagTablets$Column", zT1, 11, zY1, rfl, zi1, zy1, zn1, by decide, rfl, rfl, rfl, (zt_2 _ (zpn (i := 77) rfl)), rfl, rfl, by decide⟩
set_option maxRecDepth 100000 in
theorem f_Tablet_119 : zFld "ZigzagTablets$Tablet" 119 8 6 false .int := ⟨"ZigzagTablets$Tablet", zT8, 10, zY8, rfl, zi8, zy8, zn8, by decide, rfl, rfl, rfl, (zt_2 _ (zpn (i := 150) rfl)), rfl, rfl, by decide⟩
set_option maxRecDepth 100000 in
theorem f_Tablet_122 : zFld "ZigzagTablets$Tablet" 122 8 7 false .int := ⟨"ZigzagTablets$Tablet", zT8, 10, zY8, rfl, zi8, zy8, zn8, by decide, rfl, rfl, rfl, (zt_2 _ (zpn (i := 152) rfl)), rfl, rfl, by decide⟩
set_option maxRecDepth 100000 in
theorem f_Tape_13 : zFld "ZigzagTablets$Tape" 13 9 1 false .int := ⟨"ZigzagTablets$Tape", zT9, 2, zY9, rfl, zi9, zy9, zn9, by decide, rfl, rfl, rfl, (zt_1 _ (zpn (i := 40) rfl)), rfl, rfl, by decide⟩
set_option maxRecDepth 100000 in
theorem f_Tape_9 : zFld "ZigzagTablets$Tape" 9 9 0 true (.array .int) := ⟨"ZigzagTablets$Tape", zT9, 2, zY9, rfl, zi9, zy9, zn9, by decide, rfl, rfl, rfl, (zt_1 _ (zpn (i := 35) rfl)), rfl, rfl, by decide⟩
set_option maxRecDepth 100000 in
theorem w_Ji_265 : Cond.constant "java/lang/Integer" 265 (Int32.ofInt 1431655765) ∈ lw_tbl := (zt_4 _ (zpn (i := 237) rfl))
set_option maxRecDepth 100000 in
theorem w_Ji_266 : Cond.constant "java/lang/Integer" 266 (Int32.ofInt 858993459) ∈ lw_tbl := (zt_4 _ (zpn (i := 238) rfl))
set_option maxRecDepth 100000 in
theorem w_Ji_267 : Cond.constant "java/lang/Integer" 267 (Int32.ofInt 252645135) ∈ lw_tbl := (zt_4 _ (zpn (i := 239) rfl))
set_option maxRecDepth 100000 in
theorem k_Law_13 : zLnV "ZigzagTabletsLaw" 13 5 y_Zt_feed := ⟨⟨(zt_3 _ (zpn (i := 82) rfl)), (zt_3 _ (zpn (i := 85) rfl)), (zt_1 _ (zpn (i := 1) rfl)), ⟨by decide, by decide, by decide +kernel⟩, by decide⟩, (zt_3 _ (zpn (i := 83) rfl)), (zt_3 _ (zpn (i := 84) rfl))⟩
set_option maxRecDepth 100000 in
theorem k_Law_17 : zLnV "ZigzagTabletsLaw" 17 5 y_Md_feed := ⟨⟨(zt_7 _ (zpn (i := 22) rfl)), (zt_7 _ (zpn (i := 25) rfl)), (zt_1 _ (zpn (i := 15) rfl)), ⟨by decide, by decide, by decide +kernel⟩, by decide⟩, (zt_7 _ (zpn (i := 23) rfl)), (zt_7 _ (zpn (i := 24) rfl))⟩
set_option maxRecDepth 100000 in
theorem k_Law_18 : zLnV "ZigzagTabletsLaw" 18 1 y_Zt_end := ⟨⟨(zt_3 _ (zpn (i := 94) rfl)), (zt_3 _ (zpn (i := 97) rfl)), (zt_1 _ (zpn (i := 1) rfl)), ⟨by decide, by decide, by decide +kernel⟩, by decide⟩, (zt_3 _ (zpn (i := 95) rfl)), (zt_3 _ (zpn (i := 96) rfl))⟩
set_option maxRecDepth 100000 in
theorem k_Law_22 : zLnV "ZigzagTabletsLaw" 22 1 y_Md_end := ⟨⟨(zt_7 _ (zpn (i := 26) rfl)), (zt_7 _ (zpn (i := 29) rfl)), (zt_1 _ (zpn (i := 15) rfl)), ⟨by decide, by decide, by decide +kernel⟩, by decide⟩, (zt_7 _ (zpn (i := 27) rfl)), (zt_7 _ (zpn (i := 28) rfl))⟩
set_option maxRecDepth 100000 in
theorem k_Law_23 : zLnV "ZigzagTabletsLaw" 23 0 y_Zt_tablet := ⟨⟨(zt_3 _ (zpn (i := 102) rfl)), (zt_3 _ (zpn (i := 105) rfl)), (zt_1 _ (zpn (i := 1) rfl)), ⟨by decide, by decide, by decide +kernel⟩, by decide⟩, (zt_3 _ (zpn (i := 103) rfl)), (zt_3 _ (zpn (i := 104) rfl))⟩
set_option maxRecDepth 100000 in
theorem k_Law_27 : zLnV "ZigzagTabletsLaw" 27 0 y_Md_tablet := ⟨⟨(zt_7 _ (zpn (i := 30) rfl)), (zt_7 _ (zpn (i := 33) rfl)), (zt_1 _ (zpn (i := 15) rfl)), ⟨by decide, by decide, by decide +kernel⟩, by decide⟩, (zt_7 _ (zpn (i := 31) rfl)), (zt_7 _ (zpn (i := 32) rfl))⟩
set_option maxRecDepth 100000 in
theorem k_Law_28 : zLnV "ZigzagTabletsLaw" 28 1 y_Zt_fault := ⟨⟨(zt_4 _ (zpn (i := 100) rfl)), (zt_4 _ (zpn (i := 103) rfl)), (zt_1 _ (zpn (i := 1) rfl)), ⟨by decide, by decide, by decide +kernel⟩, by decide⟩, (zt_4 _ (zpn (i := 101) rfl)), (zt_4 _ (zpn (i := 102) rfl))⟩
set_option maxRecDepth 100000 in
theorem k_Law_32 : zLnV "ZigzagTabletsLaw" 32 1 y_Md_fault := ⟨⟨(zt_8 _ (zpn (i := 49) rfl)), (zt_8 _ (zpn (i := 52) rfl)), (zt_1 _ (zpn (i := 15) rfl)), ⟨by decide, by decide, by decide +kernel⟩, by decide⟩, (zt_8 _ (zpn (i := 50) rfl)), (zt_8 _ (zpn (i := 51) rfl))⟩
set_option maxRecDepth 100000 in
theorem k_Law_33 : zLnV "ZigzagTabletsLaw" 33 1 y_Zt_has := ⟨⟨(zt_4 _ (zpn (i := 104) rfl)), (zt_4 _ (zpn (i := 107) rfl)), (zt_1 _ (zpn (i := 1) rfl)), ⟨by decide, by decide, by decide +kernel⟩, by decide⟩, (zt_4 _ (zpn (i := 105) rfl)), (zt_4 _ (zpn (i := 106) rfl))⟩
set_option maxRecDepth 100000 in
theorem k_Law_36 : zLnV "ZigzagTabletsLaw" 36 1 y_Md_has := ⟨⟨(zt_8 _ (zpn (i := 53) rfl)), (zt_8 _ (zpn (i := 56) rfl)), (zt_1 _ (zpn (i := 15) rfl)), ⟨by decide, by decide, by decide +kernel⟩, by decide⟩, (zt_8 _ (zpn (i := 54) rfl)), (zt_8 _ (zpn (i := 55) rfl))⟩
set_option maxRecDepth 100000 in
theorem k_Law_37 : zLnV "ZigzagTabletsLaw" 37 2 y_Zt_letter := ⟨⟨(zt_4 _ (zpn (i := 122) rfl)), (zt_4 _ (zpn (i := 125) rfl)), (zt_1 _ (zpn (i := 1) rfl)), ⟨by decide, by decide, by decide +kernel⟩, by decide⟩, (zt_4 _ (zpn (i := 123) rfl)), (zt_4 _ (zpn (i := 124) rfl))⟩
set_option maxRecDepth 100000 in
theorem k_Law_41 : zLnV "ZigzagTabletsLaw" 41 2 y_Md_letter := ⟨⟨(zt_8 _ (zpn (i := 65) rfl)), (zt_8 _ (zpn (i := 68) rfl)), (zt_1 _ (zpn (i := 15) rfl)), ⟨by decide, by decide, by decide +kernel⟩, by decide⟩, (zt_8 _ (zpn (i := 66) rfl)), (zt_8 _ (zpn (i := 67) rfl))⟩
set_option maxRecDepth 100000 in
theorem k_Law_42 : zLnV "ZigzagTabletsLaw" 42 2 y_Zt_column := ⟨⟨(zt_4 _ (zpn (i := 130) rfl)), (zt_4 _ (zpn (i := 133) rfl)), (zt_1 _ (zpn (i := 1) rfl)), ⟨by decide, by decide, by decide +kernel⟩, by decide⟩, (zt_4 _ (zpn (i := 131) rfl)), (zt_4 _ (zpn (i := 132) rfl))⟩
set_option maxRecDepth 100000 in
theorem k_Law_45 : zLnV "ZigzagTabletsLaw" 45 2 y_Md_column := ⟨⟨(zt_8 _ (zpn (i := 74) rfl)), (zt_8 _ (zpn (i := 77) rfl)), (zt_1 _ (zpn (i := 15) rfl)), ⟨by decide, by decide, by decide +kernel⟩, by decide⟩, (zt_8 _ (zpn (i := 75) rfl)), (zt_8 _ (zpn (i := 76) rfl))⟩
set_option maxRecDepth 100000 in
theorem k_Law_46 : zLnV "ZigzagTabletsLaw" 46 2 y_Zt_value := ⟨⟨(zt_4 _ (zpn (i := 138) rfl)), (zt_4 _ (zpn (i := 141) rfl)), (zt_1 _ (zpn (i := 1) rfl)), ⟨by decide, by decide, by decide +kernel⟩, by decide⟩, (zt_4 _ (zpn (i := 139) rfl)), (zt_4 _ (zpn (i := 140) rfl))⟩
set_option maxRecDepth 100000 in
theorem k_Law_50 : zLnV "ZigzagTabletsLaw" 50 2 y_Md_value := ⟨⟨(zt_8 _ (zpn (i := 86) rfl)), (zt_8 _ (zpn (i := 89) rfl)), (zt_1 _ (zpn (i := 15) rfl)), ⟨by decide, by decide, by decide +kernel⟩, by decide⟩, (zt_8 _ (zpn (i := 87) rfl)), (zt_8 _ (zpn (i := 88) rfl))⟩
set_option maxRecDepth 100000 in
theorem k_Law_51 : zLnV "ZigzagTabletsLaw" 51 2 y_Zt_kept := ⟨⟨(zt_4 _ (zpn (i := 143) rfl)), (zt_4 _ (zpn (i := 146) rfl)), (zt_1 _ (zpn (i := 1) rfl)), ⟨by decide, by decide, by decide +kernel⟩, by decide⟩, (zt_4 _ (zpn (i := 144) rfl)), (zt_4 _ (zpn (i := 145) rfl))⟩
set_option maxRecDepth 100000 in
theorem k_Law_54 : zLnV "ZigzagTabletsLaw" 54 2 y_Md_kept := ⟨⟨(zt_8 _ (zpn (i := 91) rfl)), (zt_8 _ (zpn (i := 94) rfl)), (zt_1 _ (zpn (i := 15) rfl)), ⟨by decide, by decide, by decide +kernel⟩, by decide⟩, (zt_8 _ (zpn (i := 92) rfl)), (zt_8 _ (zpn (i := 93) rfl))⟩
set_option maxRecDepth 100000 in
theorem k_Law_55 : zLnV "ZigzagTabletsLaw" 55 2 y_Zt_later := ⟨⟨(zt_4 _ (zpn (i := 156) rfl)), (zt_4 _ (zpn (i := 159) rfl)), (zt_1 _ (zpn (i := 1) rfl)), ⟨by decide, by decide, by decide +kernel⟩, by decide⟩, (zt_4 _ (zpn (i := 157) rfl)), (zt_4 _ (zpn (i := 158) rfl))⟩
set_option maxRecDepth 100000 in
theorem k_Law_58 : zLnV "ZigzagTabletsLaw" 58 2 y_Md_later := ⟨⟨(zt_8 _ (zpn (i := 95) rfl)), (zt_8 _ (zpn (i := 98) rfl)), (zt_1 _ (zpn (i := 15) rfl)), ⟨by decide, by decide, by decide +kernel⟩, by decide⟩, (zt_8 _ (zpn (i := 96) rfl)), (zt_8 _ (zpn (i := 97) rfl))⟩
set_option maxRecDepth 100000 in
theorem k_Law_59 : zLnV "ZigzagTabletsLaw" 59 3 y_Zt_bounds := ⟨⟨(zt_4 _ (zpn (i := 188) rfl)), (zt_4 _ (zpn (i := 191) rfl)), (zt_1 _ (zpn (i := 1) rfl)), ⟨by decide, by decide, by decide +kernel⟩, by decide⟩, (zt_4 _ (zpn (i := 189) rfl)), (zt_4 _ (zpn (i := 190) rfl))⟩
set_option maxRecDepth 100000 in
theorem k_Law_63 : zLnV "ZigzagTabletsLaw" 63 3 y_Md_bounds := ⟨⟨(zt_8 _ (zpn (i := 120) rfl)), (zt_8 _ (zpn (i := 123) rfl)), (zt_1 _ (zpn (i := 15) rfl)), ⟨by decide, by decide, by decide +kernel⟩, by decide⟩, (zt_8 _ (zpn (i := 121) rfl)), (zt_8 _ (zpn (i := 122) rfl))⟩
set_option maxRecDepth 100000 in
theorem k_Law_64 : zLnV "ZigzagTabletsLaw" 64 1 y_Zt_period := ⟨⟨(zt_4 _ (zpn (i := 192) rfl)), (zt_4 _ (zpn (i := 195) rfl)), (zt_1 _ (zpn (i := 1) rfl)), ⟨by decide, by decide, by decide +kernel⟩, by decide⟩, (zt_4 _ (zpn (i := 193) rfl)), (zt_4 _ (zpn (i := 194) rfl))⟩
set_option maxRecDepth 100000 in
theorem k_Law_67 : zLnV "ZigzagTabletsLaw" 67 1 y_Md_period := ⟨⟨(zt_8 _ (zpn (i := 125) rfl)), (zt_8 _ (zpn (i := 128) rfl)), (zt_1 _ (zpn (i := 15) rfl)), ⟨by decide, by decide, by decide +kernel⟩, by decide⟩, (zt_8 _ (zpn (i := 126) rfl)), (zt_8 _ (zpn (i := 127) rfl))⟩
set_option maxRecDepth 100000 in
theorem k_Law_68 : zLnV "ZigzagTabletsLaw" 68 2 y_Zt_when := ⟨⟨(zt_4 _ (zpn (i := 198) rfl)), (zt_4 _ (zpn (i := 201) rfl)), (zt_1 _ (zpn (i := 1) rfl)), ⟨by decide, by decide, by decide +kernel⟩, by decide⟩, (zt_4 _ (zpn (i := 199) rfl)), (zt_4 _ (zpn (i := 200) rfl))⟩
set_option maxRecDepth 100000 in
theorem k_Law_71 : zLnV "ZigzagTabletsLaw" 71 2 y_Md_when := ⟨⟨(zt_8 _ (zpn (i := 129) rfl)), (zt_8 _ (zpn (i := 132) rfl)), (zt_1 _ (zpn (i := 15) rfl)), ⟨by decide, by decide, by decide +kernel⟩, by decide⟩, (zt_8 _ (zpn (i := 130) rfl)), (zt_8 _ (zpn (i := 131) rfl))⟩
set_option maxRecDepth 100000 in
theorem k_Law_72 : zLnV "ZigzagTabletsLaw" 72 2 y_Zt_meet := ⟨⟨(zt_4 _ (zpn (i := 207) rfl)), (zt_4 _ (zpn (i := 210) rfl)), (zt_1 _ (zpn (i := 1) rfl)), ⟨by decide, by decide, by decide +kernel⟩, by decide⟩, (zt_4 _ (zpn (i := 208) rfl)), (zt_4 _ (zpn (i := 209) rfl))⟩
set_option maxRecDepth 100000 in
theorem k_Law_75 : zLnV "ZigzagTabletsLaw" 75 2 y_Md_meet := ⟨⟨(zt_8 _ (zpn (i := 133) rfl)), (zt_8 _ (zpn (i := 136) rfl)), (zt_1 _ (zpn (i := 15) rfl)), ⟨by decide, by decide, by decide +kernel⟩, by decide⟩, (zt_8 _ (zpn (i := 134) rfl)), (zt_8 _ (zpn (i := 135) rfl))⟩
set_option maxRecDepth 100000 in
theorem k_Law_76 : zLnV "ZigzagTabletsLaw" 76 2 y_Zt_marks := ⟨⟨(zt_4 _ (zpn (i := 211) rfl)), (zt_4 _ (zpn (i := 214) rfl)), (zt_1 _ (zpn (i := 1) rfl)), ⟨by decide, by decide, by decide +kernel⟩, by decide⟩, (zt_4 _ (zpn (i := 212) rfl)), (zt_4 _ (zpn (i := 213) rfl))⟩
set_option maxRecDepth 100000 in
theorem k_Law_79 : zLnV "ZigzagTabletsLaw" 79 2 y_Md_marks := ⟨⟨(zt_8 _ (zpn (i := 137) rfl)), (zt_8 _ (zpn (i := 140) rfl)), (zt_1 _ (zpn (i := 15) rfl)), ⟨by decide, by decide, by decide +kernel⟩, by decide⟩, (zt_8 _ (zpn (i := 138) rfl)), (zt_8 _ (zpn (i := 139) rfl))⟩
set_option maxRecDepth 100000 in
theorem k_Law_80 : zLnV "ZigzagTabletsLaw" 80 1 y_Zt_heal := ⟨⟨(zt_4 _ (zpn (i := 221) rfl)), (zt_4 _ (zpn (i := 224) rfl)), (zt_1 _ (zpn (i := 1) rfl)), ⟨by decide, by decide, by decide +kernel⟩, by decide⟩, (zt_4 _ (zpn (i := 222) rfl)), (zt_4 _ (zpn (i := 223) rfl))⟩
set_option maxRecDepth 100000 in
theorem k_Law_83 : zLnV "ZigzagTabletsLaw" 83 1 y_Md_heal := ⟨⟨(zt_8 _ (zpn (i := 142) rfl)), (zt_8 _ (zpn (i := 145) rfl)), (zt_1 _ (zpn (i := 15) rfl)), ⟨by decide, by decide, by decide +kernel⟩, by decide⟩, (zt_8 _ (zpn (i := 143) rfl)), (zt_8 _ (zpn (i := 144) rfl))⟩
set_option maxRecDepth 100000 in
theorem k_Law_84 : zLnV "ZigzagTabletsLaw" 84 1 y_Zt_odds := ⟨⟨(zt_5 _ (zpn (i := 6) rfl)), (zt_5 _ (zpn (i := 9) rfl)), (zt_1 _ (zpn (i := 1) rfl)), ⟨by decide, by decide, by decide +kernel⟩, by decide⟩, (zt_5 _ (zpn (i := 7) rfl)), (zt_5 _ (zpn (i := 8) rfl))⟩
set_option maxRecDepth 100000 in
theorem k_Law_87 : zLnV "ZigzagTabletsLaw" 87 1 y_Md_odds := ⟨⟨(zt_8 _ (zpn (i := 157) rfl)), (zt_8 _ (zpn (i := 160) rfl)), (zt_1 _ (zpn (i := 15) rfl)), ⟨by decide, by decide, by decide +kernel⟩, by decide⟩, (zt_8 _ (zpn (i := 158) rfl)), (zt_8 _ (zpn (i := 159) rfl))⟩
set_option maxRecDepth 100000 in
theorem k_Law_88 : zLnV "ZigzagTabletsLaw" 88 0 y_Zt_find := ⟨⟨(zt_5 _ (zpn (i := 16) rfl)), (zt_5 _ (zpn (i := 19) rfl)), (zt_1 _ (zpn (i := 1) rfl)), ⟨by decide, by decide, by decide +kernel⟩, by decide⟩, (zt_5 _ (zpn (i := 17) rfl)), (zt_5 _ (zpn (i := 18) rfl))⟩
set_option maxRecDepth 100000 in
theorem k_Law_91 : zLnV "ZigzagTabletsLaw" 91 0 y_Md_find := ⟨⟨(zt_8 _ (zpn (i := 165) rfl)), (zt_8 _ (zpn (i := 168) rfl)), (zt_1 _ (zpn (i := 15) rfl)), ⟨by decide, by decide, by decide +kernel⟩, by decide⟩, (zt_8 _ (zpn (i := 166) rfl)), (zt_8 _ (zpn (i := 167) rfl))⟩
set_option maxRecDepth 100000 in
theorem k_Law_92 : zLnV "ZigzagTabletsLaw" 92 1 y_Zt_fits := ⟨⟨(zt_5 _ (zpn (i := 36) rfl)), (zt_5 _ (zpn (i := 39) rfl)), (zt_1 _ (zpn (i := 1) rfl)), ⟨by decide, by decide, by decide +kernel⟩, by decide⟩, (zt_5 _ (zpn (i := 37) rfl)), (zt_5 _ (zpn (i := 38) rfl))⟩
set_option maxRecDepth 100000 in
theorem k_Law_95 : zLnV "ZigzagTabletsLaw" 95 1 y_Md_fits := ⟨⟨(zt_8 _ (zpn (i := 173) rfl)), (zt_8 _ (zpn (i := 176) rfl)), (zt_1 _ (zpn (i := 15) rfl)), ⟨by decide, by decide, by decide +kernel⟩, by decide⟩, (zt_8 _ (zpn (i := 174) rfl)), (zt_8 _ (zpn (i := 175) rfl))⟩
set_option maxRecDepth 100000 in
theorem k_Law_96 : zLnV "ZigzagTabletsLaw" 96 2 y_Zt_differences := ⟨⟨(zt_5 _ (zpn (i := 49) rfl)), (zt_5 _ (zpn (i := 52) rfl)), (zt_1 _ (zpn (i := 1) rfl)), ⟨by decide, by decide, by decide +kernel⟩, by decide⟩, (zt_5 _ (zpn (i := 50) rfl)), (zt_5 _ (zpn (i := 51) rfl))⟩
set_option maxRecDepth 100000 in
theorem k_Law_99 : zLnV "ZigzagTabletsLaw" 99 2 y_Md_differences := ⟨⟨(zt_8 _ (zpn (i := 181) rfl)), (zt_8 _ (zpn (i := 184) rfl)), (zt_1 _ (zpn (i := 15) rfl)), ⟨by decide, by decide, by decide +kernel⟩, by decide⟩, (zt_8 _ (zpn (i := 182) rfl)), (zt_8 _ (zpn (i := 183) rfl))⟩
set_option maxRecDepth 100000 in
theorem k_Law_100 : zLnV "ZigzagTabletsLaw" 100 1 y_Zt_tells := ⟨⟨(zt_5 _ (zpn (i := 64) rfl)), (zt_5 _ (zpn (i := 67) rfl)), (zt_1 _ (zpn (i := 1) rfl)), ⟨by decide, by decide, by decide +kernel⟩, by decide⟩, (zt_5 _ (zpn (i := 65) rfl)), (zt_5 _ (zpn (i := 66) rfl))⟩
set_option maxRecDepth 100000 in
theorem k_Law_103 : zLnV "ZigzagTabletsLaw" 103 1 y_Md_tells := ⟨⟨(zt_8 _ (zpn (i := 189) rfl)), (zt_8 _ (zpn (i := 192) rfl)), (zt_1 _ (zpn (i := 15) rfl)), ⟨by decide, by decide, by decide +kernel⟩, by decide⟩, (zt_8 _ (zpn (i := 190) rfl)), (zt_8 _ (zpn (i := 191) rfl))⟩
set_option maxRecDepth 100000 in
theorem k_Law_104 : zLnV "ZigzagTabletsLaw" 104 1 y_Zt_write := ⟨⟨(zt_5 _ (zpn (i := 76) rfl)), (zt_5 _ (zpn (i := 79) rfl)), (zt_1 _ (zpn (i := 1) rfl)), ⟨by decide, by decide, by decide +kernel⟩, by decide⟩, (zt_5 _ (zpn (i := 77) rfl)), (zt_5 _ (zpn (i := 78) rfl))⟩
set_option maxRecDepth 100000 in
theorem k_Law_107 : zLnV "ZigzagTabletsLaw" 107 1 y_Md_write := ⟨⟨(zt_8 _ (zpn (i := 201) rfl)), (zt_8 _ (zpn (i := 204) rfl)), (zt_1 _ (zpn (i := 15) rfl)), ⟨by decide, by decide, by decide +kernel⟩, by decide⟩, (zt_8 _ (zpn (i := 202) rfl)), (zt_8 _ (zpn (i := 203) rfl))⟩
set_option maxRecDepth 100000 in
theorem k_Law_108 : zLnV "ZigzagTabletsLaw" 108 2 y_Zt_put := ⟨⟨(zt_5 _ (zpn (i := 97) rfl)), (zt_5 _ (zpn (i := 100) rfl)), (zt_1 _ (zpn (i := 1) rfl)), ⟨by decide, by decide, by decide +kernel⟩, by decide⟩, (zt_5 _ (zpn (i := 98) rfl)), (zt_5 _ (zpn (i := 99) rfl))⟩
set_option maxRecDepth 100000 in
theorem k_Law_112 : zLnV "ZigzagTabletsLaw" 112 2 y_Md_put := ⟨⟨(zt_8 _ (zpn (i := 213) rfl)), (zt_8 _ (zpn (i := 216) rfl)), (zt_1 _ (zpn (i := 15) rfl)), ⟨by decide, by decide, by decide +kernel⟩, by decide⟩, (zt_8 _ (zpn (i := 214) rfl)), (zt_8 _ (zpn (i := 215) rfl))⟩
set_option maxRecDepth 100000 in
theorem k_Law_113 : zLnV "ZigzagTabletsLaw" 113 1 y_Zt_turn := ⟨⟨(zt_5 _ (zpn (i := 102) rfl)), (zt_5 _ (zpn (i := 105) rfl)), (zt_1 _ (zpn (i := 1) rfl)), ⟨by decide, by decide, by decide +kernel⟩, by decide⟩, (zt_5 _ (zpn (i := 103) rfl)), (zt_5 _ (zpn (i := 104) rfl))⟩
set_option maxRecDepth 100000 in
theorem k_Law_116 : zLnV "ZigzagTabletsLaw" 116 1 y_Md_turn := ⟨⟨(zt_8 _ (zpn (i := 221) rfl)), (zt_8 _ (zpn (i := 224) rfl)), (zt_1 _ (zpn (i := 15) rfl)), ⟨by decide, by decide, by decide +kernel⟩, by decide⟩, (zt_8 _ (zpn (i := 222) rfl)), (zt_8 _ (zpn (i := 223) rfl))⟩
set_option maxRecDepth 100000 in
theorem k_Law_117 : zLnV "ZigzagTabletsLaw" 117 1 y_Zt_chance := ⟨⟨(zt_5 _ (zpn (i := 106) rfl)), (zt_5 _ (zpn (i := 109) rfl)), (zt_1 _ (zpn (i := 1) rfl)), ⟨by decide, by decide, by decide +kernel⟩, by decide⟩, (zt_5 _ (zpn (i := 107) rfl)), (zt_5 _ (zpn (i := 108) rfl))⟩
set_option maxRecDepth 100000 in
theorem k_Law_120 : zLnV "ZigzagTabletsLaw" 120 1 y_Md_chance := ⟨⟨(zt_8 _ (zpn (i := 229) rfl)), (zt_8 _ (zpn (i := 232) rfl)), (zt_1 _ (zpn (i := 15) rfl)), ⟨by decide, by decide, by decide +kernel⟩, by decide⟩, (zt_8 _ (zpn (i := 230) rfl)), (zt_8 _ (zpn (i := 231) rfl))⟩
set_option maxRecDepth 100000 in
theorem k_Law_121 : zLnV "ZigzagTabletsLaw" 121 0 y_Zt_undo := ⟨⟨(zt_5 _ (zpn (i := 122) rfl)), (zt_5 _ (zpn (i := 125) rfl)), (zt_1 _ (zpn (i := 1) rfl)), ⟨by decide, by decide, by decide +kernel⟩, by decide⟩, (zt_5 _ (zpn (i := 123) rfl)), (zt_5 _ (zpn (i := 124) rfl))⟩
set_option maxRecDepth 100000 in
theorem k_Law_125 : zLnV "ZigzagTabletsLaw" 125 0 y_Md_undo := ⟨⟨(zt_8 _ (zpn (i := 197) rfl)), (zt_8 _ (zpn (i := 200) rfl)), (zt_1 _ (zpn (i := 15) rfl)), ⟨by decide, by decide, by decide +kernel⟩, by decide⟩, (zt_8 _ (zpn (i := 198) rfl)), (zt_8 _ (zpn (i := 199) rfl))⟩
set_option maxRecDepth 100000 in
theorem k_Law_126 : zLnV "ZigzagTabletsLaw" 126 1 y_Zt_seed := ⟨⟨(zt_5 _ (zpn (i := 130) rfl)), (zt_5 _ (zpn (i := 133) rfl)), (zt_1 _ (zpn (i := 1) rfl)), ⟨by decide, by decide, by decide +kernel⟩, by decide⟩, (zt_5 _ (zpn (i := 131) rfl)), (zt_5 _ (zpn (i := 132) rfl))⟩
set_option maxRecDepth 100000 in
theorem k_Law_129 : zLnV "ZigzagTabletsLaw" 129 1 y_Md_seed := ⟨⟨(zt_8 _ (zpn (i := 225) rfl)), (zt_8 _ (zpn (i := 228) rfl)), (zt_1 _ (zpn (i := 15) rfl)), ⟨by decide, by decide, by decide +kernel⟩, by decide⟩, (zt_8 _ (zpn (i := 226) rfl)), (zt_8 _ (zpn (i := 227) rfl))⟩
set_option maxRecDepth 100000 in
theorem k_Law_130 : zLnV "ZigzagTabletsLaw" 130 0 y_Zt_ask := ⟨⟨(zt_5 _ (zpn (i := 134) rfl)), (zt_5 _ (zpn (i := 137) rfl)), (zt_1 _ (zpn (i := 1) rfl)), ⟨by decide, by decide, by decide +kernel⟩, by decide⟩, (zt_5 _ (zpn (i := 135) rfl)), (zt_5 _ (zpn (i := 136) rfl))⟩
set_option maxRecDepth 100000 in
theorem k_Law_134 : zLnV "ZigzagTabletsLaw" 134 0 y_Md_ask := ⟨⟨(zt_9 _ (zpn (i := 1) rfl)), (zt_9 _ (zpn (i := 4) rfl)), (zt_1 _ (zpn (i := 15) rfl)), ⟨by decide, by decide, by decide +kernel⟩, by decide⟩, (zt_9 _ (zpn (i := 2) rfl)), (zt_9 _ (zpn (i := 3) rfl))⟩
set_option maxRecDepth 100000 in
theorem k_Law_135 : zLnV "ZigzagTabletsLaw" 135 0 y_Zt_image := ⟨⟨(zt_5 _ (zpn (i := 164) rfl)), (zt_5 _ (zpn (i := 167) rfl)), (zt_1 _ (zpn (i := 1) rfl)), ⟨by decide, by decide, by decide +kernel⟩, by decide⟩, (zt_5 _ (zpn (i := 165) rfl)), (zt_5 _ (zpn (i := 166) rfl))⟩
set_option maxRecDepth 100000 in
theorem k_Law_138 : zLnV "ZigzagTabletsLaw" 138 0 y_Md_image := ⟨⟨(zt_9 _ (zpn (i := 30) rfl)), (zt_9 _ (zpn (i := 33) rfl)), (zt_1 _ (zpn (i := 15) rfl)), ⟨by decide, by decide, by decide +kernel⟩, by decide⟩, (zt_9 _ (zpn (i := 31) rfl)), (zt_9 _ (zpn (i := 32) rfl))⟩
set_option maxRecDepth 100000 in
theorem k_Law_139 : zLnV "ZigzagTabletsLaw" 139 1 y_Zt_octet := ⟨⟨(zt_5 _ (zpn (i := 172) rfl)), (zt_5 _ (zpn (i := 175) rfl)), (zt_1 _ (zpn (i := 1) rfl)), ⟨by decide, by decide, by decide +kernel⟩, by decide⟩, (zt_5 _ (zpn (i := 173) rfl)), (zt_5 _ (zpn (i := 174) rfl))⟩
set_option maxRecDepth 100000 in
theorem k_Law_142 : zLnV "ZigzagTabletsLaw" 142 1 y_Md_octet := ⟨⟨(zt_9 _ (zpn (i := 22) rfl)), (zt_9 _ (zpn (i := 25) rfl)), (zt_1 _ (zpn (i := 15) rfl)), ⟨by decide, by decide, by decide +kernel⟩, by decide⟩, (zt_9 _ (zpn (i := 23) rfl)), (zt_9 _ (zpn (i := 24) rfl))⟩
set_option maxRecDepth 100000 in
theorem k_Law_143 : zLnV "ZigzagTabletsLaw" 143 0 y_Zt_on := ⟨⟨(zt_5 _ (zpn (i := 176) rfl)), (zt_5 _ (zpn (i := 179) rfl)), (zt_1 _ (zpn (i := 1) rfl)), ⟨by decide, by decide, by decide +kernel⟩, by decide⟩, (zt_5 _ (zpn (i := 177) rfl)), (zt_5 _ (zpn (i := 178) rfl))⟩
set_option maxRecDepth 100000 in
theorem k_Law_146 : zLnV "ZigzagTabletsLaw" 146 0 y_Md_on := ⟨⟨(zt_9 _ (zpn (i := 46) rfl)), (zt_9 _ (zpn (i := 49) rfl)), (zt_1 _ (zpn (i := 15) rfl)), ⟨by decide, by decide, by decide +kernel⟩, by decide⟩, (zt_9 _ (zpn (i := 47) rfl)), (zt_9 _ (zpn (i := 48) rfl))⟩
set_option maxRecDepth 100000 in
theorem k_Law_147 : zLnV "ZigzagTabletsLaw" 147 1 y_Zt_status := ⟨⟨(zt_5 _ (zpn (i := 185) rfl)), (zt_5 _ (zpn (i := 188) rfl)), (zt_1 _ (zpn (i := 1) rfl)), ⟨by decide, by decide, by decide +kernel⟩, by decide⟩, (zt_5 _ (zpn (i := 186) rfl)), (zt_5 _ (zpn (i := 187) rfl))⟩
set_option maxRecDepth 100000 in
theorem k_Law_150 : zLnV "ZigzagTabletsLaw" 150 1 y_Md_status := ⟨⟨(zt_9 _ (zpn (i := 26) rfl)), (zt_9 _ (zpn (i := 29) rfl)), (zt_1 _ (zpn (i := 15) rfl)), ⟨by decide, by decide, by decide +kernel⟩, by decide⟩, (zt_9 _ (zpn (i := 27) rfl)), (zt_9 _ (zpn (i := 28) rfl))⟩
