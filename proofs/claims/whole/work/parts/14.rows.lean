set_option maxRecDepth 100000 in
theorem f_Zt_10 : zFld "ZigzagTablets" 10 10 0 true (.object "ZigzagTablets$Tape") := ⟨"ZigzagTablets", zT10, 17, zY10, rfl, zi10, zy10, zn10, by decide, rfl, rfl, rfl, zpl (i := 652) (by decide +kernel), rfl, rfl, by decide⟩
set_option maxRecDepth 100000 in
theorem f_Zt_100 : zFld "ZigzagTablets" 100 9 1 false .int := ⟨"ZigzagTablets$Tape", zT9, 2, zY9, rfl, zi9, zy9, zn9, by decide, rfl, rfl, rfl, zpl (i := 181) (by decide +kernel), rfl, rfl, by decide⟩
set_option maxRecDepth 100000 in
theorem k_Zt_107 : zLnV "ZigzagTablets" 107 1 y_Tape_add := ⟨⟨zpl (i := 712) (by decide +kernel), zpl (i := 715) (by decide +kernel), zpl (i := 144) (by decide +kernel), ⟨by decide, by decide, by decide +kernel⟩, by decide⟩, zpl (i := 713) (by decide +kernel), zpl (i := 714) (by decide +kernel)⟩
set_option maxRecDepth 100000 in
theorem k_Zt_103 : zLnV "ZigzagTablets" 103 1 y_Zt_none := ⟨⟨zpl (i := 708) (by decide +kernel), zpl (i := 711) (by decide +kernel), zpl (i := 143) (by decide +kernel), ⟨by decide, by decide, by decide +kernel⟩, by decide⟩, zpl (i := 710) (by decide +kernel), zpl (i := 3) (by decide +kernel)⟩
set_option maxRecDepth 100000 in
theorem k_Zt_110 : zLnV "ZigzagTablets" 110 1 y_Zt_refused := ⟨⟨zpl (i := 720) (by decide +kernel), zpl (i := 723) (by decide +kernel), zpl (i := 143) (by decide +kernel), ⟨by decide, by decide, by decide +kernel⟩, by decide⟩, zpl (i := 722) (by decide +kernel), zpl (i := 4) (by decide +kernel)⟩
set_option maxRecDepth 100000 in
theorem f_Zt_59 : zFld "ZigzagTablets" 59 10 7 true (.object "ZigzagTablets$Reader") := ⟨"ZigzagTablets", zT10, 17, zY10, rfl, zi10, zy10, zn10, by decide, rfl, rfl, rfl, zpl (i := 659) (by decide +kernel), rfl, rfl, by decide⟩
set_option maxRecDepth 100000 in
theorem f_Zt_86 : zFld "ZigzagTablets" 86 10 12 false (.object "ZigzagTablets$Tablet") := ⟨"ZigzagTablets", zT10, 17, zY10, rfl, zi10, zy10, zn10, by decide, rfl, rfl, rfl, zpl (i := 664) (by decide +kernel), rfl, rfl, by decide⟩
set_option maxRecDepth 100000 in
theorem k_Zt_114 : zLnV "ZigzagTablets" 114 1 y_Reader_readTablet := ⟨⟨zpl (i := 728) (by decide +kernel), zpl (i := 731) (by decide +kernel), zpl (i := 149) (by decide +kernel), ⟨by decide, by decide, by decide +kernel⟩, by decide⟩, zpl (i := 729) (by decide +kernel), zpl (i := 730) (by decide +kernel)⟩
set_option maxRecDepth 100000 in
theorem k_Zt_118 : zLnV "ZigzagTablets" 118 0 y_Zt_noteFault := ⟨⟨zpl (i := 957) (by decide +kernel), zpl (i := 960) (by decide +kernel), zpl (i := 143) (by decide +kernel), ⟨by decide, by decide, by decide +kernel⟩, by decide⟩, zpl (i := 959) (by decide +kernel), zpl (i := 37) (by decide +kernel)⟩
set_option maxRecDepth 100000 in
theorem f_Zt_82 : zFld "ZigzagTablets" 82 10 11 false (.object "ZigzagTablets$Tablet") := ⟨"ZigzagTablets", zT10, 17, zY10, rfl, zi10, zy10, zn10, by decide, rfl, rfl, rfl, zpl (i := 663) (by decide +kernel), rfl, rfl, by decide⟩
set_option maxRecDepth 100000 in
theorem k_Zt_97 : zLnV "ZigzagTablets" 97 0 y_Zt_startAgain := ⟨⟨zpl (i := 558) (by decide +kernel), zpl (i := 561) (by decide +kernel), zpl (i := 143) (by decide +kernel), ⟨by decide, by decide, by decide +kernel⟩, by decide⟩, zpl (i := 560) (by decide +kernel), zpl (i := 0) (by decide +kernel)⟩
set_option maxRecDepth 100000 in
theorem f_Zt_121 : zFld "ZigzagTablets" 121 8 3 false .int := ⟨"ZigzagTablets$Tablet", zT8, 10, zY8, rfl, zi8, zy8, zn8, by decide, rfl, rfl, rfl, zpl (i := 525) (by decide +kernel), rfl, rfl, by decide⟩
set_option maxRecDepth 100000 in
theorem f_Zt_89 : zFld "ZigzagTablets" 89 10 15 false .int := ⟨"ZigzagTablets", zT10, 17, zY10, rfl, zi10, zy10, zn10, by decide, rfl, rfl, rfl, zpl (i := 667) (by decide +kernel), rfl, rfl, by decide⟩
set_option maxRecDepth 100000 in
theorem f_Zt_124 : zFld "ZigzagTablets" 124 10 14 false .int := ⟨"ZigzagTablets", zT10, 17, zY10, rfl, zi10, zy10, zn10, by decide, rfl, rfl, rfl, zpl (i := 666) (by decide +kernel), rfl, rfl, by decide⟩
set_option maxRecDepth 100000 in
theorem f_Zt_127 : zFld "ZigzagTablets" 127 8 2 false .int := ⟨"ZigzagTablets$Tablet", zT8, 10, zY8, rfl, zi8, zy8, zn8, by decide, rfl, rfl, rfl, zpl (i := 521) (by decide +kernel), rfl, rfl, by decide⟩
set_option maxRecDepth 100000 in
theorem f_Zt_19 : zFld "ZigzagTablets" 19 10 1 true (.object "ZigzagTablets$Line") := ⟨"ZigzagTablets", zT10, 17, zY10, rfl, zi10, zy10, zn10, by decide, rfl, rfl, rfl, zpl (i := 653) (by decide +kernel), rfl, rfl, by decide⟩
set_option maxRecDepth 100000 in
theorem f_Zt_130 : zFld "ZigzagTablets" 130 4 1 false .int := ⟨"ZigzagTablets$Line", zT4, 3, zY4, rfl, zi4, zy4, zn4, by decide, rfl, rfl, rfl, zpl (i := 206) (by decide +kernel), rfl, rfl, by decide⟩
set_option maxRecDepth 100000 in
theorem k_Zt_133 : zLnV "ZigzagTablets" 133 1 y_Tablet_isMarked := ⟨⟨zpl (i := 970) (by decide +kernel), zpl (i := 973) (by decide +kernel), zpl (i := 153) (by decide +kernel), ⟨by decide, by decide, by decide +kernel⟩, by decide⟩, zpl (i := 971) (by decide +kernel), zpl (i := 972) (by decide +kernel)⟩
set_option maxRecDepth 100000 in
theorem k_Zt_137 : zLnV "ZigzagTablets" 137 0 y_Zt_untrueColumns := ⟨⟨zpl (i := 974) (by decide +kernel), zpl (i := 977) (by decide +kernel), zpl (i := 143) (by decide +kernel), ⟨by decide, by decide, by decide +kernel⟩, by decide⟩, zpl (i := 976) (by decide +kernel), zpl (i := 38) (by decide +kernel)⟩
set_option maxRecDepth 100000 in
theorem f_Zt_41 : zFld "ZigzagTablets" 41 10 5 true (.object "ZigzagTablets$History") := ⟨"ZigzagTablets", zT10, 17, zY10, rfl, zi10, zy10, zn10, by decide, rfl, rfl, rfl, zpl (i := 657) (by decide +kernel), rfl, rfl, by decide⟩
set_option maxRecDepth 100000 in
theorem k_Zt_141 : zLnV "ZigzagTablets" 141 0 y_History_keptTold := ⟨⟨zpl (i := 979) (by decide +kernel), zpl (i := 982) (by decide +kernel), zpl (i := 147) (by decide +kernel), ⟨by decide, by decide, by decide +kernel⟩, by decide⟩, zpl (i := 980) (by decide +kernel), zpl (i := 981) (by decide +kernel)⟩
set_option maxRecDepth 100000 in
theorem f_Zt_50 : zFld "ZigzagTablets" 50 10 6 true (.object "ZigzagTablets$Piece") := ⟨"ZigzagTablets", zT10, 17, zY10, rfl, zi10, zy10, zn10, by decide, rfl, rfl, rfl, zpl (i := 658) (by decide +kernel), rfl, rfl, by decide⟩
set_option maxRecDepth 100000 in
theorem f_Zt_144 : zFld "ZigzagTablets" 144 5 8 false .int := ⟨"ZigzagTablets$Piece", zT5, 17, zY5, rfl, zi5, zy5, zn5, by decide, rfl, rfl, rfl, zpl (i := 294) (by decide +kernel), rfl, rfl, by decide⟩
set_option maxRecDepth 100000 in
theorem f_Zt_147 : zFld "ZigzagTablets" 147 3 6 false .int := ⟨"ZigzagTablets$History", zT3, 7, zY3, rfl, zi3, zy3, zn3, by decide, rfl, rfl, rfl, zpl (i := 259) (by decide +kernel), rfl, rfl, by decide⟩
set_option maxRecDepth 100000 in
theorem k_Zt_150 : zLnV "ZigzagTablets" 150 1 y_Zt_isColumn := ⟨⟨zpl (i := 988) (by decide +kernel), zpl (i := 991) (by decide +kernel), zpl (i := 143) (by decide +kernel), ⟨by decide, by decide, by decide +kernel⟩, by decide⟩, zpl (i := 990) (by decide +kernel), zpl (i := 39) (by decide +kernel)⟩
set_option maxRecDepth 100000 in
theorem f_Zt_153 : zFld "ZigzagTablets" 153 8 0 true (.array (.object "ZigzagTablets$Column")) := ⟨"ZigzagTablets$Tablet", zT8, 10, zY8, rfl, zi8, zy8, zn8, by decide, rfl, rfl, rfl, zpl (i := 515) (by decide +kernel), rfl, rfl, by decide⟩
set_option maxRecDepth 100000 in
theorem f_Zt_157 : zFld "ZigzagTablets" 157 1 0 true (.array .int) := ⟨"ZigzagTablets$Column", zT1, 11, zY1, rfl, zi1, zy1, zn1, by decide, rfl, rfl, rfl, zpl (i := 452) (by decide +kernel), rfl, rfl, by decide⟩
set_option maxRecDepth 100000 in
theorem f_Zt_162 : zFld "ZigzagTablets" 162 1 1 false .int := ⟨"ZigzagTablets$Column", zT1, 11, zY1, rfl, zi1, zy1, zn1, by decide, rfl, rfl, rfl, zpl (i := 457) (by decide +kernel), rfl, rfl, by decide⟩
set_option maxRecDepth 100000 in
theorem k_Zt_165 : zLnV "ZigzagTablets" 165 1 y_Line_goesUp := ⟨⟨zpl (i := 996) (by decide +kernel), zpl (i := 999) (by decide +kernel), zpl (i := 145) (by decide +kernel), ⟨by decide, by decide, by decide +kernel⟩, by decide⟩, zpl (i := 997) (by decide +kernel), zpl (i := 998) (by decide +kernel)⟩
set_option maxRecDepth 100000 in
theorem f_Zt_168 : zFld "ZigzagTablets" 168 1 2 false .int := ⟨"ZigzagTablets$Column", zT1, 11, zY1, rfl, zi1, zy1, zn1, by decide, rfl, rfl, rfl, zpl (i := 462) (by decide +kernel), rfl, rfl, by decide⟩
set_option maxRecDepth 100000 in
theorem f_Zt_171 : zFld "ZigzagTablets" 171 1 3 false .int := ⟨"ZigzagTablets$Column", zT1, 11, zY1, rfl, zi1, zy1, zn1, by decide, rfl, rfl, rfl, zpl (i := 467) (by decide +kernel), rfl, rfl, by decide⟩
set_option maxRecDepth 100000 in
theorem f_Zt_31 : zFld "ZigzagTablets" 31 10 3 true (.object "ZigzagTablets$Course") := ⟨"ZigzagTablets", zT10, 17, zY10, rfl, zi10, zy10, zn10, by decide, rfl, rfl, rfl, zpl (i := 655) (by decide +kernel), rfl, rfl, by decide⟩
set_option maxRecDepth 100000 in
theorem k_Zt_179 : zLnV "ZigzagTablets" 179 2 y_Course_told := ⟨⟨zpl (i := 978) (by decide +kernel), zpl (i := 587) (by decide +kernel), zpl (i := 146) (by decide +kernel), ⟨by decide, by decide, by decide +kernel⟩, by decide⟩, zpl (i := 585) (by decide +kernel), zpl (i := 586) (by decide +kernel)⟩
set_option maxRecDepth 100000 in
theorem f_Zt_176 : zFld "ZigzagTablets" 176 4 0 true (.array .int) := ⟨"ZigzagTablets$Line", zT4, 3, zY4, rfl, zi4, zy4, zn4, by decide, rfl, rfl, rfl, zpl (i := 201) (by decide +kernel), rfl, rfl, by decide⟩
set_option maxRecDepth 100000 in
theorem k_Zt_186 : zLnV "ZigzagTablets" 186 1 y_History_keptUntrue := ⟨⟨zpl (i := 1014) (by decide +kernel), zpl (i := 1017) (by decide +kernel), zpl (i := 147) (by decide +kernel), ⟨by decide, by decide, by decide +kernel⟩, by decide⟩, zpl (i := 1015) (by decide +kernel), zpl (i := 1016) (by decide +kernel)⟩
set_option maxRecDepth 100000 in
theorem k_Zt_183 : zLnV "ZigzagTablets" 183 1 y_History_keptLine := ⟨⟨zpl (i := 1009) (by decide +kernel), zpl (i := 1012) (by decide +kernel), zpl (i := 147) (by decide +kernel), ⟨by decide, by decide, by decide +kernel⟩, by decide⟩, zpl (i := 1010) (by decide +kernel), zpl (i := 1011) (by decide +kernel)⟩
set_option maxRecDepth 100000 in
theorem k_Zt_189 : zLnV "ZigzagTablets" 189 3 y_Zt_isAhead := ⟨⟨zpl (i := 1022) (by decide +kernel), zpl (i := 1025) (by decide +kernel), zpl (i := 143) (by decide +kernel), ⟨by decide, by decide, by decide +kernel⟩, by decide⟩, zpl (i := 1024) (by decide +kernel), zpl (i := 40) (by decide +kernel)⟩
set_option maxRecDepth 100000 in
theorem f_Zt_35 : zFld "ZigzagTablets" 35 10 4 true (.object "ZigzagTablets$Course") := ⟨"ZigzagTablets", zT10, 17, zY10, rfl, zi10, zy10, zn10, by decide, rfl, rfl, rfl, zpl (i := 656) (by decide +kernel), rfl, rfl, by decide⟩
set_option maxRecDepth 100000 in
theorem k_Zt_193 : zLnV "ZigzagTablets" 193 1 y_Course_reach := ⟨⟨zpl (i := 1026) (by decide +kernel), zpl (i := 1029) (by decide +kernel), zpl (i := 146) (by decide +kernel), ⟨by decide, by decide, by decide +kernel⟩, by decide⟩, zpl (i := 1027) (by decide +kernel), zpl (i := 1028) (by decide +kernel)⟩
set_option maxRecDepth 100000 in
theorem f_Zt_23 : zFld "ZigzagTablets" 23 10 2 true (.object "ZigzagTablets$Line") := ⟨"ZigzagTablets", zT10, 17, zY10, rfl, zi10, zy10, zn10, by decide, rfl, rfl, rfl, zpl (i := 654) (by decide +kernel), rfl, rfl, by decide⟩
set_option maxRecDepth 100000 in
theorem k_Zt_196 : zLnV "ZigzagTablets" 196 1 y_Line_copy := ⟨⟨zpl (i := 1058) (by decide +kernel), zpl (i := 631) (by decide +kernel), zpl (i := 145) (by decide +kernel), ⟨by decide, by decide, by decide +kernel⟩, by decide⟩, zpl (i := 629) (by decide +kernel), zpl (i := 630) (by decide +kernel)⟩
set_option maxRecDepth 100000 in
theorem f_Zt_200 : zFld "ZigzagTablets" 200 1 6 false .int := ⟨"ZigzagTablets$Column", zT1, 11, zY1, rfl, zi1, zy1, zn1, by decide, rfl, rfl, rfl, zpl (i := 477) (by decide +kernel), rfl, rfl, by decide⟩
set_option maxRecDepth 100000 in
theorem k_Zt_203 : zLnV "ZigzagTablets" 203 3 y_Tablet_move := ⟨⟨zpl (i := 1059) (by decide +kernel), zpl (i := 1037) (by decide +kernel), zpl (i := 153) (by decide +kernel), ⟨by decide, by decide, by decide +kernel⟩, by decide⟩, zpl (i := 1035) (by decide +kernel), zpl (i := 1036) (by decide +kernel)⟩
set_option maxRecDepth 100000 in
theorem k_Zt_207 : zLnV "ZigzagTablets" 207 0 y_Zt_mostAhead := ⟨⟨zpl (i := 1064) (by decide +kernel), zpl (i := 1067) (by decide +kernel), zpl (i := 143) (by decide +kernel), ⟨by decide, by decide, by decide +kernel⟩, by decide⟩, zpl (i := 1066) (by decide +kernel), zpl (i := 42) (by decide +kernel)⟩
set_option maxRecDepth 100000 in
theorem k_Zt_210 : zLnV "ZigzagTablets" 210 3 y_Course_show := ⟨⟨zpl (i := 1077) (by decide +kernel), zpl (i := 1080) (by decide +kernel), zpl (i := 146) (by decide +kernel), ⟨by decide, by decide, by decide +kernel⟩, by decide⟩, zpl (i := 1078) (by decide +kernel), zpl (i := 1079) (by decide +kernel)⟩
set_option maxRecDepth 100000 in
theorem k_Zt_214 : zLnS "ZigzagTablets" 214 2 y_Jm_max_III := ⟨⟨zpl (i := 1082) (by decide +kernel), zpl (i := 595) (by decide +kernel), zpl (i := 155) (by decide +kernel), ⟨by decide, by decide, by decide +kernel⟩, by decide⟩, zpl (i := 594) (by decide +kernel)⟩
set_option maxRecDepth 100000 in
theorem k_Zt_219 : zLnV "ZigzagTablets" 219 0 y_Zt_columnsAstray := ⟨⟨zpl (i := 1087) (by decide +kernel), zpl (i := 1090) (by decide +kernel), zpl (i := 143) (by decide +kernel), ⟨by decide, by decide, by decide +kernel⟩, by decide⟩, zpl (i := 1089) (by decide +kernel), zpl (i := 43) (by decide +kernel)⟩
set_option maxRecDepth 100000 in
theorem k_Zt_222 : zLnS "ZigzagTablets" 222 1 y_Ji_bitCount := ⟨⟨zpl (i := 1096) (by decide +kernel), zpl (i := 1098) (by decide +kernel), zpl (i := 162) (by decide +kernel), ⟨by decide, by decide, by decide +kernel⟩, by decide⟩, zpl (i := 1097) (by decide +kernel)⟩
set_option maxRecDepth 100000 in
theorem k_Zt_227 : zLnV "ZigzagTablets" 227 2 y_Zt_heals := ⟨⟨zpl (i := 1102) (by decide +kernel), zpl (i := 1105) (by decide +kernel), zpl (i := 143) (by decide +kernel), ⟨by decide, by decide, by decide +kernel⟩, by decide⟩, zpl (i := 1104) (by decide +kernel), zpl (i := 44) (by decide +kernel)⟩
set_option maxRecDepth 100000 in
theorem f_Zt_231 : zFld "ZigzagTablets" 231 8 4 false .int := ⟨"ZigzagTablets$Tablet", zT8, 10, zY8, rfl, zi8, zy8, zn8, by decide, rfl, rfl, rfl, zpl (i := 528) (by decide +kernel), rfl, rfl, by decide⟩
set_option maxRecDepth 100000 in
theorem k_Zt_234 : zLnV "ZigzagTablets" 234 2 y_Column_slipped := ⟨⟨zpl (i := 1112) (by decide +kernel), zpl (i := 1115) (by decide +kernel), zpl (i := 154) (by decide +kernel), ⟨by decide, by decide, by decide +kernel⟩, by decide⟩, zpl (i := 1113) (by decide +kernel), zpl (i := 1114) (by decide +kernel)⟩
set_option maxRecDepth 100000 in
theorem k_Zt_237 : zLnV "ZigzagTablets" 237 2 y_Piece_read := ⟨⟨zpl (i := 1122) (by decide +kernel), zpl (i := 1125) (by decide +kernel), zpl (i := 148) (by decide +kernel), ⟨by decide, by decide, by decide +kernel⟩, by decide⟩, zpl (i := 1123) (by decide +kernel), zpl (i := 1124) (by decide +kernel)⟩
set_option maxRecDepth 100000 in
theorem k_Zt_241 : zLnV "ZigzagTablets" 241 0 y_Piece_listFits := ⟨⟨zpl (i := 1142) (by decide +kernel), zpl (i := 1145) (by decide +kernel), zpl (i := 148) (by decide +kernel), ⟨by decide, by decide, by decide +kernel⟩, by decide⟩, zpl (i := 1143) (by decide +kernel), zpl (i := 1144) (by decide +kernel)⟩
set_option maxRecDepth 100000 in
theorem f_Zt_244 : zFld "ZigzagTablets" 244 5 9 false .int := ⟨"ZigzagTablets$Piece", zT5, 17, zY5, rfl, zi5, zy5, zn5, by decide, rfl, rfl, rfl, zpl (i := 296) (by decide +kernel), rfl, rfl, by decide⟩
set_option maxRecDepth 100000 in
theorem f_Zt_247 : zFld "ZigzagTablets" 247 5 6 true (.array .int) := ⟨"ZigzagTablets$Piece", zT5, 17, zY5, rfl, zi5, zy5, zn5, by decide, rfl, rfl, rfl, zpl (i := 290) (by decide +kernel), rfl, rfl, by decide⟩
set_option maxRecDepth 100000 in
theorem k_Zt_250 : zLnV "ZigzagTablets" 250 2 y_Piece_listDifferences := ⟨⟨zpl (i := 1155) (by decide +kernel), zpl (i := 1158) (by decide +kernel), zpl (i := 148) (by decide +kernel), ⟨by decide, by decide, by decide +kernel⟩, by decide⟩, zpl (i := 1156) (by decide +kernel), zpl (i := 1157) (by decide +kernel)⟩
set_option maxRecDepth 100000 in
theorem f_Zt_254 : zFld "ZigzagTablets" 254 5 10 false .int := ⟨"ZigzagTablets$Piece", zT5, 17, zY5, rfl, zi5, zy5, zn5, by decide, rfl, rfl, rfl, zpl (i := 298) (by decide +kernel), rfl, rfl, by decide⟩
set_option maxRecDepth 100000 in
theorem f_Zt_257 : zFld "ZigzagTablets" 257 5 7 true (.array .int) := ⟨"ZigzagTablets$Piece", zT5, 17, zY5, rfl, zi5, zy5, zn5, by decide, rfl, rfl, rfl, zpl (i := 292) (by decide +kernel), rfl, rfl, by decide⟩
set_option maxRecDepth 100000 in
theorem k_Zt_260 : zLnV "ZigzagTablets" 260 1 y_Piece_weigh := ⟨⟨zpl (i := 1170) (by decide +kernel), zpl (i := 1173) (by decide +kernel), zpl (i := 148) (by decide +kernel), ⟨by decide, by decide, by decide +kernel⟩, by decide⟩, zpl (i := 1171) (by decide +kernel), zpl (i := 1172) (by decide +kernel)⟩
set_option maxRecDepth 100000 in
theorem f_Zt_264 : zFld "ZigzagTablets" 264 5 13 false .int := ⟨"ZigzagTablets$Piece", zT5, 17, zY5, rfl, zi5, zy5, zn5, by decide, rfl, rfl, rfl, zpl (i := 304) (by decide +kernel), rfl, rfl, by decide⟩
set_option maxRecDepth 100000 in
theorem f_Zt_267 : zFld "ZigzagTablets" 267 5 11 false .int := ⟨"ZigzagTablets$Piece", zT5, 17, zY5, rfl, zi5, zy5, zn5, by decide, rfl, rfl, rfl, zpl (i := 300) (by decide +kernel), rfl, rfl, by decide⟩
set_option maxRecDepth 100000 in
theorem f_Zt_270 : zFld "ZigzagTablets" 270 5 12 false .int := ⟨"ZigzagTablets$Piece", zT5, 17, zY5, rfl, zi5, zy5, zn5, by decide, rfl, rfl, rfl, zpl (i := 302) (by decide +kernel), rfl, rfl, by decide⟩
set_option maxRecDepth 100000 in
theorem k_Zt_273 : zLnV "ZigzagTablets" 273 1 y_History_remember := ⟨⟨zpl (i := 1182) (by decide +kernel), zpl (i := 1185) (by decide +kernel), zpl (i := 147) (by decide +kernel), ⟨by decide, by decide, by decide +kernel⟩, by decide⟩, zpl (i := 1183) (by decide +kernel), zpl (i := 1184) (by decide +kernel)⟩
set_option maxRecDepth 100000 in
theorem k_Zt_283 : zLnV "ZigzagTablets" 283 0 y_Zt_settle := ⟨⟨zpl (i := 1195) (by decide +kernel), zpl (i := 1198) (by decide +kernel), zpl (i := 143) (by decide +kernel), ⟨by decide, by decide, by decide +kernel⟩, by decide⟩, zpl (i := 1197) (by decide +kernel), zpl (i := 49) (by decide +kernel)⟩
set_option maxRecDepth 100000 in
theorem k_Zt_276 : zLnV "ZigzagTablets" 276 3 y_Tablet_next := ⟨⟨zpl (i := 1107) (by decide +kernel), zpl (i := 1033) (by decide +kernel), zpl (i := 153) (by decide +kernel), ⟨by decide, by decide, by decide +kernel⟩, by decide⟩, zpl (i := 1031) (by decide +kernel), zpl (i := 1032) (by decide +kernel)⟩
set_option maxRecDepth 100000 in
theorem k_Zt_279 : zLnV "ZigzagTablets" 279 0 y_Zt_keepIfMarked := ⟨⟨zpl (i := 1187) (by decide +kernel), zpl (i := 1190) (by decide +kernel), zpl (i := 143) (by decide +kernel), ⟨by decide, by decide, by decide +kernel⟩, by decide⟩, zpl (i := 1189) (by decide +kernel), zpl (i := 48) (by decide +kernel)⟩
set_option maxRecDepth 100000 in
theorem k_Zt_286 : zLnV "ZigzagTablets" 286 0 y_Column_moves := ⟨⟨zpl (i := 1095) (by decide +kernel), zpl (i := 573) (by decide +kernel), zpl (i := 154) (by decide +kernel), ⟨by decide, by decide, by decide +kernel⟩, by decide⟩, zpl (i := 571) (by decide +kernel), zpl (i := 572) (by decide +kernel)⟩
set_option maxRecDepth 100000 in
theorem k_Zt_289 : zLnV "ZigzagTablets" 289 1 y_Column_canTell := ⟨⟨zpl (i := 1203) (by decide +kernel), zpl (i := 1137) (by decide +kernel), zpl (i := 154) (by decide +kernel), ⟨by decide, by decide, by decide +kernel⟩, by decide⟩, zpl (i := 1135) (by decide +kernel), zpl (i := 1136) (by decide +kernel)⟩
set_option maxRecDepth 100000 in
theorem k_Zt_292 : zLnV "ZigzagTablets" 292 2 y_Line_go := ⟨⟨zpl (i := 1106) (by decide +kernel), zpl (i := 569) (by decide +kernel), zpl (i := 145) (by decide +kernel), ⟨by decide, by decide, by decide +kernel⟩, by decide⟩, zpl (i := 567) (by decide +kernel), zpl (i := 568) (by decide +kernel)⟩
set_option maxRecDepth 100000 in
theorem k_Zt_296 : zLnV "ZigzagTablets" 296 0 y_Zt_slipByTheSeed := ⟨⟨zpl (i := 1212) (by decide +kernel), zpl (i := 1215) (by decide +kernel), zpl (i := 143) (by decide +kernel), ⟨by decide, by decide, by decide +kernel⟩, by decide⟩, zpl (i := 1214) (by decide +kernel), zpl (i := 50) (by decide +kernel)⟩
set_option maxRecDepth 100000 in
theorem k_Zt_299 : zLnV "ZigzagTablets" 299 1 y_History_goBack := ⟨⟨zpl (i := 1228) (by decide +kernel), zpl (i := 1231) (by decide +kernel), zpl (i := 147) (by decide +kernel), ⟨by decide, by decide, by decide +kernel⟩, by decide⟩, zpl (i := 1229) (by decide +kernel), zpl (i := 1230) (by decide +kernel)⟩
set_option maxRecDepth 100000 in
theorem f_Zt_93 : zFld "ZigzagTablets" 93 10 16 false .long := ⟨"ZigzagTablets", zT10, 17, zY10, rfl, zi10, zy10, zn10, by decide, rfl, rfl, rfl, zpl (i := 668) (by decide +kernel), rfl, rfl, by decide⟩
set_option maxRecDepth 100000 in
theorem k_Zt_302 : zLnV "ZigzagTablets" 302 0 y_Reader_readQuestion := ⟨⟨zpl (i := 1240) (by decide +kernel), zpl (i := 1243) (by decide +kernel), zpl (i := 149) (by decide +kernel), ⟨by decide, by decide, by decide +kernel⟩, by decide⟩, zpl (i := 1241) (by decide +kernel), zpl (i := 1242) (by decide +kernel)⟩
set_option maxRecDepth 100000 in
theorem f_Zt_68 : zFld "ZigzagTablets" 68 10 8 true (.object "ZigzagTablets$Question") := ⟨"ZigzagTablets", zT10, 17, zY10, rfl, zi10, zy10, zn10, by decide, rfl, rfl, rfl, zpl (i := 660) (by decide +kernel), rfl, rfl, by decide⟩
set_option maxRecDepth 100000 in
theorem f_Zt_305 : zFld "ZigzagTablets" 305 7 2 false .int := ⟨"ZigzagTablets$Reader", zT7, 12, zY7, rfl, zi7, zy7, zn7, by decide, rfl, rfl, rfl, zpl (i := 372) (by decide +kernel), rfl, rfl, by decide⟩
set_option maxRecDepth 100000 in
theorem f_Zt_308 : zFld "ZigzagTablets" 308 7 1 true (.object "ZigzagTablets$Code") := ⟨"ZigzagTablets$Reader", zT7, 12, zY7, rfl, zi7, zy7, zn7, by decide, rfl, rfl, rfl, zpl (i := 370) (by decide +kernel), rfl, rfl, by decide⟩
set_option maxRecDepth 100000 in
theorem k_Zt_312 : zLnV "ZigzagTablets" 312 3 y_Question_answer := ⟨⟨zpl (i := 1254) (by decide +kernel), zpl (i := 1257) (by decide +kernel), zpl (i := 152) (by decide +kernel), ⟨by decide, by decide, by decide +kernel⟩, by decide⟩, zpl (i := 1255) (by decide +kernel), zpl (i := 1256) (by decide +kernel)⟩
set_option maxRecDepth 100000 in
theorem f_Zt_72 : zFld "ZigzagTablets" 72 10 9 true (.array .int) := ⟨"ZigzagTablets", zT10, 17, zY10, rfl, zi10, zy10, zn10, by decide, rfl, rfl, rfl, zpl (i := 661) (by decide +kernel), rfl, rfl, by decide⟩
set_option maxRecDepth 100000 in
theorem k_Zt_317 : zLnS "ZigzagTablets" 317 2 y_Zt_sealOf := ⟨⟨zpl (i := 1271) (by decide +kernel), zpl (i := 1273) (by decide +kernel), zpl (i := 143) (by decide +kernel), ⟨by decide, by decide, by decide +kernel⟩, by decide⟩, zpl (i := 1272) (by decide +kernel)⟩
set_option maxRecDepth 100000 in
theorem f_Zt_321 : zFld "ZigzagTablets" 321 10 13 false .int := ⟨"ZigzagTablets", zT10, 17, zY10, rfl, zi10, zy10, zn10, by decide, rfl, rfl, rfl, zpl (i := 665) (by decide +kernel), rfl, rfl, by decide⟩
set_option maxRecDepth 100000 in
theorem k_Zt_324 : zLnV "ZigzagTablets" 324 1 y_Zt_readImage := ⟨⟨zpl (i := 1282) (by decide +kernel), zpl (i := 1285) (by decide +kernel), zpl (i := 143) (by decide +kernel), ⟨by decide, by decide, by decide +kernel⟩, by decide⟩, zpl (i := 1284) (by decide +kernel), zpl (i := 54) (by decide +kernel)⟩
set_option maxRecDepth 100000 in
theorem k_Zt_327 : zLnV "ZigzagTablets" 327 0 y_History_forget := ⟨⟨zpl (i := 640) (by decide +kernel), zpl (i := 643) (by decide +kernel), zpl (i := 147) (by decide +kernel), ⟨by decide, by decide, by decide +kernel⟩, by decide⟩, zpl (i := 641) (by decide +kernel), zpl (i := 642) (by decide +kernel)⟩
set_option maxRecDepth 100000 in
theorem f_Zt_76 : zFld "ZigzagTablets" 76 10 10 true (.array .int) := ⟨"ZigzagTablets", zT10, 17, zY10, rfl, zi10, zy10, zn10, by decide, rfl, rfl, rfl, zpl (i := 662) (by decide +kernel), rfl, rfl, by decide⟩
set_option maxRecDepth 100000 in
theorem f_Zt_330 : zFld "ZigzagTablets" 330 7 3 false .int := ⟨"ZigzagTablets$Reader", zT7, 12, zY7, rfl, zi7, zy7, zn7, by decide, rfl, rfl, rfl, zpl (i := 374) (by decide +kernel), rfl, rfl, by decide⟩
set_option maxRecDepth 100000 in
theorem f_Zt_333 : zFld "ZigzagTablets" 333 7 4 false .int := ⟨"ZigzagTablets$Reader", zT7, 12, zY7, rfl, zi7, zy7, zn7, by decide, rfl, rfl, rfl, zpl (i := 376) (by decide +kernel), rfl, rfl, by decide⟩
set_option maxRecDepth 100000 in
theorem k_Zt_334 : zLnV "ZigzagTablets" 334 1 y_Tablet_begin := ⟨⟨zpl (i := 562) (by decide +kernel), zpl (i := 565) (by decide +kernel), zpl (i := 153) (by decide +kernel), ⟨by decide, by decide, by decide +kernel⟩, by decide⟩, zpl (i := 563) (by decide +kernel), zpl (i := 564) (by decide +kernel)⟩
set_option maxRecDepth 100000 in
theorem k_Zt_337 : zLnV "ZigzagTablets" 337 2 y_Course_begin := ⟨⟨zpl (i := 624) (by decide +kernel), zpl (i := 627) (by decide +kernel), zpl (i := 146) (by decide +kernel), ⟨by decide, by decide, by decide +kernel⟩, by decide⟩, zpl (i := 625) (by decide +kernel), zpl (i := 626) (by decide +kernel)⟩
set_option maxRecDepth 100000 in
theorem k_Zt_340 : zLnV "ZigzagTablets" 340 0 y_Piece_forget := ⟨⟨zpl (i := 644) (by decide +kernel), zpl (i := 647) (by decide +kernel), zpl (i := 148) (by decide +kernel), ⟨by decide, by decide, by decide +kernel⟩, by decide⟩, zpl (i := 645) (by decide +kernel), zpl (i := 646) (by decide +kernel)⟩
set_option maxRecDepth 100000 in
theorem k_Zt_341 : zLnS "ZigzagTablets" 341 2 y_Jm_min_III := ⟨⟨zpl (i := 1068) (by decide +kernel), zpl (i := 592) (by decide +kernel), zpl (i := 155) (by decide +kernel), ⟨by decide, by decide, by decide +kernel⟩, by decide⟩, zpl (i := 591) (by decide +kernel)⟩
set_option maxRecDepth 100000 in
theorem k_Zt_344 : zLnV "ZigzagTablets" 344 2 y_History_keep := ⟨⟨zpl (i := 1191) (by decide +kernel), zpl (i := 1194) (by decide +kernel), zpl (i := 147) (by decide +kernel), ⟨by decide, by decide, by decide +kernel⟩, by decide⟩, zpl (i := 1192) (by decide +kernel), zpl (i := 1193) (by decide +kernel)⟩
set_option maxRecDepth 100000 in
theorem k_Zt_348 : zLnV "ZigzagTablets" 348 2 y_Course_goesUp := ⟨⟨zpl (i := 1091) (by decide +kernel), zpl (i := 1094) (by decide +kernel), zpl (i := 146) (by decide +kernel), ⟨by decide, by decide, by decide +kernel⟩, by decide⟩, zpl (i := 1092) (by decide +kernel), zpl (i := 1093) (by decide +kernel)⟩
set_option maxRecDepth 100000 in
theorem k_Zt_358 : zLnV "ZigzagTablets" 358 1 y_Zt_draw := ⟨⟨zpl (i := 1216) (by decide +kernel), zpl (i := 1219) (by decide +kernel), zpl (i := 143) (by decide +kernel), ⟨by decide, by decide, by decide +kernel⟩, by decide⟩, zpl (i := 1218) (by decide +kernel), zpl (i := 51) (by decide +kernel)⟩
set_option maxRecDepth 100000 in
theorem f_Zt_361 : zFld "ZigzagTablets" 361 9 0 true (.array .int) := ⟨"ZigzagTablets$Tape", zT9, 2, zY9, rfl, zi9, zy9, zn9, by decide, rfl, rfl, rfl, zpl (i := 180) (by decide +kernel), rfl, rfl, by decide⟩
set_option maxRecDepth 100000 in
theorem f_Zt_364 : zFld "ZigzagTablets" 364 4 2 false .int := ⟨"ZigzagTablets$Line", zT4, 3, zY4, rfl, zi4, zy4, zn4, by decide, rfl, rfl, rfl, zpl (i := 211) (by decide +kernel), rfl, rfl, by decide⟩
set_option maxRecDepth 100000 in
theorem k_Zt_367 : zLnV "ZigzagTablets" 367 1 y_Tape_pair := ⟨⟨zpl (i := 1286) (by decide +kernel), zpl (i := 1133) (by decide +kernel), zpl (i := 144) (by decide +kernel), ⟨by decide, by decide, by decide +kernel⟩, by decide⟩, zpl (i := 1131) (by decide +kernel), zpl (i := 1132) (by decide +kernel)⟩
set_option maxRecDepth 100000 in
theorem f_Md_234 : zFld "ZigzagTabletsModel" 234 11 1 false .int := ⟨"ZigzagTabletsModel", zT11, 101, zY11, rfl, zi11, zy11, zn11, by decide, rfl, rfl, rfl, zpl (i := 1298) (by decide +kernel), rfl, rfl, by decide⟩
set_option maxRecDepth 100000 in
theorem f_Md_17 : zFld "ZigzagTabletsModel" 17 11 9 true (.array .int) := ⟨"ZigzagTabletsModel", zT11, 101, zY11, rfl, zi11, zy11, zn11, by decide, rfl, rfl, rfl, zpl (i := 1306) (by decide +kernel), rfl, rfl, by decide⟩
set_option maxRecDepth 100000 in
theorem f_Md_7 : zFld "ZigzagTabletsModel" 7 11 0 true (.array .int) := ⟨"ZigzagTabletsModel", zT11, 101, zY11, rfl, zi11, zy11, zn11, by decide, rfl, rfl, rfl, zpl (i := 1297) (by decide +kernel), rfl, rfl, by decide⟩
set_option maxRecDepth 100000 in
theorem f_Md_237 : zFld "ZigzagTabletsModel" 237 11 5 false .int := ⟨"ZigzagTabletsModel", zT11, 101, zY11, rfl, zi11, zy11, zn11, by decide, rfl, rfl, rfl, zpl (i := 1302) (by decide +kernel), rfl, rfl, by decide⟩
set_option maxRecDepth 100000 in
theorem f_Md_240 : zFld "ZigzagTabletsModel" 240 11 6 false .int := ⟨"ZigzagTabletsModel", zT11, 101, zY11, rfl, zi11, zy11, zn11, by decide, rfl, rfl, rfl, zpl (i := 1303) (by decide +kernel), rfl, rfl, by decide⟩
set_option maxRecDepth 100000 in
theorem f_Md_243 : zFld "ZigzagTabletsModel" 243 11 2 false .int := ⟨"ZigzagTabletsModel", zT11, 101, zY11, rfl, zi11, zy11, zn11, by decide, rfl, rfl, rfl, zpl (i := 1299) (by decide +kernel), rfl, rfl, by decide⟩
set_option maxRecDepth 100000 in
theorem f_Md_246 : zFld "ZigzagTabletsModel" 246 11 3 false .int := ⟨"ZigzagTabletsModel", zT11, 101, zY11, rfl, zi11, zy11, zn11, by decide, rfl, rfl, rfl, zpl (i := 1300) (by decide +kernel), rfl, rfl, by decide⟩
set_option maxRecDepth 100000 in
theorem k_Md_249 : zLnV "ZigzagTabletsModel" 249 0 y_Md_look := ⟨⟨zpl (i := 1616) (by decide +kernel), zpl (i := 1619) (by decide +kernel), zpl (i := 157) (by decide +kernel), ⟨by decide, by decide, by decide +kernel⟩, by decide⟩, zpl (i := 1618) (by decide +kernel), zpl (i := 55) (by decide +kernel)⟩
set_option maxRecDepth 100000 in
theorem k_Md_253 : zLnS "ZigzagTabletsModel" 253 1 y_Md_isLetter := ⟨⟨zpl (i := 1636) (by decide +kernel), zpl (i := 1638) (by decide +kernel), zpl (i := 157) (by decide +kernel), ⟨by decide, by decide, by decide +kernel⟩, by decide⟩, zpl (i := 1637) (by decide +kernel)⟩
set_option maxRecDepth 100000 in
theorem f_Md_257 : zFld "ZigzagTabletsModel" 257 11 4 false .int := ⟨"ZigzagTabletsModel", zT11, 101, zY11, rfl, zi11, zy11, zn11, by decide, rfl, rfl, rfl, zpl (i := 1301) (by decide +kernel), rfl, rfl, by decide⟩
set_option maxRecDepth 100000 in
theorem k_Md_260 : zLnV "ZigzagTabletsModel" 260 1 y_Md_isHere := ⟨⟨zpl (i := 1632) (by decide +kernel), zpl (i := 1635) (by decide +kernel), zpl (i := 157) (by decide +kernel), ⟨by decide, by decide, by decide +kernel⟩, by decide⟩, zpl (i := 1634) (by decide +kernel), zpl (i := 59) (by decide +kernel)⟩
set_option maxRecDepth 100000 in
theorem k_Md_264 : zLnV "ZigzagTabletsModel" 264 1 y_Md_takes := ⟨⟨zpl (i := 1628) (by decide +kernel), zpl (i := 1631) (by decide +kernel), zpl (i := 157) (by decide +kernel), ⟨by decide, by decide, by decide +kernel⟩, by decide⟩, zpl (i := 1630) (by decide +kernel), zpl (i := 58) (by decide +kernel)⟩
set_option maxRecDepth 100000 in
theorem k_Md_267 : zLnV "ZigzagTabletsModel" 267 2 y_Md_fail := ⟨⟨zpl (i := 1624) (by decide +kernel), zpl (i := 1627) (by decide +kernel), zpl (i := 157) (by decide +kernel), ⟨by decide, by decide, by decide +kernel⟩, by decide⟩, zpl (i := 1626) (by decide +kernel), zpl (i := 57) (by decide +kernel)⟩
set_option maxRecDepth 100000 in
theorem k_Md_271 : zLnV "ZigzagTabletsModel" 271 1 y_Md_takesSign := ⟨⟨zpl (i := 1735) (by decide +kernel), zpl (i := 1738) (by decide +kernel), zpl (i := 157) (by decide +kernel), ⟨by decide, by decide, by decide +kernel⟩, by decide⟩, zpl (i := 1737) (by decide +kernel), zpl (i := 82) (by decide +kernel)⟩
set_option maxRecDepth 100000 in
theorem k_Md_274 : zLnS "ZigzagTabletsModel" 274 1 y_Md_isDigit := ⟨⟨zpl (i := 1677) (by decide +kernel), zpl (i := 1679) (by decide +kernel), zpl (i := 157) (by decide +kernel), ⟨by decide, by decide, by decide +kernel⟩, by decide⟩, zpl (i := 1678) (by decide +kernel)⟩
set_option maxRecDepth 100000 in
theorem f_Md_277 : zFld "ZigzagTabletsModel" 277 11 10 false .int := ⟨"ZigzagTabletsModel", zT11, 101, zY11, rfl, zi11, zy11, zn11, by decide, rfl, rfl, rfl, zpl (i := 1307) (by decide +kernel), rfl, rfl, by decide⟩
set_option maxRecDepth 100000 in
theorem k_Md_280 : zLnS "ZigzagTabletsModel" 280 3 y_Md_isIn := ⟨⟨zpl (i := 1680) (by decide +kernel), zpl (i := 1682) (by decide +kernel), zpl (i := 157) (by decide +kernel), ⟨by decide, by decide, by decide +kernel⟩, by decide⟩, zpl (i := 1681) (by decide +kernel)⟩
set_option maxRecDepth 100000 in
theorem f_Md_20 : zFld "ZigzagTabletsModel" 20 11 11 true (.array .char) := ⟨"ZigzagTabletsModel", zT11, 101, zY11, rfl, zi11, zy11, zn11, by decide, rfl, rfl, rfl, zpl (i := 1308) (by decide +kernel), rfl, rfl, by decide⟩
set_option maxRecDepth 100000 in
theorem f_Md_24 : zFld "ZigzagTabletsModel" 24 11 12 true (.array .char) := ⟨"ZigzagTabletsModel", zT11, 101, zY11, rfl, zi11, zy11, zn11, by decide, rfl, rfl, rfl, zpl (i := 1309) (by decide +kernel), rfl, rfl, by decide⟩
set_option maxRecDepth 100000 in
theorem f_Md_27 : zFld "ZigzagTabletsModel" 27 11 13 true (.array .char) := ⟨"ZigzagTabletsModel", zT11, 101, zY11, rfl, zi11, zy11, zn11, by decide, rfl, rfl, rfl, zpl (i := 1310) (by decide +kernel), rfl, rfl, by decide⟩
set_option maxRecDepth 100000 in
theorem f_Md_30 : zFld "ZigzagTabletsModel" 30 11 14 true (.array .char) := ⟨"ZigzagTabletsModel", zT11, 101, zY11, rfl, zi11, zy11, zn11, by decide, rfl, rfl, rfl, zpl (i := 1311) (by decide +kernel), rfl, rfl, by decide⟩
set_option maxRecDepth 100000 in
theorem f_Md_33 : zFld "ZigzagTabletsModel" 33 11 15 true (.array .char) := ⟨"ZigzagTabletsModel", zT11, 101, zY11, rfl, zi11, zy11, zn11, by decide, rfl, rfl, rfl, zpl (i := 1312) (by decide +kernel), rfl, rfl, by decide⟩
set_option maxRecDepth 100000 in
theorem f_Md_36 : zFld "ZigzagTabletsModel" 36 11 16 true (.array .char) := ⟨"ZigzagTabletsModel", zT11, 101, zY11, rfl, zi11, zy11, zn11, by decide, rfl, rfl, rfl, zpl (i := 1313) (by decide +kernel), rfl, rfl, by decide⟩
set_option maxRecDepth 100000 in
theorem f_Md_39 : zFld "ZigzagTabletsModel" 39 11 17 true (.array .char) := ⟨"ZigzagTabletsModel", zT11, 101, zY11, rfl, zi11, zy11, zn11, by decide, rfl, rfl, rfl, zpl (i := 1314) (by decide +kernel), rfl, rfl, by decide⟩
set_option maxRecDepth 100000 in
theorem f_Md_42 : zFld "ZigzagTabletsModel" 42 11 18 true (.array .char) := ⟨"ZigzagTabletsModel", zT11, 101, zY11, rfl, zi11, zy11, zn11, by decide, rfl, rfl, rfl, zpl (i := 1315) (by decide +kernel), rfl, rfl, by decide⟩
set_option maxRecDepth 100000 in
theorem f_Md_45 : zFld "ZigzagTabletsModel" 45 11 19 true (.array .char) := ⟨"ZigzagTabletsModel", zT11, 101, zY11, rfl, zi11, zy11, zn11, by decide, rfl, rfl, rfl, zpl (i := 1316) (by decide +kernel), rfl, rfl, by decide⟩
set_option maxRecDepth 100000 in
theorem f_Md_48 : zFld "ZigzagTabletsModel" 48 11 20 true (.array .char) := ⟨"ZigzagTabletsModel", zT11, 101, zY11, rfl, zi11, zy11, zn11, by decide, rfl, rfl, rfl, zpl (i := 1317) (by decide +kernel), rfl, rfl, by decide⟩
set_option maxRecDepth 100000 in
theorem f_Md_51 : zFld "ZigzagTabletsModel" 51 11 21 true (.array .char) := ⟨"ZigzagTabletsModel", zT11, 101, zY11, rfl, zi11, zy11, zn11, by decide, rfl, rfl, rfl, zpl (i := 1318) (by decide +kernel), rfl, rfl, by decide⟩
set_option maxRecDepth 100000 in
theorem f_Md_54 : zFld "ZigzagTabletsModel" 54 11 22 true (.array .char) := ⟨"ZigzagTabletsModel", zT11, 101, zY11, rfl, zi11, zy11, zn11, by decide, rfl, rfl, rfl, zpl (i := 1319) (by decide +kernel), rfl, rfl, by decide⟩
set_option maxRecDepth 100000 in
theorem f_Md_57 : zFld "ZigzagTabletsModel" 57 11 23 true (.array .char) := ⟨"ZigzagTabletsModel", zT11, 101, zY11, rfl, zi11, zy11, zn11, by decide, rfl, rfl, rfl, zpl (i := 1320) (by decide +kernel), rfl, rfl, by decide⟩
set_option maxRecDepth 100000 in
theorem f_Md_60 : zFld "ZigzagTabletsModel" 60 11 24 true (.array .char) := ⟨"ZigzagTabletsModel", zT11, 101, zY11, rfl, zi11, zy11, zn11, by decide, rfl, rfl, rfl, zpl (i := 1321) (by decide +kernel), rfl, rfl, by decide⟩
set_option maxRecDepth 100000 in
theorem f_Md_63 : zFld "ZigzagTabletsModel" 63 11 25 true (.array .char) := ⟨"ZigzagTabletsModel", zT11, 101, zY11, rfl, zi11, zy11, zn11, by decide, rfl, rfl, rfl, zpl (i := 1322) (by decide +kernel), rfl, rfl, by decide⟩
set_option maxRecDepth 100000 in
theorem f_Md_66 : zFld "ZigzagTabletsModel" 66 11 26 true (.array .char) := ⟨"ZigzagTabletsModel", zT11, 101, zY11, rfl, zi11, zy11, zn11, by decide, rfl, rfl, rfl, zpl (i := 1323) (by decide +kernel), rfl, rfl, by decide⟩
set_option maxRecDepth 100000 in
theorem f_Md_69 : zFld "ZigzagTabletsModel" 69 11 27 true (.array .char) := ⟨"ZigzagTabletsModel", zT11, 101, zY11, rfl, zi11, zy11, zn11, by decide, rfl, rfl, rfl, zpl (i := 1324) (by decide +kernel), rfl, rfl, by decide⟩
set_option maxRecDepth 100000 in
theorem f_Md_72 : zFld "ZigzagTabletsModel" 72 11 28 true (.array .char) := ⟨"ZigzagTabletsModel", zT11, 101, zY11, rfl, zi11, zy11, zn11, by decide, rfl, rfl, rfl, zpl (i := 1325) (by decide +kernel), rfl, rfl, by decide⟩
set_option maxRecDepth 100000 in
theorem f_Md_75 : zFld "ZigzagTabletsModel" 75 11 29 true (.array .char) := ⟨"ZigzagTabletsModel", zT11, 101, zY11, rfl, zi11, zy11, zn11, by decide, rfl, rfl, rfl, zpl (i := 1326) (by decide +kernel), rfl, rfl, by decide⟩
set_option maxRecDepth 100000 in
theorem f_Md_78 : zFld "ZigzagTabletsModel" 78 11 30 true (.array .char) := ⟨"ZigzagTabletsModel", zT11, 101, zY11, rfl, zi11, zy11, zn11, by decide, rfl, rfl, rfl, zpl (i := 1327) (by decide +kernel), rfl, rfl, by decide⟩
set_option maxRecDepth 100000 in
theorem f_Md_81 : zFld "ZigzagTabletsModel" 81 11 31 true (.array .char) := ⟨"ZigzagTabletsModel", zT11, 101, zY11, rfl, zi11, zy11, zn11, by decide, rfl, rfl, rfl, zpl (i := 1328) (by decide +kernel), rfl, rfl, by decide⟩
set_option maxRecDepth 100000 in
theorem f_Md_84 : zFld "ZigzagTabletsModel" 84 11 32 true (.array .char) := ⟨"ZigzagTabletsModel", zT11, 101, zY11, rfl, zi11, zy11, zn11, by decide, rfl, rfl, rfl, zpl (i := 1329) (by decide +kernel), rfl, rfl, by decide⟩
set_option maxRecDepth 100000 in
theorem f_Md_87 : zFld "ZigzagTabletsModel" 87 11 33 true (.array .char) := ⟨"ZigzagTabletsModel", zT11, 101, zY11, rfl, zi11, zy11, zn11, by decide, rfl, rfl, rfl, zpl (i := 1330) (by decide +kernel), rfl, rfl, by decide⟩
set_option maxRecDepth 100000 in
theorem f_Md_90 : zFld "ZigzagTabletsModel" 90 11 34 true (.array .char) := ⟨"ZigzagTabletsModel", zT11, 101, zY11, rfl, zi11, zy11, zn11, by decide, rfl, rfl, rfl, zpl (i := 1331) (by decide +kernel), rfl, rfl, by decide⟩
set_option maxRecDepth 100000 in
theorem f_Md_93 : zFld "ZigzagTabletsModel" 93 11 35 true (.array .char) := ⟨"ZigzagTabletsModel", zT11, 101, zY11, rfl, zi11, zy11, zn11, by decide, rfl, rfl, rfl, zpl (i := 1332) (by decide +kernel), rfl, rfl, by decide⟩
set_option maxRecDepth 100000 in
theorem f_Md_96 : zFld "ZigzagTabletsModel" 96 11 36 true (.array .char) := ⟨"ZigzagTabletsModel", zT11, 101, zY11, rfl, zi11, zy11, zn11, by decide, rfl, rfl, rfl, zpl (i := 1333) (by decide +kernel), rfl, rfl, by decide⟩
set_option maxRecDepth 100000 in
theorem f_Md_99 : zFld "ZigzagTabletsModel" 99 11 37 true (.array .char) := ⟨"ZigzagTabletsModel", zT11, 101, zY11, rfl, zi11, zy11, zn11, by decide, rfl, rfl, rfl, zpl (i := 1334) (by decide +kernel), rfl, rfl, by decide⟩
set_option maxRecDepth 100000 in
theorem f_Md_102 : zFld "ZigzagTabletsModel" 102 11 38 true (.array .char) := ⟨"ZigzagTabletsModel", zT11, 101, zY11, rfl, zi11, zy11, zn11, by decide, rfl, rfl, rfl, zpl (i := 1335) (by decide +kernel), rfl, rfl, by decide⟩
set_option maxRecDepth 100000 in
theorem f_Md_105 : zFld "ZigzagTabletsModel" 105 11 39 true (.array .char) := ⟨"ZigzagTabletsModel", zT11, 101, zY11, rfl, zi11, zy11, zn11, by decide, rfl, rfl, rfl, zpl (i := 1336) (by decide +kernel), rfl, rfl, by decide⟩
set_option maxRecDepth 100000 in
theorem f_Md_108 : zFld "ZigzagTabletsModel" 108 11 40 true (.array .char) := ⟨"ZigzagTabletsModel", zT11, 101, zY11, rfl, zi11, zy11, zn11, by decide, rfl, rfl, rfl, zpl (i := 1337) (by decide +kernel), rfl, rfl, by decide⟩
set_option maxRecDepth 100000 in
theorem k_Md_284 : zLnV "ZigzagTabletsModel" 284 0 y_Md_isOwnHere := ⟨⟨zpl (i := 1655) (by decide +kernel), zpl (i := 1658) (by decide +kernel), zpl (i := 157) (by decide +kernel), ⟨by decide, by decide, by decide +kernel⟩, by decide⟩, zpl (i := 1657) (by decide +kernel), zpl (i := 64) (by decide +kernel)⟩
set_option maxRecDepth 100000 in
theorem f_Md_288 : zFld "ZigzagTabletsModel" 288 11 41 false .int := ⟨"ZigzagTabletsModel", zT11, 101, zY11, rfl, zi11, zy11, zn11, by decide, rfl, rfl, rfl, zpl (i := 1338) (by decide +kernel), rfl, rfl, by decide⟩
set_option maxRecDepth 100000 in
theorem f_Md_111 : zFld "ZigzagTabletsModel" 111 11 42 true (.array .int) := ⟨"ZigzagTabletsModel", zT11, 101, zY11, rfl, zi11, zy11, zn11, by decide, rfl, rfl, rfl, zpl (i := 1339) (by decide +kernel), rfl, rfl, by decide⟩
set_option maxRecDepth 100000 in
theorem f_Md_114 : zFld "ZigzagTabletsModel" 114 11 43 true (.array .long) := ⟨"ZigzagTabletsModel", zT11, 101, zY11, rfl, zi11, zy11, zn11, by decide, rfl, rfl, rfl, zpl (i := 1340) (by decide +kernel), rfl, rfl, by decide⟩
set_option maxRecDepth 100000 in
theorem f_Md_295 : zFld "ZigzagTabletsModel" 295 11 50 false .int := ⟨"ZigzagTabletsModel", zT11, 101, zY11, rfl, zi11, zy11, zn11, by decide, rfl, rfl, rfl, zpl (i := 1347) (by decide +kernel), rfl, rfl, by decide⟩
set_option maxRecDepth 100000 in
theorem k_Md_298 : zLnV "ZigzagTabletsModel" 298 0 y_Md_name := ⟨⟨zpl (i := 1651) (by decide +kernel), zpl (i := 1654) (by decide +kernel), zpl (i := 157) (by decide +kernel), ⟨by decide, by decide, by decide +kernel⟩, by decide⟩, zpl (i := 1653) (by decide +kernel), zpl (i := 63) (by decide +kernel)⟩
set_option maxRecDepth 100000 in
theorem k_Md_302 : zLnV "ZigzagTabletsModel" 302 1 y_Md_asks := ⟨⟨zpl (i := 1669) (by decide +kernel), zpl (i := 1672) (by decide +kernel), zpl (i := 157) (by decide +kernel), ⟨by decide, by decide, by decide +kernel⟩, by decide⟩, zpl (i := 1671) (by decide +kernel), zpl (i := 67) (by decide +kernel)⟩
set_option maxRecDepth 100000 in
theorem k_Md_306 : zLnV "ZigzagTabletsModel" 306 2 y_Md_number := ⟨⟨zpl (i := 1673) (by decide +kernel), zpl (i := 1676) (by decide +kernel), zpl (i := 157) (by decide +kernel), ⟨by decide, by decide, by decide +kernel⟩, by decide⟩, zpl (i := 1675) (by decide +kernel), zpl (i := 68) (by decide +kernel)⟩
set_option maxRecDepth 100000 in
theorem f_Md_118 : zFld "ZigzagTabletsModel" 118 11 44 true (.array .int) := ⟨"ZigzagTabletsModel", zT11, 101, zY11, rfl, zi11, zy11, zn11, by decide, rfl, rfl, rfl, zpl (i := 1341) (by decide +kernel), rfl, rfl, by decide⟩
set_option maxRecDepth 100000 in
theorem k_Md_310 : zLnV "ZigzagTabletsModel" 310 3 y_Md_told := ⟨⟨zpl (i := 1665) (by decide +kernel), zpl (i := 1668) (by decide +kernel), zpl (i := 157) (by decide +kernel), ⟨by decide, by decide, by decide +kernel⟩, by decide⟩, zpl (i := 1667) (by decide +kernel), zpl (i := 66) (by decide +kernel)⟩
set_option maxRecDepth 100000 in
theorem k_Md_313 : zLnV "ZigzagTabletsModel" 313 2 y_Md_laid := ⟨⟨zpl (i := 1643) (by decide +kernel), zpl (i := 1646) (by decide +kernel), zpl (i := 157) (by decide +kernel), ⟨by decide, by decide, by decide +kernel⟩, by decide⟩, zpl (i := 1645) (by decide +kernel), zpl (i := 61) (by decide +kernel)⟩
set_option maxRecDepth 100000 in
theorem f_Md_316 : zFld "ZigzagTabletsModel" 316 11 90 false .int := ⟨"ZigzagTabletsModel", zT11, 101, zY11, rfl, zi11, zy11, zn11, by decide, rfl, rfl, rfl, zpl (i := 1387) (by decide +kernel), rfl, rfl, by decide⟩
set_option maxRecDepth 100000 in
theorem f_Md_319 : zFld "ZigzagTabletsModel" 319 11 92 false .int := ⟨"ZigzagTabletsModel", zT11, 101, zY11, rfl, zi11, zy11, zn11, by decide, rfl, rfl, rfl, zpl (i := 1389) (by decide +kernel), rfl, rfl, by decide⟩
set_option maxRecDepth 100000 in
theorem f_Md_322 : zFld "ZigzagTabletsModel" 322 11 93 false .int := ⟨"ZigzagTabletsModel", zT11, 101, zY11, rfl, zi11, zy11, zn11, by decide, rfl, rfl, rfl, zpl (i := 1390) (by decide +kernel), rfl, rfl, by decide⟩
set_option maxRecDepth 100000 in
theorem f_Md_325 : zFld "ZigzagTabletsModel" 325 11 94 false .int := ⟨"ZigzagTabletsModel", zT11, 101, zY11, rfl, zi11, zy11, zn11, by decide, rfl, rfl, rfl, zpl (i := 1391) (by decide +kernel), rfl, rfl, by decide⟩
set_option maxRecDepth 100000 in
theorem k_Md_331 : zLnV "ZigzagTabletsModel" 331 0 y_Md_qSums := ⟨⟨zpl (i := 1711) (by decide +kernel), zpl (i := 1714) (by decide +kernel), zpl (i := 157) (by decide +kernel), ⟨by decide, by decide, by decide +kernel⟩, by decide⟩, zpl (i := 1713) (by decide +kernel), zpl (i := 76) (by decide +kernel)⟩
set_option maxRecDepth 100000 in
theorem k_Md_328 : zLnV "ZigzagTabletsModel" 328 0 y_Md_qTest := ⟨⟨zpl (i := 1695) (by decide +kernel), zpl (i := 1698) (by decide +kernel), zpl (i := 157) (by decide +kernel), ⟨by decide, by decide, by decide +kernel⟩, by decide⟩, zpl (i := 1697) (by decide +kernel), zpl (i := 72) (by decide +kernel)⟩
set_option maxRecDepth 100000 in
theorem f_Md_121 : zFld "ZigzagTabletsModel" 121 11 45 true (.array .int) := ⟨"ZigzagTabletsModel", zT11, 101, zY11, rfl, zi11, zy11, zn11, by decide, rfl, rfl, rfl, zpl (i := 1342) (by decide +kernel), rfl, rfl, by decide⟩
set_option maxRecDepth 100000 in
theorem f_Md_334 : zFld "ZigzagTabletsModel" 334 11 48 false .int := ⟨"ZigzagTabletsModel", zT11, 101, zY11, rfl, zi11, zy11, zn11, by decide, rfl, rfl, rfl, zpl (i := 1345) (by decide +kernel), rfl, rfl, by decide⟩
set_option maxRecDepth 100000 in
theorem f_Md_124 : zFld "ZigzagTabletsModel" 124 11 46 true (.array .int) := ⟨"ZigzagTabletsModel", zT11, 101, zY11, rfl, zi11, zy11, zn11, by decide, rfl, rfl, rfl, zpl (i := 1343) (by decide +kernel), rfl, rfl, by decide⟩
set_option maxRecDepth 100000 in
theorem f_Md_127 : zFld "ZigzagTabletsModel" 127 11 47 true (.array .int) := ⟨"ZigzagTabletsModel", zT11, 101, zY11, rfl, zi11, zy11, zn11, by decide, rfl, rfl, rfl, zpl (i := 1344) (by decide +kernel), rfl, rfl, by decide⟩
set_option maxRecDepth 100000 in
theorem f_Md_222 : zFld "ZigzagTabletsModel" 222 11 89 true (.array .int) := ⟨"ZigzagTabletsModel", zT11, 101, zY11, rfl, zi11, zy11, zn11, by decide, rfl, rfl, rfl, zpl (i := 1386) (by decide +kernel), rfl, rfl, by decide⟩
set_option maxRecDepth 100000 in
theorem k_Md_337 : zLnV "ZigzagTabletsModel" 337 2 y_Md_reads := ⟨⟨zpl (i := 1691) (by decide +kernel), zpl (i := 1694) (by decide +kernel), zpl (i := 157) (by decide +kernel), ⟨by decide, by decide, by decide +kernel⟩, by decide⟩, zpl (i := 1693) (by decide +kernel), zpl (i := 71) (by decide +kernel)⟩
set_option maxRecDepth 100000 in
theorem k_Md_340 : zLnV "ZigzagTabletsModel" 340 0 y_Md_newName := ⟨⟨zpl (i := 1647) (by decide +kernel), zpl (i := 1650) (by decide +kernel), zpl (i := 157) (by decide +kernel), ⟨by decide, by decide, by decide +kernel⟩, by decide⟩, zpl (i := 1649) (by decide +kernel), zpl (i := 62) (by decide +kernel)⟩
set_option maxRecDepth 100000 in
theorem k_Md_349 : zLnV "ZigzagTabletsModel" 349 0 y_Md_ringTold := ⟨⟨zpl (i := 1687) (by decide +kernel), zpl (i := 1690) (by decide +kernel), zpl (i := 157) (by decide +kernel), ⟨by decide, by decide, by decide +kernel⟩, by decide⟩, zpl (i := 1689) (by decide +kernel), zpl (i := 70) (by decide +kernel)⟩
set_option maxRecDepth 100000 in
theorem k_Md_346 : zLnV "ZigzagTabletsModel" 346 0 y_Md_arcTold := ⟨⟨zpl (i := 1683) (by decide +kernel), zpl (i := 1686) (by decide +kernel), zpl (i := 157) (by decide +kernel), ⟨by decide, by decide, by decide +kernel⟩, by decide⟩, zpl (i := 1685) (by decide +kernel), zpl (i := 69) (by decide +kernel)⟩
set_option maxRecDepth 100000 in
theorem k_Md_343 : zLnV "ZigzagTabletsModel" 343 0 y_Md_zigTold := ⟨⟨zpl (i := 1661) (by decide +kernel), zpl (i := 1664) (by decide +kernel), zpl (i := 157) (by decide +kernel), ⟨by decide, by decide, by decide +kernel⟩, by decide⟩, zpl (i := 1663) (by decide +kernel), zpl (i := 65) (by decide +kernel)⟩
set_option maxRecDepth 100000 in
theorem f_Md_352 : zFld "ZigzagTabletsModel" 352 11 49 false .int := ⟨"ZigzagTabletsModel", zT11, 101, zY11, rfl, zi11, zy11, zn11, by decide, rfl, rfl, rfl, zpl (i := 1346) (by decide +kernel), rfl, rfl, by decide⟩
set_option maxRecDepth 100000 in
theorem k_Md_355 : zLnV "ZigzagTabletsModel" 355 2 y_Md_columnTold := ⟨⟨zpl (i := 1639) (by decide +kernel), zpl (i := 1642) (by decide +kernel), zpl (i := 157) (by decide +kernel), ⟨by decide, by decide, by decide +kernel⟩, by decide⟩, zpl (i := 1641) (by decide +kernel), zpl (i := 60) (by decide +kernel)⟩
set_option maxRecDepth 100000 in
theorem k_Md_358 : zLnV "ZigzagTabletsModel" 358 1 y_Md_asksSign := ⟨⟨zpl (i := 1731) (by decide +kernel), zpl (i := 1734) (by decide +kernel), zpl (i := 157) (by decide +kernel), ⟨by decide, by decide, by decide +kernel⟩, by decide⟩, zpl (i := 1733) (by decide +kernel), zpl (i := 81) (by decide +kernel)⟩
set_option maxRecDepth 100000 in
theorem k_Md_362 : zLnV "ZigzagTabletsModel" 362 0 y_Md_statementTold := ⟨⟨zpl (i := 1620) (by decide +kernel), zpl (i := 1623) (by decide +kernel), zpl (i := 157) (by decide +kernel), ⟨by decide, by decide, by decide +kernel⟩, by decide⟩, zpl (i := 1622) (by decide +kernel), zpl (i := 56) (by decide +kernel)⟩
set_option maxRecDepth 100000 in
theorem f_Md_365 : zFld "ZigzagTabletsModel" 365 11 7 false .int := ⟨"ZigzagTabletsModel", zT11, 101, zY11, rfl, zi11, zy11, zn11, by decide, rfl, rfl, rfl, zpl (i := 1304) (by decide +kernel), rfl, rfl, by decide⟩
set_option maxRecDepth 100000 in
theorem f_Md_13 : zFld "ZigzagTabletsModel" 13 11 8 false .int := ⟨"ZigzagTabletsModel", zT11, 101, zY11, rfl, zi11, zy11, zn11, by decide, rfl, rfl, rfl, zpl (i := 1305) (by decide +kernel), rfl, rfl, by decide⟩
set_option maxRecDepth 100000 in
theorem k_Md_372 : zLnV "ZigzagTabletsModel" 372 0 y_Md_stands := ⟨⟨zpl (i := 1790) (by decide +kernel), zpl (i := 1793) (by decide +kernel), zpl (i := 157) (by decide +kernel), ⟨by decide, by decide, by decide +kernel⟩, by decide⟩, zpl (i := 1792) (by decide +kernel), zpl (i := 95) (by decide +kernel)⟩
set_option maxRecDepth 100000 in
theorem k_Md_368 : zLnV "ZigzagTabletsModel" 368 1 y_Md_refuses := ⟨⟨zpl (i := 1786) (by decide +kernel), zpl (i := 1789) (by decide +kernel), zpl (i := 157) (by decide +kernel), ⟨by decide, by decide, by decide +kernel⟩, by decide⟩, zpl (i := 1788) (by decide +kernel), zpl (i := 94) (by decide +kernel)⟩
set_option maxRecDepth 100000 in
theorem f_Md_375 : zFld "ZigzagTabletsModel" 375 11 52 false .boolean := ⟨"ZigzagTabletsModel", zT11, 101, zY11, rfl, zi11, zy11, zn11, by decide, rfl, rfl, rfl, zpl (i := 1349) (by decide +kernel), rfl, rfl, by decide⟩
set_option maxRecDepth 100000 in
theorem k_Md_379 : zLnV "ZigzagTabletsModel" 379 0 y_Md_laysTrue := ⟨⟨zpl (i := 1794) (by decide +kernel), zpl (i := 1797) (by decide +kernel), zpl (i := 157) (by decide +kernel), ⟨by decide, by decide, by decide +kernel⟩, by decide⟩, zpl (i := 1796) (by decide +kernel), zpl (i := 96) (by decide +kernel)⟩
set_option maxRecDepth 100000 in
theorem k_Md_382 : zLnV "ZigzagTabletsModel" 382 0 y_Md_begins := ⟨⟨zpl (i := 1798) (by decide +kernel), zpl (i := 1801) (by decide +kernel), zpl (i := 157) (by decide +kernel), ⟨by decide, by decide, by decide +kernel⟩, by decide⟩, zpl (i := 1800) (by decide +kernel), zpl (i := 97) (by decide +kernel)⟩
set_option maxRecDepth 100000 in
theorem f_Md_385 : zFld "ZigzagTabletsModel" 385 11 66 false .int := ⟨"ZigzagTabletsModel", zT11, 101, zY11, rfl, zi11, zy11, zn11, by decide, rfl, rfl, rfl, zpl (i := 1363) (by decide +kernel), rfl, rfl, by decide⟩
set_option maxRecDepth 100000 in
theorem f_Md_388 : zFld "ZigzagTabletsModel" 388 11 62 false .int := ⟨"ZigzagTabletsModel", zT11, 101, zY11, rfl, zi11, zy11, zn11, by decide, rfl, rfl, rfl, zpl (i := 1359) (by decide +kernel), rfl, rfl, by decide⟩
set_option maxRecDepth 100000 in
theorem f_Md_130 : zFld "ZigzagTabletsModel" 130 11 51 true (.array .int) := ⟨"ZigzagTabletsModel", zT11, 101, zY11, rfl, zi11, zy11, zn11, by decide, rfl, rfl, rfl, zpl (i := 1348) (by decide +kernel), rfl, rfl, by decide⟩
set_option maxRecDepth 100000 in
theorem k_Md_391 : zLnV "ZigzagTabletsModel" 391 0 y_Md_columnMany := ⟨⟨zpl (i := 1802) (by decide +kernel), zpl (i := 1805) (by decide +kernel), zpl (i := 157) (by decide +kernel), ⟨by decide, by decide, by decide +kernel⟩, by decide⟩, zpl (i := 1804) (by decide +kernel), zpl (i := 98) (by decide +kernel)⟩
set_option maxRecDepth 100000 in
theorem k_Md_394 : zLnV "ZigzagTabletsModel" 394 2 y_Md_fieldOf := ⟨⟨zpl (i := 1810) (by decide +kernel), zpl (i := 1813) (by decide +kernel), zpl (i := 157) (by decide +kernel), ⟨by decide, by decide, by decide +kernel⟩, by decide⟩, zpl (i := 1812) (by decide +kernel), zpl (i := 100) (by decide +kernel)⟩
set_option maxRecDepth 100000 in
theorem f_Md_397 : zFld "ZigzagTabletsModel" 397 11 96 false .int := ⟨"ZigzagTabletsModel", zT11, 101, zY11, rfl, zi11, zy11, zn11, by decide, rfl, rfl, rfl, zpl (i := 1393) (by decide +kernel), rfl, rfl, by decide⟩
set_option maxRecDepth 100000 in
theorem f_Md_228 : zFld "ZigzagTabletsModel" 228 11 95 true (.array .long) := ⟨"ZigzagTabletsModel", zT11, 101, zY11, rfl, zi11, zy11, zn11, by decide, rfl, rfl, rfl, zpl (i := 1392) (by decide +kernel), rfl, rfl, by decide⟩
set_option maxRecDepth 100000 in
theorem k_Md_408 : zLnV "ZigzagTabletsModel" 408 1 y_Md_qJoins := ⟨⟨zpl (i := 1838) (by decide +kernel), zpl (i := 1841) (by decide +kernel), zpl (i := 157) (by decide +kernel), ⟨by decide, by decide, by decide +kernel⟩, by decide⟩, zpl (i := 1840) (by decide +kernel), zpl (i := 107) (by decide +kernel)⟩
set_option maxRecDepth 100000 in
theorem k_Md_400 : zLnV "ZigzagTabletsModel" 400 1 y_Md_qPuts := ⟨⟨zpl (i := 1822) (by decide +kernel), zpl (i := 1825) (by decide +kernel), zpl (i := 157) (by decide +kernel), ⟨by decide, by decide, by decide +kernel⟩, by decide⟩, zpl (i := 1824) (by decide +kernel), zpl (i := 103) (by decide +kernel)⟩
set_option maxRecDepth 100000 in
theorem k_Md_404 : zLnV "ZigzagTabletsModel" 404 2 y_Md_qPartOf := ⟨⟨zpl (i := 1826) (by decide +kernel), zpl (i := 1829) (by decide +kernel), zpl (i := 157) (by decide +kernel), ⟨by decide, by decide, by decide +kernel⟩, by decide⟩, zpl (i := 1828) (by decide +kernel), zpl (i := 104) (by decide +kernel)⟩
set_option maxRecDepth 100000 in
theorem f_Md_411 : zFld "ZigzagTabletsModel" 411 11 54 false .int := ⟨"ZigzagTabletsModel", zT11, 101, zY11, rfl, zi11, zy11, zn11, by decide, rfl, rfl, rfl, zpl (i := 1351) (by decide +kernel), rfl, rfl, by decide⟩
set_option maxRecDepth 100000 in
theorem k_Md_414 : zLnV "ZigzagTabletsModel" 414 1 y_Md_codesTell := ⟨⟨zpl (i := 1818) (by decide +kernel), zpl (i := 1821) (by decide +kernel), zpl (i := 157) (by decide +kernel), ⟨by decide, by decide, by decide +kernel⟩, by decide⟩, zpl (i := 1820) (by decide +kernel), zpl (i := 102) (by decide +kernel)⟩
set_option maxRecDepth 100000 in
theorem k_Md_424 : zLnV "ZigzagTabletsModel" 424 1 y_Md_sortOf := ⟨⟨zpl (i := 1806) (by decide +kernel), zpl (i := 1809) (by decide +kernel), zpl (i := 157) (by decide +kernel), ⟨by decide, by decide, by decide +kernel⟩, by decide⟩, zpl (i := 1808) (by decide +kernel), zpl (i := 99) (by decide +kernel)⟩
set_option maxRecDepth 100000 in
theorem k_Md_427 : zLnV "ZigzagTabletsModel" 427 2 y_Md_summed := ⟨⟨zpl (i := 1814) (by decide +kernel), zpl (i := 1817) (by decide +kernel), zpl (i := 157) (by decide +kernel), ⟨by decide, by decide, by decide +kernel⟩, by decide⟩, zpl (i := 1816) (by decide +kernel), zpl (i := 101) (by decide +kernel)⟩
set_option maxRecDepth 100000 in
theorem k_Md_430 : zLnV "ZigzagTabletsModel" 430 1 y_Md_valueOf := ⟨⟨zpl (i := 1830) (by decide +kernel), zpl (i := 1833) (by decide +kernel), zpl (i := 157) (by decide +kernel), ⟨by decide, by decide, by decide +kernel⟩, by decide⟩, zpl (i := 1832) (by decide +kernel), zpl (i := 105) (by decide +kernel)⟩
set_option maxRecDepth 100000 in
theorem k_Md_439 : zLnS "ZigzagTabletsModel" 439 2 y_Md_around := ⟨⟨zpl (i := 1868) (by decide +kernel), zpl (i := 1870) (by decide +kernel), zpl (i := 157) (by decide +kernel), ⟨by decide, by decide, by decide +kernel⟩, by decide⟩, zpl (i := 1869) (by decide +kernel)⟩
set_option maxRecDepth 100000 in
theorem k_Md_436 : zLnV "ZigzagTabletsModel" 436 1 y_Md_arcs := ⟨⟨zpl (i := 1864) (by decide +kernel), zpl (i := 1867) (by decide +kernel), zpl (i := 157) (by decide +kernel), ⟨by decide, by decide, by decide +kernel⟩, by decide⟩, zpl (i := 1866) (by decide +kernel), zpl (i := 111) (by decide +kernel)⟩
set_option maxRecDepth 100000 in
theorem k_Md_433 : zLnV "ZigzagTabletsModel" 433 1 y_Md_zigs := ⟨⟨zpl (i := 1860) (by decide +kernel), zpl (i := 1863) (by decide +kernel), zpl (i := 157) (by decide +kernel), ⟨by decide, by decide, by decide +kernel⟩, by decide⟩, zpl (i := 1862) (by decide +kernel), zpl (i := 110) (by decide +kernel)⟩
set_option maxRecDepth 100000 in
theorem k_Md_443 : zLnV "ZigzagTabletsModel" 443 1 y_Md_goesOn := ⟨⟨zpl (i := 1856) (by decide +kernel), zpl (i := 1859) (by decide +kernel), zpl (i := 157) (by decide +kernel), ⟨by decide, by decide, by decide +kernel⟩, by decide⟩, zpl (i := 1858) (by decide +kernel), zpl (i := 109) (by decide +kernel)⟩
set_option maxRecDepth 100000 in
theorem k_Md_446 : zLnV "ZigzagTabletsModel" 446 0 y_Md_lineGoes := ⟨⟨zpl (i := 1852) (by decide +kernel), zpl (i := 1855) (by decide +kernel), zpl (i := 157) (by decide +kernel), ⟨by decide, by decide, by decide +kernel⟩, by decide⟩, zpl (i := 1854) (by decide +kernel), zpl (i := 108) (by decide +kernel)⟩
set_option maxRecDepth 100000 in
theorem f_Md_133 : zFld "ZigzagTabletsModel" 133 11 55 true (.array .int) := ⟨"ZigzagTabletsModel", zT11, 101, zY11, rfl, zi11, zy11, zn11, by decide, rfl, rfl, rfl, zpl (i := 1352) (by decide +kernel), rfl, rfl, by decide⟩
set_option maxRecDepth 100000 in
theorem f_Md_136 : zFld "ZigzagTabletsModel" 136 11 56 true (.array .int) := ⟨"ZigzagTabletsModel", zT11, 101, zY11, rfl, zi11, zy11, zn11, by decide, rfl, rfl, rfl, zpl (i := 1353) (by decide +kernel), rfl, rfl, by decide⟩
set_option maxRecDepth 100000 in
theorem k_Md_449 : zLnV "ZigzagTabletsModel" 449 2 y_Md_trueOf := ⟨⟨zpl (i := 1834) (by decide +kernel), zpl (i := 1837) (by decide +kernel), zpl (i := 157) (by decide +kernel), ⟨by decide, by decide, by decide +kernel⟩, by decide⟩, zpl (i := 1836) (by decide +kernel), zpl (i := 106) (by decide +kernel)⟩
set_option maxRecDepth 100000 in
theorem k_Md_452 : zLnV "ZigzagTabletsModel" 452 0 y_Md_wrongMany := ⟨⟨zpl (i := 1883) (by decide +kernel), zpl (i := 1886) (by decide +kernel), zpl (i := 157) (by decide +kernel), ⟨by decide, by decide, by decide +kernel⟩, by decide⟩, zpl (i := 1885) (by decide +kernel), zpl (i := 113) (by decide +kernel)⟩
set_option maxRecDepth 100000 in
theorem f_Md_455 : zFld "ZigzagTabletsModel" 455 11 57 false .boolean := ⟨"ZigzagTabletsModel", zT11, 101, zY11, rfl, zi11, zy11, zn11, by decide, rfl, rfl, rfl, zpl (i := 1354) (by decide +kernel), rfl, rfl, by decide⟩
set_option maxRecDepth 100000 in
theorem f_Md_139 : zFld "ZigzagTabletsModel" 139 11 58 true (.array .int) := ⟨"ZigzagTabletsModel", zT11, 101, zY11, rfl, zi11, zy11, zn11, by decide, rfl, rfl, rfl, zpl (i := 1355) (by decide +kernel), rfl, rfl, by decide⟩
set_option maxRecDepth 100000 in
theorem k_Md_458 : zLnV "ZigzagTabletsModel" 458 0 y_Md_triesAnew := ⟨⟨zpl (i := 1938) (by decide +kernel), zpl (i := 1941) (by decide +kernel), zpl (i := 157) (by decide +kernel), ⟨by decide, by decide, by decide +kernel⟩, by decide⟩, zpl (i := 1940) (by decide +kernel), zpl (i := 121) (by decide +kernel)⟩
set_option maxRecDepth 100000 in
theorem k_Md_463 : zLnV "ZigzagTabletsModel" 463 0 y_Md_isMarked := ⟨⟨zpl (i := 1879) (by decide +kernel), zpl (i := 1882) (by decide +kernel), zpl (i := 157) (by decide +kernel), ⟨by decide, by decide, by decide +kernel⟩, by decide⟩, zpl (i := 1881) (by decide +kernel), zpl (i := 112) (by decide +kernel)⟩
set_option maxRecDepth 100000 in
theorem k_Md_466 : zLnV "ZigzagTabletsModel" 466 1 y_Md_isColumn := ⟨⟨zpl (i := 1891) (by decide +kernel), zpl (i := 1894) (by decide +kernel), zpl (i := 157) (by decide +kernel), ⟨by decide, by decide, by decide +kernel⟩, by decide⟩, zpl (i := 1893) (by decide +kernel), zpl (i := 114) (by decide +kernel)⟩
set_option maxRecDepth 100000 in
theorem k_Md_472 : zLnV "ZigzagTabletsModel" 472 1 y_Md_leastOf := ⟨⟨zpl (i := 1900) (by decide +kernel), zpl (i := 1903) (by decide +kernel), zpl (i := 157) (by decide +kernel), ⟨by decide, by decide, by decide +kernel⟩, by decide⟩, zpl (i := 1902) (by decide +kernel), zpl (i := 115) (by decide +kernel)⟩
set_option maxRecDepth 100000 in
theorem k_Md_475 : zLnV "ZigzagTabletsModel" 475 1 y_Md_mostOf := ⟨⟨zpl (i := 1904) (by decide +kernel), zpl (i := 1907) (by decide +kernel), zpl (i := 157) (by decide +kernel), ⟨by decide, by decide, by decide +kernel⟩, by decide⟩, zpl (i := 1906) (by decide +kernel), zpl (i := 116) (by decide +kernel)⟩
set_option maxRecDepth 100000 in
theorem f_Md_480 : zFld "ZigzagTabletsModel" 480 11 61 false .int := ⟨"ZigzagTabletsModel", zT11, 101, zY11, rfl, zi11, zy11, zn11, by decide, rfl, rfl, rfl, zpl (i := 1358) (by decide +kernel), rfl, rfl, by decide⟩
set_option maxRecDepth 100000 in
theorem k_Md_483 : zLnV "ZigzagTabletsModel" 483 0 y_Md_putsAside := ⟨⟨zpl (i := 1930) (by decide +kernel), zpl (i := 1933) (by decide +kernel), zpl (i := 157) (by decide +kernel), ⟨by decide, by decide, by decide +kernel⟩, by decide⟩, zpl (i := 1932) (by decide +kernel), zpl (i := 119) (by decide +kernel)⟩
set_option maxRecDepth 100000 in
theorem f_Md_145 : zFld "ZigzagTabletsModel" 145 11 60 true (.array .boolean) := ⟨"ZigzagTabletsModel", zT11, 101, zY11, rfl, zi11, zy11, zn11, by decide, rfl, rfl, rfl, zpl (i := 1357) (by decide +kernel), rfl, rfl, by decide⟩
set_option maxRecDepth 100000 in
theorem f_Md_142 : zFld "ZigzagTabletsModel" 142 11 59 true (.array .int) := ⟨"ZigzagTabletsModel", zT11, 101, zY11, rfl, zi11, zy11, zn11, by decide, rfl, rfl, rfl, zpl (i := 1356) (by decide +kernel), rfl, rfl, by decide⟩
set_option maxRecDepth 100000 in
theorem k_Md_486 : zLnV "ZigzagTabletsModel" 486 0 y_Md_takesBack := ⟨⟨zpl (i := 1934) (by decide +kernel), zpl (i := 1937) (by decide +kernel), zpl (i := 157) (by decide +kernel), ⟨by decide, by decide, by decide +kernel⟩, by decide⟩, zpl (i := 1936) (by decide +kernel), zpl (i := 120) (by decide +kernel)⟩
set_option maxRecDepth 100000 in
theorem k_Md_489 : zLnV "ZigzagTabletsModel" 489 3 y_Md_isAhead := ⟨⟨zpl (i := 1921) (by decide +kernel), zpl (i := 1924) (by decide +kernel), zpl (i := 157) (by decide +kernel), ⟨by decide, by decide, by decide +kernel⟩, by decide⟩, zpl (i := 1923) (by decide +kernel), zpl (i := 117) (by decide +kernel)⟩
set_option maxRecDepth 100000 in
theorem k_Md_493 : zLnV "ZigzagTabletsModel" 493 0 y_Md_laysAhead := ⟨⟨zpl (i := 1926) (by decide +kernel), zpl (i := 1929) (by decide +kernel), zpl (i := 157) (by decide +kernel), ⟨by decide, by decide, by decide +kernel⟩, by decide⟩, zpl (i := 1928) (by decide +kernel), zpl (i := 118) (by decide +kernel)⟩
set_option maxRecDepth 100000 in
theorem k_Md_500 : zLnS "ZigzagTabletsModel" 500 1 y_Md_bits := ⟨⟨zpl (i := 1968) (by decide +kernel), zpl (i := 1970) (by decide +kernel), zpl (i := 157) (by decide +kernel), ⟨by decide, by decide, by decide +kernel⟩, by decide⟩, zpl (i := 1969) (by decide +kernel)⟩
set_option maxRecDepth 100000 in
theorem k_Md_503 : zLnV "ZigzagTabletsModel" 503 1 y_Md_setsRight := ⟨⟨zpl (i := 1971) (by decide +kernel), zpl (i := 1974) (by decide +kernel), zpl (i := 157) (by decide +kernel), ⟨by decide, by decide, by decide +kernel⟩, by decide⟩, zpl (i := 1973) (by decide +kernel), zpl (i := 122) (by decide +kernel)⟩
set_option maxRecDepth 100000 in
theorem k_Md_506 : zLnV "ZigzagTabletsModel" 506 1 y_Md_areTrueFor := ⟨⟨zpl (i := 1975) (by decide +kernel), zpl (i := 1978) (by decide +kernel), zpl (i := 157) (by decide +kernel), ⟨by decide, by decide, by decide +kernel⟩, by decide⟩, zpl (i := 1977) (by decide +kernel), zpl (i := 123) (by decide +kernel)⟩
set_option maxRecDepth 100000 in
theorem k_Md_509 : zLnV "ZigzagTabletsModel" 509 2 y_Md_isSlipped := ⟨⟨zpl (i := 1983) (by decide +kernel), zpl (i := 1986) (by decide +kernel), zpl (i := 157) (by decide +kernel), ⟨by decide, by decide, by decide +kernel⟩, by decide⟩, zpl (i := 1985) (by decide +kernel), zpl (i := 124) (by decide +kernel)⟩
set_option maxRecDepth 100000 in
theorem k_Md_513 : zLnV "ZigzagTabletsModel" 513 2 y_Md_canTell := ⟨⟨zpl (i := 1991) (by decide +kernel), zpl (i := 1994) (by decide +kernel), zpl (i := 157) (by decide +kernel), ⟨by decide, by decide, by decide +kernel⟩, by decide⟩, zpl (i := 1993) (by decide +kernel), zpl (i := 125) (by decide +kernel)⟩
set_option maxRecDepth 100000 in
theorem f_Md_149 : zFld "ZigzagTabletsModel" 149 11 63 true (.array .int) := ⟨"ZigzagTabletsModel", zT11, 101, zY11, rfl, zi11, zy11, zn11, by decide, rfl, rfl, rfl, zpl (i := 1360) (by decide +kernel), rfl, rfl, by decide⟩
set_option maxRecDepth 100000 in
theorem k_Md_516 : zLnV "ZigzagTabletsModel" 516 1 y_Md_doesFit := ⟨⟨zpl (i := 1999) (by decide +kernel), zpl (i := 2002) (by decide +kernel), zpl (i := 157) (by decide +kernel), ⟨by decide, by decide, by decide +kernel⟩, by decide⟩, zpl (i := 2001) (by decide +kernel), zpl (i := 126) (by decide +kernel)⟩
set_option maxRecDepth 100000 in
theorem k_Md_519 : zLnV "ZigzagTabletsModel" 519 0 y_Md_fitsFirst := ⟨⟨zpl (i := 2007) (by decide +kernel), zpl (i := 2010) (by decide +kernel), zpl (i := 157) (by decide +kernel), ⟨by decide, by decide, by decide +kernel⟩, by decide⟩, zpl (i := 2009) (by decide +kernel), zpl (i := 127) (by decide +kernel)⟩
set_option maxRecDepth 100000 in
theorem f_Md_152 : zFld "ZigzagTabletsModel" 152 11 64 true (.array .int) := ⟨"ZigzagTabletsModel", zT11, 101, zY11, rfl, zi11, zy11, zn11, by decide, rfl, rfl, rfl, zpl (i := 1361) (by decide +kernel), rfl, rfl, by decide⟩
set_option maxRecDepth 100000 in
theorem k_Md_522 : zLnV "ZigzagTabletsModel" 522 2 y_Md_mostAlike := ⟨⟨zpl (i := 2015) (by decide +kernel), zpl (i := 2018) (by decide +kernel), zpl (i := 157) (by decide +kernel), ⟨by decide, by decide, by decide +kernel⟩, by decide⟩, zpl (i := 2017) (by decide +kernel), zpl (i := 128) (by decide +kernel)⟩
set_option maxRecDepth 100000 in
theorem f_Md_525 : zFld "ZigzagTabletsModel" 525 11 67 false .int := ⟨"ZigzagTabletsModel", zT11, 101, zY11, rfl, zi11, zy11, zn11, by decide, rfl, rfl, rfl, zpl (i := 1364) (by decide +kernel), rfl, rfl, by decide⟩
set_option maxRecDepth 100000 in
theorem f_Md_155 : zFld "ZigzagTabletsModel" 155 11 65 true (.array .int) := ⟨"ZigzagTabletsModel", zT11, 101, zY11, rfl, zi11, zy11, zn11, by decide, rfl, rfl, rfl, zpl (i := 1362) (by decide +kernel), rfl, rfl, by decide⟩
set_option maxRecDepth 100000 in
theorem k_Md_528 : zLnV "ZigzagTabletsModel" 528 0 y_Md_keeps := ⟨⟨zpl (i := 2027) (by decide +kernel), zpl (i := 2030) (by decide +kernel), zpl (i := 157) (by decide +kernel), ⟨by decide, by decide, by decide +kernel⟩, by decide⟩, zpl (i := 2029) (by decide +kernel), zpl (i := 129) (by decide +kernel)⟩
set_option maxRecDepth 100000 in
theorem k_Md_531 : zLnV "ZigzagTabletsModel" 531 0 y_Md_isKept := ⟨⟨zpl (i := 2031) (by decide +kernel), zpl (i := 2034) (by decide +kernel), zpl (i := 157) (by decide +kernel), ⟨by decide, by decide, by decide +kernel⟩, by decide⟩, zpl (i := 2033) (by decide +kernel), zpl (i := 130) (by decide +kernel)⟩
set_option maxRecDepth 100000 in
theorem k_Md_534 : zLnV "ZigzagTabletsModel" 534 1 y_Md_isRefused := ⟨⟨zpl (i := 2039) (by decide +kernel), zpl (i := 2042) (by decide +kernel), zpl (i := 157) (by decide +kernel), ⟨by decide, by decide, by decide +kernel⟩, by decide⟩, zpl (i := 2041) (by decide +kernel), zpl (i := 131) (by decide +kernel)⟩
set_option maxRecDepth 100000 in
theorem f_Md_158 : zFld "ZigzagTabletsModel" 158 11 68 false .long := ⟨"ZigzagTabletsModel", zT11, 101, zY11, rfl, zi11, zy11, zn11, by decide, rfl, rfl, rfl, zpl (i := 1365) (by decide +kernel), rfl, rfl, by decide⟩
set_option maxRecDepth 100000 in
theorem k_Md_545 : zLnV "ZigzagTabletsModel" 545 1 y_Md_drawOf := ⟨⟨zpl (i := 2055) (by decide +kernel), zpl (i := 2058) (by decide +kernel), zpl (i := 157) (by decide +kernel), ⟨by decide, by decide, by decide +kernel⟩, by decide⟩, zpl (i := 2057) (by decide +kernel), zpl (i := 132) (by decide +kernel)⟩
set_option maxRecDepth 100000 in
theorem f_Md_225 : zFld "ZigzagTabletsModel" 225 11 91 true (.array .int) := ⟨"ZigzagTabletsModel", zT11, 101, zY11, rfl, zi11, zy11, zn11, by decide, rfl, rfl, rfl, zpl (i := 1388) (by decide +kernel), rfl, rfl, by decide⟩
set_option maxRecDepth 100000 in
theorem k_Md_548 : zLnV "ZigzagTabletsModel" 548 1 y_Md_qCode := ⟨⟨zpl (i := 1707) (by decide +kernel), zpl (i := 1710) (by decide +kernel), zpl (i := 157) (by decide +kernel), ⟨by decide, by decide, by decide +kernel⟩, by decide⟩, zpl (i := 1709) (by decide +kernel), zpl (i := 75) (by decide +kernel)⟩
set_option maxRecDepth 100000 in
theorem k_Md_551 : zLnS "ZigzagTabletsModel" 551 1 y_Md_qIsBracket := ⟨⟨zpl (i := 1763) (by decide +kernel), zpl (i := 1765) (by decide +kernel), zpl (i := 157) (by decide +kernel), ⟨by decide, by decide, by decide +kernel⟩, by decide⟩, zpl (i := 1764) (by decide +kernel)⟩
set_option maxRecDepth 100000 in
theorem k_Md_554 : zLnV "ZigzagTabletsModel" 554 0 y_Md_qDrops := ⟨⟨zpl (i := 1751) (by decide +kernel), zpl (i := 1754) (by decide +kernel), zpl (i := 157) (by decide +kernel), ⟨by decide, by decide, by decide +kernel⟩, by decide⟩, zpl (i := 1753) (by decide +kernel), zpl (i := 86) (by decide +kernel)⟩
set_option maxRecDepth 100000 in
theorem f_Md_198 : zFld "ZigzagTabletsModel" 198 11 81 true (.array .char) := ⟨"ZigzagTabletsModel", zT11, 101, zY11, rfl, zi11, zy11, zn11, by decide, rfl, rfl, rfl, zpl (i := 1378) (by decide +kernel), rfl, rfl, by decide⟩
set_option maxRecDepth 100000 in
theorem f_Md_201 : zFld "ZigzagTabletsModel" 201 11 82 true (.array .char) := ⟨"ZigzagTabletsModel", zT11, 101, zY11, rfl, zi11, zy11, zn11, by decide, rfl, rfl, rfl, zpl (i := 1379) (by decide +kernel), rfl, rfl, by decide⟩
set_option maxRecDepth 100000 in
theorem f_Md_204 : zFld "ZigzagTabletsModel" 204 11 83 true (.array .char) := ⟨"ZigzagTabletsModel", zT11, 101, zY11, rfl, zi11, zy11, zn11, by decide, rfl, rfl, rfl, zpl (i := 1380) (by decide +kernel), rfl, rfl, by decide⟩
set_option maxRecDepth 100000 in
theorem f_Md_207 : zFld "ZigzagTabletsModel" 207 11 84 true (.array .char) := ⟨"ZigzagTabletsModel", zT11, 101, zY11, rfl, zi11, zy11, zn11, by decide, rfl, rfl, rfl, zpl (i := 1381) (by decide +kernel), rfl, rfl, by decide⟩
set_option maxRecDepth 100000 in
theorem f_Md_210 : zFld "ZigzagTabletsModel" 210 11 85 true (.array .char) := ⟨"ZigzagTabletsModel", zT11, 101, zY11, rfl, zi11, zy11, zn11, by decide, rfl, rfl, rfl, zpl (i := 1382) (by decide +kernel), rfl, rfl, by decide⟩
set_option maxRecDepth 100000 in
theorem f_Md_213 : zFld "ZigzagTabletsModel" 213 11 86 true (.array .char) := ⟨"ZigzagTabletsModel", zT11, 101, zY11, rfl, zi11, zy11, zn11, by decide, rfl, rfl, rfl, zpl (i := 1383) (by decide +kernel), rfl, rfl, by decide⟩
set_option maxRecDepth 100000 in
theorem f_Md_216 : zFld "ZigzagTabletsModel" 216 11 87 true (.array .char) := ⟨"ZigzagTabletsModel", zT11, 101, zY11, rfl, zi11, zy11, zn11, by decide, rfl, rfl, rfl, zpl (i := 1384) (by decide +kernel), rfl, rfl, by decide⟩
set_option maxRecDepth 100000 in
theorem f_Md_219 : zFld "ZigzagTabletsModel" 219 11 88 true (.array .char) := ⟨"ZigzagTabletsModel", zT11, 101, zY11, rfl, zi11, zy11, zn11, by decide, rfl, rfl, rfl, zpl (i := 1385) (by decide +kernel), rfl, rfl, by decide⟩
set_option maxRecDepth 100000 in
theorem k_Md_557 : zLnV "ZigzagTabletsModel" 557 0 y_Md_qWordHere := ⟨⟨zpl (i := 1723) (by decide +kernel), zpl (i := 1726) (by decide +kernel), zpl (i := 157) (by decide +kernel), ⟨by decide, by decide, by decide +kernel⟩, by decide⟩, zpl (i := 1725) (by decide +kernel), zpl (i := 79) (by decide +kernel)⟩
set_option maxRecDepth 100000 in
theorem k_Md_560 : zLnV "ZigzagTabletsModel" 560 1 y_Md_isAllowed := ⟨⟨zpl (i := 1727) (by decide +kernel), zpl (i := 1730) (by decide +kernel), zpl (i := 157) (by decide +kernel), ⟨by decide, by decide, by decide +kernel⟩, by decide⟩, zpl (i := 1729) (by decide +kernel), zpl (i := 80) (by decide +kernel)⟩
set_option maxRecDepth 100000 in
theorem k_Md_563 : zLnV "ZigzagTabletsModel" 563 2 y_Md_qWordOf := ⟨⟨zpl (i := 1719) (by decide +kernel), zpl (i := 1722) (by decide +kernel), zpl (i := 157) (by decide +kernel), ⟨by decide, by decide, by decide +kernel⟩, by decide⟩, zpl (i := 1721) (by decide +kernel), zpl (i := 78) (by decide +kernel)⟩
set_option maxRecDepth 100000 in
theorem f_Md_192 : zFld "ZigzagTabletsModel" 192 11 79 true (.array .char) := ⟨"ZigzagTabletsModel", zT11, 101, zY11, rfl, zi11, zy11, zn11, by decide, rfl, rfl, rfl, zpl (i := 1376) (by decide +kernel), rfl, rfl, by decide⟩
set_option maxRecDepth 100000 in
theorem f_Md_195 : zFld "ZigzagTabletsModel" 195 11 80 true (.array .char) := ⟨"ZigzagTabletsModel", zT11, 101, zY11, rfl, zi11, zy11, zn11, by decide, rfl, rfl, rfl, zpl (i := 1377) (by decide +kernel), rfl, rfl, by decide⟩
set_option maxRecDepth 100000 in
theorem k_Md_566 : zLnV "ZigzagTabletsModel" 566 2 y_Md_qOpens := ⟨⟨zpl (i := 1699) (by decide +kernel), zpl (i := 1702) (by decide +kernel), zpl (i := 157) (by decide +kernel), ⟨by decide, by decide, by decide +kernel⟩, by decide⟩, zpl (i := 1701) (by decide +kernel), zpl (i := 73) (by decide +kernel)⟩
set_option maxRecDepth 100000 in
theorem k_Md_569 : zLnV "ZigzagTabletsModel" 569 1 y_Md_qAsksWord := ⟨⟨zpl (i := 1739) (by decide +kernel), zpl (i := 1742) (by decide +kernel), zpl (i := 157) (by decide +kernel), ⟨by decide, by decide, by decide +kernel⟩, by decide⟩, zpl (i := 1741) (by decide +kernel), zpl (i := 83) (by decide +kernel)⟩
set_option maxRecDepth 100000 in
theorem k_Md_572 : zLnV "ZigzagTabletsModel" 572 0 y_Md_columnHere := ⟨⟨zpl (i := 1743) (by decide +kernel), zpl (i := 1746) (by decide +kernel), zpl (i := 157) (by decide +kernel), ⟨by decide, by decide, by decide +kernel⟩, by decide⟩, zpl (i := 1745) (by decide +kernel), zpl (i := 84) (by decide +kernel)⟩
set_option maxRecDepth 100000 in
theorem k_Md_575 : zLnV "ZigzagTabletsModel" 575 0 y_Md_qEndsPart := ⟨⟨zpl (i := 1747) (by decide +kernel), zpl (i := 1750) (by decide +kernel), zpl (i := 157) (by decide +kernel), ⟨by decide, by decide, by decide +kernel⟩, by decide⟩, zpl (i := 1749) (by decide +kernel), zpl (i := 85) (by decide +kernel)⟩
set_option maxRecDepth 100000 in
theorem k_Md_578 : zLnV "ZigzagTabletsModel" 578 0 y_Md_qBracket := ⟨⟨zpl (i := 1759) (by decide +kernel), zpl (i := 1762) (by decide +kernel), zpl (i := 157) (by decide +kernel), ⟨by decide, by decide, by decide +kernel⟩, by decide⟩, zpl (i := 1761) (by decide +kernel), zpl (i := 88) (by decide +kernel)⟩
set_option maxRecDepth 100000 in
theorem k_Md_581 : zLnV "ZigzagTabletsModel" 581 0 y_Md_qDropsToBracket := ⟨⟨zpl (i := 1766) (by decide +kernel), zpl (i := 1769) (by decide +kernel), zpl (i := 157) (by decide +kernel), ⟨by decide, by decide, by decide +kernel⟩, by decide⟩, zpl (i := 1768) (by decide +kernel), zpl (i := 89) (by decide +kernel)⟩
set_option maxRecDepth 100000 in
theorem k_Md_584 : zLnV "ZigzagTabletsModel" 584 1 y_Md_qIsOn := ⟨⟨zpl (i := 1770) (by decide +kernel), zpl (i := 1773) (by decide +kernel), zpl (i := 157) (by decide +kernel), ⟨by decide, by decide, by decide +kernel⟩, by decide⟩, zpl (i := 1772) (by decide +kernel), zpl (i := 90) (by decide +kernel)⟩
set_option maxRecDepth 100000 in
theorem k_Md_587 : zLnV "ZigzagTabletsModel" 587 0 y_Md_qPartTold := ⟨⟨zpl (i := 1715) (by decide +kernel), zpl (i := 1718) (by decide +kernel), zpl (i := 157) (by decide +kernel), ⟨by decide, by decide, by decide +kernel⟩, by decide⟩, zpl (i := 1717) (by decide +kernel), zpl (i := 77) (by decide +kernel)⟩
set_option maxRecDepth 100000 in
theorem k_Md_590 : zLnV "ZigzagTabletsModel" 590 0 y_Md_qGoesOn := ⟨⟨zpl (i := 1755) (by decide +kernel), zpl (i := 1758) (by decide +kernel), zpl (i := 157) (by decide +kernel), ⟨by decide, by decide, by decide +kernel⟩, by decide⟩, zpl (i := 1757) (by decide +kernel), zpl (i := 87) (by decide +kernel)⟩
set_option maxRecDepth 100000 in
theorem f_Md_189 : zFld "ZigzagTabletsModel" 189 11 78 true (.array .char) := ⟨"ZigzagTabletsModel", zT11, 101, zY11, rfl, zi11, zy11, zn11, by decide, rfl, rfl, rfl, zpl (i := 1375) (by decide +kernel), rfl, rfl, by decide⟩
set_option maxRecDepth 100000 in
theorem f_Md_180 : zFld "ZigzagTabletsModel" 180 11 75 true (.array .char) := ⟨"ZigzagTabletsModel", zT11, 101, zY11, rfl, zi11, zy11, zn11, by decide, rfl, rfl, rfl, zpl (i := 1372) (by decide +kernel), rfl, rfl, by decide⟩
set_option maxRecDepth 100000 in
theorem k_Md_593 : zLnV "ZigzagTabletsModel" 593 0 y_Md_qFact := ⟨⟨zpl (i := 1703) (by decide +kernel), zpl (i := 1706) (by decide +kernel), zpl (i := 157) (by decide +kernel), ⟨by decide, by decide, by decide +kernel⟩, by decide⟩, zpl (i := 1705) (by decide +kernel), zpl (i := 74) (by decide +kernel)⟩
set_option maxRecDepth 100000 in
theorem k_Md_596 : zLnV "ZigzagTabletsModel" 596 0 y_Md_qDropsNots := ⟨⟨zpl (i := 1774) (by decide +kernel), zpl (i := 1777) (by decide +kernel), zpl (i := 157) (by decide +kernel), ⟨by decide, by decide, by decide +kernel⟩, by decide⟩, zpl (i := 1776) (by decide +kernel), zpl (i := 91) (by decide +kernel)⟩
set_option maxRecDepth 100000 in
theorem k_Md_599 : zLnV "ZigzagTabletsModel" 599 0 y_Md_qGoesOnTest := ⟨⟨zpl (i := 1778) (by decide +kernel), zpl (i := 1781) (by decide +kernel), zpl (i := 157) (by decide +kernel), ⟨by decide, by decide, by decide +kernel⟩, by decide⟩, zpl (i := 1780) (by decide +kernel), zpl (i := 92) (by decide +kernel)⟩
set_option maxRecDepth 100000 in
theorem k_Md_602 : zLnV "ZigzagTabletsModel" 602 0 y_Md_qHasSquare := ⟨⟨zpl (i := 1782) (by decide +kernel), zpl (i := 1785) (by decide +kernel), zpl (i := 157) (by decide +kernel), ⟨by decide, by decide, by decide +kernel⟩, by decide⟩, zpl (i := 1784) (by decide +kernel), zpl (i := 93) (by decide +kernel)⟩
set_option maxRecDepth 100000 in
theorem f_Md_183 : zFld "ZigzagTabletsModel" 183 11 76 true (.array .char) := ⟨"ZigzagTabletsModel", zT11, 101, zY11, rfl, zi11, zy11, zn11, by decide, rfl, rfl, rfl, zpl (i := 1373) (by decide +kernel), rfl, rfl, by decide⟩
set_option maxRecDepth 100000 in
theorem f_Md_186 : zFld "ZigzagTabletsModel" 186 11 77 true (.array .char) := ⟨"ZigzagTabletsModel", zT11, 101, zY11, rfl, zi11, zy11, zn11, by decide, rfl, rfl, rfl, zpl (i := 1374) (by decide +kernel), rfl, rfl, by decide⟩
set_option maxRecDepth 100000 in
theorem k_Md_605 : zLnS "ZigzagTabletsModel" 605 1 y_Md_qClip := ⟨⟨zpl (i := 1842) (by decide +kernel), zpl (i := 1844) (by decide +kernel), zpl (i := 157) (by decide +kernel), ⟨by decide, by decide, by decide +kernel⟩, by decide⟩, zpl (i := 1843) (by decide +kernel)⟩
set_option maxRecDepth 100000 in
theorem k_Md_609 : zLnS "ZigzagTabletsModel" 609 2 y_Md_qFloor := ⟨⟨zpl (i := 1847) (by decide +kernel), zpl (i := 1849) (by decide +kernel), zpl (i := 157) (by decide +kernel), ⟨by decide, by decide, by decide +kernel⟩, by decide⟩, zpl (i := 1848) (by decide +kernel)⟩
set_option maxRecDepth 100000 in
theorem f_Md_613 : zFld "ZigzagTabletsModel" 613 11 53 false .int := ⟨"ZigzagTabletsModel", zT11, 101, zY11, rfl, zi11, zy11, zn11, by decide, rfl, rfl, rfl, zpl (i := 1350) (by decide +kernel), rfl, rfl, by decide⟩
set_option maxRecDepth 100000 in
theorem k_Md_616 : zLnV "ZigzagTabletsModel" 616 3 y_Md_qOf := ⟨⟨zpl (i := 2076) (by decide +kernel), zpl (i := 2079) (by decide +kernel), zpl (i := 157) (by decide +kernel), ⟨by decide, by decide, by decide +kernel⟩, by decide⟩, zpl (i := 2078) (by decide +kernel), zpl (i := 135) (by decide +kernel)⟩
set_option maxRecDepth 100000 in
theorem f_Md_162 : zFld "ZigzagTabletsModel" 162 11 69 true (.array .char) := ⟨"ZigzagTabletsModel", zT11, 101, zY11, rfl, zi11, zy11, zn11, by decide, rfl, rfl, rfl, zpl (i := 1366) (by decide +kernel), rfl, rfl, by decide⟩
set_option maxRecDepth 100000 in
theorem f_Md_165 : zFld "ZigzagTabletsModel" 165 11 70 true (.array .char) := ⟨"ZigzagTabletsModel", zT11, 101, zY11, rfl, zi11, zy11, zn11, by decide, rfl, rfl, rfl, zpl (i := 1367) (by decide +kernel), rfl, rfl, by decide⟩
set_option maxRecDepth 100000 in
theorem f_Md_168 : zFld "ZigzagTabletsModel" 168 11 71 true (.array .char) := ⟨"ZigzagTabletsModel", zT11, 101, zY11, rfl, zi11, zy11, zn11, by decide, rfl, rfl, rfl, zpl (i := 1368) (by decide +kernel), rfl, rfl, by decide⟩
set_option maxRecDepth 100000 in
theorem f_Md_171 : zFld "ZigzagTabletsModel" 171 11 72 true (.array .char) := ⟨"ZigzagTabletsModel", zT11, 101, zY11, rfl, zi11, zy11, zn11, by decide, rfl, rfl, rfl, zpl (i := 1369) (by decide +kernel), rfl, rfl, by decide⟩
set_option maxRecDepth 100000 in
theorem f_Md_174 : zFld "ZigzagTabletsModel" 174 11 73 true (.array .char) := ⟨"ZigzagTabletsModel", zT11, 101, zY11, rfl, zi11, zy11, zn11, by decide, rfl, rfl, rfl, zpl (i := 1370) (by decide +kernel), rfl, rfl, by decide⟩
set_option maxRecDepth 100000 in
theorem f_Md_177 : zFld "ZigzagTabletsModel" 177 11 74 true (.array .char) := ⟨"ZigzagTabletsModel", zT11, 101, zY11, rfl, zi11, zy11, zn11, by decide, rfl, rfl, rfl, zpl (i := 1371) (by decide +kernel), rfl, rfl, by decide⟩
set_option maxRecDepth 100000 in
theorem f_Md_620 : zFld "ZigzagTabletsModel" 620 11 97 false .long := ⟨"ZigzagTabletsModel", zT11, 101, zY11, rfl, zi11, zy11, zn11, by decide, rfl, rfl, rfl, zpl (i := 1394) (by decide +kernel), rfl, rfl, by decide⟩
set_option maxRecDepth 100000 in
theorem f_Md_625 : zFld "ZigzagTabletsModel" 625 11 98 false .boolean := ⟨"ZigzagTabletsModel", zT11, 101, zY11, rfl, zi11, zy11, zn11, by decide, rfl, rfl, rfl, zpl (i := 1395) (by decide +kernel), rfl, rfl, by decide⟩
set_option maxRecDepth 100000 in
theorem k_Md_628 : zLnV "ZigzagTabletsModel" 628 0 y_Md_qKind := ⟨⟨zpl (i := 2067) (by decide +kernel), zpl (i := 2070) (by decide +kernel), zpl (i := 157) (by decide +kernel), ⟨by decide, by decide, by decide +kernel⟩, by decide⟩, zpl (i := 2069) (by decide +kernel), zpl (i := 133) (by decide +kernel)⟩
set_option maxRecDepth 100000 in
theorem k_Md_631 : zLnV "ZigzagTabletsModel" 631 1 y_Md_qTold := ⟨⟨zpl (i := 2072) (by decide +kernel), zpl (i := 2075) (by decide +kernel), zpl (i := 157) (by decide +kernel), ⟨by decide, by decide, by decide +kernel⟩, by decide⟩, zpl (i := 2074) (by decide +kernel), zpl (i := 134) (by decide +kernel)⟩
set_option maxRecDepth 100000 in
theorem k_Md_634 : zLnV "ZigzagTabletsModel" 634 3 y_Md_qTakes := ⟨⟨zpl (i := 2080) (by decide +kernel), zpl (i := 2083) (by decide +kernel), zpl (i := 157) (by decide +kernel), ⟨by decide, by decide, by decide +kernel⟩, by decide⟩, zpl (i := 2082) (by decide +kernel), zpl (i := 136) (by decide +kernel)⟩
set_option maxRecDepth 100000 in
theorem f_Md_231 : zFld "ZigzagTabletsModel" 231 11 99 true (.array .int) := ⟨"ZigzagTabletsModel", zT11, 101, zY11, rfl, zi11, zy11, zn11, by decide, rfl, rfl, rfl, zpl (i := 1396) (by decide +kernel), rfl, rfl, by decide⟩
set_option maxRecDepth 100000 in
theorem f_Md_638 : zFld "ZigzagTabletsModel" 638 11 100 false .int := ⟨"ZigzagTabletsModel", zT11, 101, zY11, rfl, zi11, zy11, zn11, by decide, rfl, rfl, rfl, zpl (i := 1397) (by decide +kernel), rfl, rfl, by decide⟩
set_option maxRecDepth 100000 in
theorem k_Md_641 : zLnV "ZigzagTabletsModel" 641 1 y_Md_writes := ⟨⟨zpl (i := 2100) (by decide +kernel), zpl (i := 2103) (by decide +kernel), zpl (i := 157) (by decide +kernel), ⟨by decide, by decide, by decide +kernel⟩, by decide⟩, zpl (i := 2102) (by decide +kernel), zpl (i := 138) (by decide +kernel)⟩
set_option maxRecDepth 100000 in
theorem k_Md_644 : zLnV "ZigzagTabletsModel" 644 1 y_Md_writesTwo := ⟨⟨zpl (i := 2096) (by decide +kernel), zpl (i := 2099) (by decide +kernel), zpl (i := 157) (by decide +kernel), ⟨by decide, by decide, by decide +kernel⟩, by decide⟩, zpl (i := 2098) (by decide +kernel), zpl (i := 137) (by decide +kernel)⟩
set_option maxRecDepth 100000 in
theorem k_Md_648 : zLnS "ZigzagTabletsModel" 648 2 y_Md_checked := ⟨⟨zpl (i := 2105) (by decide +kernel), zpl (i := 2107) (by decide +kernel), zpl (i := 157) (by decide +kernel), ⟨by decide, by decide, by decide +kernel⟩, by decide⟩, zpl (i := 2106) (by decide +kernel)⟩
set_option maxRecDepth 100000 in
theorem k_Md_652 : zLnV "ZigzagTabletsModel" 652 1 y_Md_twoAt := ⟨⟨zpl (i := 2116) (by decide +kernel), zpl (i := 2119) (by decide +kernel), zpl (i := 157) (by decide +kernel), ⟨by decide, by decide, by decide +kernel⟩, by decide⟩, zpl (i := 2118) (by decide +kernel), zpl (i := 140) (by decide +kernel)⟩
set_option maxRecDepth 100000 in
theorem k_Md_655 : zLnV "ZigzagTabletsModel" 655 1 y_Md_valueAt := ⟨⟨zpl (i := 2120) (by decide +kernel), zpl (i := 2123) (by decide +kernel), zpl (i := 157) (by decide +kernel), ⟨by decide, by decide, by decide +kernel⟩, by decide⟩, zpl (i := 2122) (by decide +kernel), zpl (i := 141) (by decide +kernel)⟩
set_option maxRecDepth 100000 in
theorem k_Md_658 : zLnV "ZigzagTabletsModel" 658 1 y_Md_isImage := ⟨⟨zpl (i := 2112) (by decide +kernel), zpl (i := 2115) (by decide +kernel), zpl (i := 157) (by decide +kernel), ⟨by decide, by decide, by decide +kernel⟩, by decide⟩, zpl (i := 2114) (by decide +kernel), zpl (i := 139) (by decide +kernel)⟩
set_option maxRecDepth 100000 in
theorem f_Code_20 : zFld "ZigzagTablets$Code" 20 0 2 false .int := ⟨"ZigzagTablets$Code", zT0, 3, zY0, rfl, zi0, zy0, zn0, by decide, rfl, rfl, rfl, zpl (i := 357) (by decide +kernel), rfl, rfl, by decide⟩
set_option maxRecDepth 100000 in
theorem f_Code_11 : zFld "ZigzagTablets$Code" 11 0 0 true (.array .int) := ⟨"ZigzagTablets$Code", zT0, 3, zY0, rfl, zi0, zy0, zn0, by decide, rfl, rfl, rfl, zpl (i := 355) (by decide +kernel), rfl, rfl, by decide⟩
set_option maxRecDepth 100000 in
theorem f_Code_17 : zFld "ZigzagTablets$Code" 17 0 1 true (.array .int) := ⟨"ZigzagTablets$Code", zT0, 3, zY0, rfl, zi0, zy0, zn0, by decide, rfl, rfl, rfl, zpl (i := 356) (by decide +kernel), rfl, rfl, by decide⟩
set_option maxRecDepth 100000 in
theorem k_Code_34 : zLnS "ZigzagTablets$Code" 34 3 y_Code_joined := ⟨⟨zpl (i := 608) (by decide +kernel), zpl (i := 610) (by decide +kernel), zpl (i := 150) (by decide +kernel), ⟨by decide, by decide, by decide +kernel⟩, by decide⟩, zpl (i := 609) (by decide +kernel)⟩
set_option maxRecDepth 100000 in
theorem ka_Code_30_Tablet : zLnA "ZigzagTablets$Code" 30 2 ⟨"ZigzagTablets$Scene", "asked", "(II)I"⟩ y_Tablet_asked := ⟨zpl (i := 599) (by decide +kernel), zpl (i := 601) (by decide +kernel), zpl (i := 605) (by decide +kernel), zpl (i := 606) (by decide +kernel), zpl (i := 153) (by decide +kernel), zpl (i := 600) (by decide +kernel), zpl (i := 607) (by decide +kernel), ⟨by decide, by decide⟩, by decide +kernel, by decide⟩
set_option maxRecDepth 100000 in
theorem ka_Code_30_Question : zLnA "ZigzagTablets$Code" 30 2 ⟨"ZigzagTablets$Scene", "asked", "(II)I"⟩ y_Question_asked := ⟨zpl (i := 599) (by decide +kernel), zpl (i := 601) (by decide +kernel), zpl (i := 602) (by decide +kernel), zpl (i := 603) (by decide +kernel), zpl (i := 152) (by decide +kernel), zpl (i := 600) (by decide +kernel), zpl (i := 604) (by decide +kernel), ⟨by decide, by decide⟩, by decide +kernel, by decide⟩
set_option maxRecDepth 100000 in
theorem ka_Code_24_Tablet : zLnA "ZigzagTablets$Code" 24 1 ⟨"ZigzagTablets$Scene", "told", "(I)I"⟩ y_Tablet_told := ⟨zpl (i := 578) (by decide +kernel), zpl (i := 580) (by decide +kernel), zpl (i := 596) (by decide +kernel), zpl (i := 597) (by decide +kernel), zpl (i := 153) (by decide +kernel), zpl (i := 579) (by decide +kernel), zpl (i := 598) (by decide +kernel), ⟨by decide, by decide⟩, by decide +kernel, by decide⟩
set_option maxRecDepth 100000 in
theorem ka_Code_24_Question : zLnA "ZigzagTablets$Code" 24 1 ⟨"ZigzagTablets$Scene", "told", "(I)I"⟩ y_Question_told := ⟨zpl (i := 578) (by decide +kernel), zpl (i := 580) (by decide +kernel), zpl (i := 581) (by decide +kernel), zpl (i := 582) (by decide +kernel), zpl (i := 152) (by decide +kernel), zpl (i := 579) (by decide +kernel), zpl (i := 583) (by decide +kernel), ⟨by decide, by decide⟩, by decide +kernel, by decide⟩
set_option maxRecDepth 100000 in
theorem k_Code_42 : zLnS "ZigzagTablets$Code" 42 2 y_Jm_min_JJJ := ⟨⟨zpl (i := 613) (by decide +kernel), zpl (i := 615) (by decide +kernel), zpl (i := 155) (by decide +kernel), ⟨by decide, by decide, by decide +kernel⟩, by decide⟩, zpl (i := 614) (by decide +kernel)⟩
set_option maxRecDepth 100000 in
theorem k_Code_48 : zLnS "ZigzagTablets$Code" 48 2 y_Jm_max_JJJ := ⟨⟨zpl (i := 616) (by decide +kernel), zpl (i := 618) (by decide +kernel), zpl (i := 155) (by decide +kernel), ⟨by decide, by decide, by decide +kernel⟩, by decide⟩, zpl (i := 617) (by decide +kernel)⟩
set_option maxRecDepth 100000 in
theorem k_Code_51 : zLnS "ZigzagTablets$Code" 51 2 y_Jm_floorDiv := ⟨⟨zpl (i := 619) (by decide +kernel), zpl (i := 621) (by decide +kernel), zpl (i := 155) (by decide +kernel), ⟨by decide, by decide, by decide +kernel⟩, by decide⟩, zpl (i := 620) (by decide +kernel)⟩
set_option maxRecDepth 100000 in
theorem k_Code_54 : zLnS "ZigzagTablets$Code" 54 2 y_Jm_min_III := ⟨⟨zpl (i := 622) (by decide +kernel), zpl (i := 592) (by decide +kernel), zpl (i := 155) (by decide +kernel), ⟨by decide, by decide, by decide +kernel⟩, by decide⟩, zpl (i := 591) (by decide +kernel)⟩
set_option maxRecDepth 100000 in
theorem k_Code_56 : zLnS "ZigzagTablets$Code" 56 2 y_Jm_max_III := ⟨⟨zpl (i := 623) (by decide +kernel), zpl (i := 595) (by decide +kernel), zpl (i := 155) (by decide +kernel), ⟨by decide, by decide, by decide +kernel⟩, by decide⟩, zpl (i := 594) (by decide +kernel)⟩
set_option maxRecDepth 100000 in
theorem f_Column_15 : zFld "ZigzagTablets$Column" 15 1 1 false .int := ⟨"ZigzagTablets$Column", zT1, 11, zY1, rfl, zi1, zy1, zn1, by decide, rfl, rfl, rfl, zpl (i := 454) (by decide +kernel), rfl, rfl, by decide⟩
set_option maxRecDepth 100000 in
theorem f_Column_19 : zFld "ZigzagTablets$Column" 19 1 2 false .int := ⟨"ZigzagTablets$Column", zT1, 11, zY1, rfl, zi1, zy1, zn1, by decide, rfl, rfl, rfl, zpl (i := 458) (by decide +kernel), rfl, rfl, by decide⟩
set_option maxRecDepth 100000 in
theorem f_Column_22 : zFld "ZigzagTablets$Column" 22 1 3 false .int := ⟨"ZigzagTablets$Column", zT1, 11, zY1, rfl, zi1, zy1, zn1, by decide, rfl, rfl, rfl, zpl (i := 463) (by decide +kernel), rfl, rfl, by decide⟩
set_option maxRecDepth 100000 in
theorem f_Column_25 : zFld "ZigzagTablets$Column" 25 1 4 false .int := ⟨"ZigzagTablets$Column", zT1, 11, zY1, rfl, zi1, zy1, zn1, by decide, rfl, rfl, rfl, zpl (i := 468) (by decide +kernel), rfl, rfl, by decide⟩
set_option maxRecDepth 100000 in
theorem f_Column_28 : zFld "ZigzagTablets$Column" 28 1 5 false .boolean := ⟨"ZigzagTablets$Column", zT1, 11, zY1, rfl, zi1, zy1, zn1, by decide, rfl, rfl, rfl, zpl (i := 471) (by decide +kernel), rfl, rfl, by decide⟩
set_option maxRecDepth 100000 in
theorem f_Column_32 : zFld "ZigzagTablets$Column" 32 1 6 false .int := ⟨"ZigzagTablets$Column", zT1, 11, zY1, rfl, zi1, zy1, zn1, by decide, rfl, rfl, rfl, zpl (i := 474) (by decide +kernel), rfl, rfl, by decide⟩
set_option maxRecDepth 100000 in
theorem f_Column_35 : zFld "ZigzagTablets$Column" 35 1 7 false .int := ⟨"ZigzagTablets$Column", zT1, 11, zY1, rfl, zi1, zy1, zn1, by decide, rfl, rfl, rfl, zpl (i := 478) (by decide +kernel), rfl, rfl, by decide⟩
set_option maxRecDepth 100000 in
theorem f_Column_38 : zFld "ZigzagTablets$Column" 38 1 8 false .int := ⟨"ZigzagTablets$Column", zT1, 11, zY1, rfl, zi1, zy1, zn1, by decide, rfl, rfl, rfl, zpl (i := 480) (by decide +kernel), rfl, rfl, by decide⟩
set_option maxRecDepth 100000 in
theorem f_Column_41 : zFld "ZigzagTablets$Column" 41 1 9 false .int := ⟨"ZigzagTablets$Column", zT1, 11, zY1, rfl, zi1, zy1, zn1, by decide, rfl, rfl, rfl, zpl (i := 482) (by decide +kernel), rfl, rfl, by decide⟩
set_option maxRecDepth 100000 in
theorem f_Column_44 : zFld "ZigzagTablets$Column" 44 1 10 false .int := ⟨"ZigzagTablets$Column", zT1, 11, zY1, rfl, zi1, zy1, zn1, by decide, rfl, rfl, rfl, zpl (i := 485) (by decide +kernel), rfl, rfl, by decide⟩
set_option maxRecDepth 100000 in
theorem k_Column_47 : zLnV "ZigzagTablets$Column" 47 0 y_Column_moves := ⟨⟨zpl (i := 1116) (by decide +kernel), zpl (i := 573) (by decide +kernel), zpl (i := 154) (by decide +kernel), ⟨by decide, by decide, by decide +kernel⟩, by decide⟩, zpl (i := 571) (by decide +kernel), zpl (i := 572) (by decide +kernel)⟩
set_option maxRecDepth 100000 in
theorem k_Column_51 : zLnS "ZigzagTablets$Column" 51 2 y_Jm_floorMod := ⟨⟨zpl (i := 1117) (by decide +kernel), zpl (i := 1049) (by decide +kernel), zpl (i := 155) (by decide +kernel), ⟨by decide, by decide, by decide +kernel⟩, by decide⟩, zpl (i := 1048) (by decide +kernel)⟩
set_option maxRecDepth 100000 in
theorem f_Course_25 : zFld "ZigzagTablets$Course" 25 2 3 false (.object "ZigzagTablets$Tablet") := ⟨"ZigzagTablets$Course", zT2, 5, zY2, rfl, zi2, zy2, zn2, by decide, rfl, rfl, rfl, zpl (i := 230) (by decide +kernel), rfl, rfl, by decide⟩
set_option maxRecDepth 100000 in
theorem f_Course_12 : zFld "ZigzagTablets$Course" 12 2 2 true (.object "ZigzagTablets$Line") := ⟨"ZigzagTablets$Course", zT2, 5, zY2, rfl, zi2, zy2, zn2, by decide, rfl, rfl, rfl, zpl (i := 229) (by decide +kernel), rfl, rfl, by decide⟩
set_option maxRecDepth 100000 in
theorem k_Course_29 : zLnV "ZigzagTablets$Course" 29 1 y_Line_copy := ⟨⟨zpl (i := 628) (by decide +kernel), zpl (i := 631) (by decide +kernel), zpl (i := 145) (by decide +kernel), ⟨by decide, by decide, by decide +kernel⟩, by decide⟩, zpl (i := 629) (by decide +kernel), zpl (i := 630) (by decide +kernel)⟩
set_option maxRecDepth 100000 in
theorem f_Course_33 : zFld "ZigzagTablets$Course" 33 2 4 false .int := ⟨"ZigzagTablets$Course", zT2, 5, zY2, rfl, zi2, zy2, zn2, by decide, rfl, rfl, rfl, zpl (i := 231) (by decide +kernel), rfl, rfl, by decide⟩
set_option maxRecDepth 100000 in
theorem k_Course_37 : zLnV "ZigzagTablets$Course" 37 0 y_Course_store := ⟨⟨zpl (i := 635) (by decide +kernel), zpl (i := 638) (by decide +kernel), zpl (i := 146) (by decide +kernel), ⟨by decide, by decide, by decide +kernel⟩, by decide⟩, zpl (i := 637) (by decide +kernel), zpl (i := 1) (by decide +kernel)⟩
set_option maxRecDepth 100000 in
theorem f_Course_22 : zFld "ZigzagTablets$Course" 22 2 1 true (.array .int) := ⟨"ZigzagTablets$Course", zT2, 5, zY2, rfl, zi2, zy2, zn2, by decide, rfl, rfl, rfl, zpl (i := 228) (by decide +kernel), rfl, rfl, by decide⟩
set_option maxRecDepth 100000 in
theorem k_Course_40 : zLnV "ZigzagTablets$Course" 40 3 y_Tablet_next := ⟨⟨zpl (i := 1030) (by decide +kernel), zpl (i := 1033) (by decide +kernel), zpl (i := 153) (by decide +kernel), ⟨by decide, by decide, by decide +kernel⟩, by decide⟩, zpl (i := 1031) (by decide +kernel), zpl (i := 1032) (by decide +kernel)⟩
set_option maxRecDepth 100000 in
theorem f_Course_46 : zFld "ZigzagTablets$Course" 46 4 2 false .int := ⟨"ZigzagTablets$Line", zT4, 3, zY4, rfl, zi4, zy4, zn4, by decide, rfl, rfl, rfl, zpl (i := 210) (by decide +kernel), rfl, rfl, by decide⟩
set_option maxRecDepth 100000 in
theorem f_Course_48 : zFld "ZigzagTablets$Course" 48 4 0 true (.array .int) := ⟨"ZigzagTablets$Line", zT4, 3, zY4, rfl, zi4, zy4, zn4, by decide, rfl, rfl, rfl, zpl (i := 199) (by decide +kernel), rfl, rfl, by decide⟩
set_option maxRecDepth 100000 in
theorem f_Course_18 : zFld "ZigzagTablets$Course" 18 2 0 true (.array .int) := ⟨"ZigzagTablets$Course", zT2, 5, zY2, rfl, zi2, zy2, zn2, by decide, rfl, rfl, rfl, zpl (i := 227) (by decide +kernel), rfl, rfl, by decide⟩
set_option maxRecDepth 100000 in
theorem f_Course_55 : zFld "ZigzagTablets$Course" 55 4 1 false .int := ⟨"ZigzagTablets$Line", zT4, 3, zY4, rfl, zi4, zy4, zn4, by decide, rfl, rfl, rfl, zpl (i := 207) (by decide +kernel), rfl, rfl, by decide⟩
set_option maxRecDepth 100000 in
theorem k_Course_58 : zLnV "ZigzagTablets$Course" 58 2 y_Course_told := ⟨⟨zpl (i := 1081) (by decide +kernel), zpl (i := 587) (by decide +kernel), zpl (i := 146) (by decide +kernel), ⟨by decide, by decide, by decide +kernel⟩, by decide⟩, zpl (i := 585) (by decide +kernel), zpl (i := 586) (by decide +kernel)⟩
set_option maxRecDepth 100000 in
theorem f_History_28 : zFld "ZigzagTablets$History" 28 3 4 false .int := ⟨"ZigzagTablets$History", zT3, 7, zY3, rfl, zi3, zy3, zn3, by decide, rfl, rfl, rfl, zpl (i := 256) (by decide +kernel), rfl, rfl, by decide⟩
set_option maxRecDepth 100000 in
theorem f_History_32 : zFld "ZigzagTablets$History" 32 3 6 false .int := ⟨"ZigzagTablets$History", zT3, 7, zY3, rfl, zi3, zy3, zn3, by decide, rfl, rfl, rfl, zpl (i := 258) (by decide +kernel), rfl, rfl, by decide⟩
set_option maxRecDepth 100000 in
theorem f_History_9 : zFld "ZigzagTablets$History" 9 3 0 true (.array .int) := ⟨"ZigzagTablets$History", zT3, 7, zY3, rfl, zi3, zy3, zn3, by decide, rfl, rfl, rfl, zpl (i := 252) (by decide +kernel), rfl, rfl, by decide⟩
set_option maxRecDepth 100000 in
theorem f_History_15 : zFld "ZigzagTablets$History" 15 3 1 true (.array .int) := ⟨"ZigzagTablets$History", zT3, 7, zY3, rfl, zi3, zy3, zn3, by decide, rfl, rfl, rfl, zpl (i := 253) (by decide +kernel), rfl, rfl, by decide⟩
set_option maxRecDepth 100000 in
theorem k_History_35 : zLnS "ZigzagTablets$History" 35 2 y_Jm_min_III := ⟨⟨zpl (i := 983) (by decide +kernel), zpl (i := 592) (by decide +kernel), zpl (i := 155) (by decide +kernel), ⟨by decide, by decide, by decide +kernel⟩, by decide⟩, zpl (i := 591) (by decide +kernel)⟩
set_option maxRecDepth 100000 in
theorem k_History_41 : zLnV "ZigzagTablets$History" 41 0 y_History_keptTold := ⟨⟨zpl (i := 1013) (by decide +kernel), zpl (i := 982) (by decide +kernel), zpl (i := 147) (by decide +kernel), ⟨by decide, by decide, by decide +kernel⟩, by decide⟩, zpl (i := 980) (by decide +kernel), zpl (i := 981) (by decide +kernel)⟩
set_option maxRecDepth 100000 in
theorem f_History_45 : zFld "ZigzagTablets$History" 45 3 5 false .int := ⟨"ZigzagTablets$History", zT3, 7, zY3, rfl, zi3, zy3, zn3, by decide, rfl, rfl, rfl, zpl (i := 257) (by decide +kernel), rfl, rfl, by decide⟩
set_option maxRecDepth 100000 in
theorem f_History_20 : zFld "ZigzagTablets$History" 20 3 2 true (.array (.object "ZigzagTablets$Line")) := ⟨"ZigzagTablets$History", zT3, 7, zY3, rfl, zi3, zy3, zn3, by decide, rfl, rfl, rfl, zpl (i := 254) (by decide +kernel), rfl, rfl, by decide⟩
set_option maxRecDepth 100000 in
theorem k_History_48 : zLnV "ZigzagTablets$History" 48 1 y_Line_copy := ⟨⟨zpl (i := 1186) (by decide +kernel), zpl (i := 631) (by decide +kernel), zpl (i := 145) (by decide +kernel), ⟨by decide, by decide, by decide +kernel⟩, by decide⟩, zpl (i := 629) (by decide +kernel), zpl (i := 630) (by decide +kernel)⟩
set_option maxRecDepth 100000 in
theorem f_History_24 : zFld "ZigzagTablets$History" 24 3 3 true (.array .int) := ⟨"ZigzagTablets$History", zT3, 7, zY3, rfl, zi3, zy3, zn3, by decide, rfl, rfl, rfl, zpl (i := 255) (by decide +kernel), rfl, rfl, by decide⟩
set_option maxRecDepth 100000 in
theorem f_Line_15 : zFld "ZigzagTablets$Line" 15 4 1 false .int := ⟨"ZigzagTablets$Line", zT4, 3, zY4, rfl, zi4, zy4, zn4, by decide, rfl, rfl, rfl, zpl (i := 203) (by decide +kernel), rfl, rfl, by decide⟩
set_option maxRecDepth 100000 in
theorem f_Line_19 : zFld "ZigzagTablets$Line" 19 4 2 false .int := ⟨"ZigzagTablets$Line", zT4, 3, zY4, rfl, zi4, zy4, zn4, by decide, rfl, rfl, rfl, zpl (i := 208) (by decide +kernel), rfl, rfl, by decide⟩
set_option maxRecDepth 100000 in
theorem f_Line_9 : zFld "ZigzagTablets$Line" 9 4 0 true (.array .int) := ⟨"ZigzagTablets$Line", zT4, 3, zY4, rfl, zi4, zy4, zn4, by decide, rfl, rfl, rfl, zpl (i := 197) (by decide +kernel), rfl, rfl, by decide⟩
set_option maxRecDepth 100000 in
theorem f_Piece_41 : zFld "ZigzagTablets$Piece" 41 5 8 false .int := ⟨"ZigzagTablets$Piece", zT5, 17, zY5, rfl, zi5, zy5, zn5, by decide, rfl, rfl, rfl, zpl (i := 293) (by decide +kernel), rfl, rfl, by decide⟩
set_option maxRecDepth 100000 in
theorem k_Piece_45 : zLnV "ZigzagTablets$Piece" 45 0 y_Piece_changed := ⟨⟨zpl (i := 648) (by decide +kernel), zpl (i := 651) (by decide +kernel), zpl (i := 148) (by decide +kernel), ⟨by decide, by decide, by decide +kernel⟩, by decide⟩, zpl (i := 650) (by decide +kernel), zpl (i := 2) (by decide +kernel)⟩
set_option maxRecDepth 100000 in
theorem f_Piece_48 : zFld "ZigzagTablets$Piece" 48 5 14 false .boolean := ⟨"ZigzagTablets$Piece", zT5, 17, zY5, rfl, zi5, zy5, zn5, by decide, rfl, rfl, rfl, zpl (i := 305) (by decide +kernel), rfl, rfl, by decide⟩
set_option maxRecDepth 100000 in
theorem f_Piece_52 : zFld "ZigzagTablets$Piece" 52 5 15 false .boolean := ⟨"ZigzagTablets$Piece", zT5, 17, zY5, rfl, zi5, zy5, zn5, by decide, rfl, rfl, rfl, zpl (i := 306) (by decide +kernel), rfl, rfl, by decide⟩
set_option maxRecDepth 100000 in
theorem f_Piece_55 : zFld "ZigzagTablets$Piece" 55 5 16 false .int := ⟨"ZigzagTablets$Piece", zT5, 17, zY5, rfl, zi5, zy5, zn5, by decide, rfl, rfl, rfl, zpl (i := 307) (by decide +kernel), rfl, rfl, by decide⟩
set_option maxRecDepth 100000 in
theorem f_Piece_58 : zFld "ZigzagTablets$Piece" 58 9 1 false .int := ⟨"ZigzagTablets$Tape", zT9, 2, zY9, rfl, zi9, zy9, zn9, by decide, rfl, rfl, rfl, zpl (i := 183) (by decide +kernel), rfl, rfl, by decide⟩
set_option maxRecDepth 100000 in
theorem k_Piece_63 : zLnS "ZigzagTablets$Piece" 63 3 y_Piece_isRow := ⟨⟨zpl (i := 1126) (by decide +kernel), zpl (i := 1128) (by decide +kernel), zpl (i := 148) (by decide +kernel), ⟨by decide, by decide, by decide +kernel⟩, by decide⟩, zpl (i := 1127) (by decide +kernel)⟩
set_option maxRecDepth 100000 in
theorem f_Piece_18 : zFld "ZigzagTablets$Piece" 18 5 2 true (.array .int) := ⟨"ZigzagTablets$Piece", zT5, 17, zY5, rfl, zi5, zy5, zn5, by decide, rfl, rfl, rfl, zpl (i := 285) (by decide +kernel), rfl, rfl, by decide⟩
set_option maxRecDepth 100000 in
theorem f_Piece_67 : zFld "ZigzagTablets$Piece" 67 9 0 true (.array .int) := ⟨"ZigzagTablets$Tape", zT9, 2, zY9, rfl, zi9, zy9, zn9, by decide, rfl, rfl, rfl, zpl (i := 178) (by decide +kernel), rfl, rfl, by decide⟩
set_option maxRecDepth 100000 in
theorem f_Piece_22 : zFld "ZigzagTablets$Piece" 22 5 3 true (.array .int) := ⟨"ZigzagTablets$Piece", zT5, 17, zY5, rfl, zi5, zy5, zn5, by decide, rfl, rfl, rfl, zpl (i := 286) (by decide +kernel), rfl, rfl, by decide⟩
set_option maxRecDepth 100000 in
theorem f_Piece_25 : zFld "ZigzagTablets$Piece" 25 5 4 true (.array .int) := ⟨"ZigzagTablets$Piece", zT5, 17, zY5, rfl, zi5, zy5, zn5, by decide, rfl, rfl, rfl, zpl (i := 287) (by decide +kernel), rfl, rfl, by decide⟩
set_option maxRecDepth 100000 in
theorem k_Piece_70 : zLnV "ZigzagTablets$Piece" 70 1 y_Tape_pair := ⟨⟨zpl (i := 1130) (by decide +kernel), zpl (i := 1133) (by decide +kernel), zpl (i := 144) (by decide +kernel), ⟨by decide, by decide, by decide +kernel⟩, by decide⟩, zpl (i := 1131) (by decide +kernel), zpl (i := 1132) (by decide +kernel)⟩
set_option maxRecDepth 100000 in
theorem f_Piece_74 : zFld "ZigzagTablets$Piece" 74 8 2 false .int := ⟨"ZigzagTablets$Tablet", zT8, 10, zY8, rfl, zi8, zy8, zn8, by decide, rfl, rfl, rfl, zpl (i := 520) (by decide +kernel), rfl, rfl, by decide⟩
set_option maxRecDepth 100000 in
theorem f_Piece_79 : zFld "ZigzagTablets$Piece" 79 8 0 true (.array (.object "ZigzagTablets$Column")) := ⟨"ZigzagTablets$Tablet", zT8, 10, zY8, rfl, zi8, zy8, zn8, by decide, rfl, rfl, rfl, zpl (i := 513) (by decide +kernel), rfl, rfl, by decide⟩
set_option maxRecDepth 100000 in
theorem k_Piece_82 : zLnV "ZigzagTablets$Piece" 82 0 y_Column_moves := ⟨⟨zpl (i := 1129) (by decide +kernel), zpl (i := 573) (by decide +kernel), zpl (i := 154) (by decide +kernel), ⟨by decide, by decide, by decide +kernel⟩, by decide⟩, zpl (i := 571) (by decide +kernel), zpl (i := 572) (by decide +kernel)⟩
set_option maxRecDepth 100000 in
theorem k_Piece_88 : zLnV "ZigzagTablets$Piece" 88 1 y_Column_canTell := ⟨⟨zpl (i := 1134) (by decide +kernel), zpl (i := 1137) (by decide +kernel), zpl (i := 154) (by decide +kernel), ⟨by decide, by decide, by decide +kernel⟩, by decide⟩, zpl (i := 1135) (by decide +kernel), zpl (i := 1136) (by decide +kernel)⟩
set_option maxRecDepth 100000 in
theorem f_Piece_92 : zFld "ZigzagTablets$Piece" 92 5 9 false .int := ⟨"ZigzagTablets$Piece", zT5, 17, zY5, rfl, zi5, zy5, zn5, by decide, rfl, rfl, rfl, zpl (i := 295) (by decide +kernel), rfl, rfl, by decide⟩
set_option maxRecDepth 100000 in
theorem k_Piece_95 : zLnV "ZigzagTablets$Piece" 95 1 y_Piece_fitsAt := ⟨⟨zpl (i := 1146) (by decide +kernel), zpl (i := 1149) (by decide +kernel), zpl (i := 148) (by decide +kernel), ⟨by decide, by decide, by decide +kernel⟩, by decide⟩, zpl (i := 1148) (by decide +kernel), zpl (i := 45) (by decide +kernel)⟩
set_option maxRecDepth 100000 in
theorem f_Piece_31 : zFld "ZigzagTablets$Piece" 31 5 6 true (.array .int) := ⟨"ZigzagTablets$Piece", zT5, 17, zY5, rfl, zi5, zy5, zn5, by decide, rfl, rfl, rfl, zpl (i := 289) (by decide +kernel), rfl, rfl, by decide⟩
set_option maxRecDepth 100000 in
theorem f_Piece_37 : zFld "ZigzagTablets$Piece" 37 5 0 true (.object "ZigzagTablets$Course") := ⟨"ZigzagTablets$Piece", zT5, 17, zY5, rfl, zi5, zy5, zn5, by decide, rfl, rfl, rfl, zpl (i := 283) (by decide +kernel), rfl, rfl, by decide⟩
set_option maxRecDepth 100000 in
theorem k_Piece_98 : zLnV "ZigzagTablets$Piece" 98 2 y_Course_told := ⟨⟨zpl (i := 1150) (by decide +kernel), zpl (i := 587) (by decide +kernel), zpl (i := 146) (by decide +kernel), ⟨by decide, by decide, by decide +kernel⟩, by decide⟩, zpl (i := 585) (by decide +kernel), zpl (i := 586) (by decide +kernel)⟩
set_option maxRecDepth 100000 in
theorem f_Piece_109 : zFld "ZigzagTablets$Piece" 109 1 3 false .int := ⟨"ZigzagTablets$Column", zT1, 11, zY1, rfl, zi1, zy1, zn1, by decide, rfl, rfl, rfl, zpl (i := 466) (by decide +kernel), rfl, rfl, by decide⟩
set_option maxRecDepth 100000 in
theorem f_Piece_112 : zFld "ZigzagTablets$Piece" 112 1 2 false .int := ⟨"ZigzagTablets$Column", zT1, 11, zY1, rfl, zi1, zy1, zn1, by decide, rfl, rfl, rfl, zpl (i := 461) (by decide +kernel), rfl, rfl, by decide⟩
set_option maxRecDepth 100000 in
theorem f_Piece_115 : zFld "ZigzagTablets$Piece" 115 5 10 false .int := ⟨"ZigzagTablets$Piece", zT5, 17, zY5, rfl, zi5, zy5, zn5, by decide, rfl, rfl, rfl, zpl (i := 297) (by decide +kernel), rfl, rfl, by decide⟩
set_option maxRecDepth 100000 in
theorem k_Piece_104 : zLnS "ZigzagTablets$Piece" 104 2 y_Jm_max_III := ⟨⟨zpl (i := 1159) (by decide +kernel), zpl (i := 595) (by decide +kernel), zpl (i := 155) (by decide +kernel), ⟨by decide, by decide, by decide +kernel⟩, by decide⟩, zpl (i := 594) (by decide +kernel)⟩
set_option maxRecDepth 100000 in
theorem k_Piece_118 : zLnV "ZigzagTablets$Piece" 118 4 y_Piece_wouldFit := ⟨⟨zpl (i := 1160) (by decide +kernel), zpl (i := 1163) (by decide +kernel), zpl (i := 148) (by decide +kernel), ⟨by decide, by decide, by decide +kernel⟩, by decide⟩, zpl (i := 1162) (by decide +kernel), zpl (i := 46) (by decide +kernel)⟩
set_option maxRecDepth 100000 in
theorem f_Piece_34 : zFld "ZigzagTablets$Piece" 34 5 7 true (.array .int) := ⟨"ZigzagTablets$Piece", zT5, 17, zY5, rfl, zi5, zy5, zn5, by decide, rfl, rfl, rfl, zpl (i := 291) (by decide +kernel), rfl, rfl, by decide⟩
set_option maxRecDepth 100000 in
theorem f_Piece_14 : zFld "ZigzagTablets$Piece" 14 5 1 true (.object "ZigzagTablets$Line") := ⟨"ZigzagTablets$Piece", zT5, 17, zY5, rfl, zi5, zy5, zn5, by decide, rfl, rfl, rfl, zpl (i := 284) (by decide +kernel), rfl, rfl, by decide⟩
set_option maxRecDepth 100000 in
theorem k_Piece_122 : zLnV "ZigzagTablets$Piece" 122 1 y_Tablet_begin := ⟨⟨zpl (i := 1164) (by decide +kernel), zpl (i := 565) (by decide +kernel), zpl (i := 153) (by decide +kernel), ⟨by decide, by decide, by decide +kernel⟩, by decide⟩, zpl (i := 563) (by decide +kernel), zpl (i := 564) (by decide +kernel)⟩
set_option maxRecDepth 100000 in
theorem k_Piece_127 : zLnV "ZigzagTablets$Piece" 127 3 y_Tablet_next := ⟨⟨zpl (i := 1165) (by decide +kernel), zpl (i := 1033) (by decide +kernel), zpl (i := 153) (by decide +kernel), ⟨by decide, by decide, by decide +kernel⟩, by decide⟩, zpl (i := 1031) (by decide +kernel), zpl (i := 1032) (by decide +kernel)⟩
set_option maxRecDepth 100000 in
theorem f_Piece_126 : zFld "ZigzagTablets$Piece" 126 4 0 true (.array .int) := ⟨"ZigzagTablets$Line", zT4, 3, zY4, rfl, zi4, zy4, zn4, by decide, rfl, rfl, rfl, zpl (i := 202) (by decide +kernel), rfl, rfl, by decide⟩
set_option maxRecDepth 100000 in
theorem f_Piece_131 : zFld "ZigzagTablets$Piece" 131 5 13 false .int := ⟨"ZigzagTablets$Piece", zT5, 17, zY5, rfl, zi5, zy5, zn5, by decide, rfl, rfl, rfl, zpl (i := 303) (by decide +kernel), rfl, rfl, by decide⟩
set_option maxRecDepth 100000 in
theorem k_Piece_134 : zLnV "ZigzagTablets$Piece" 134 2 y_Piece_mostAlike := ⟨⟨zpl (i := 1174) (by decide +kernel), zpl (i := 1177) (by decide +kernel), zpl (i := 148) (by decide +kernel), ⟨by decide, by decide, by decide +kernel⟩, by decide⟩, zpl (i := 1176) (by decide +kernel), zpl (i := 47) (by decide +kernel)⟩
set_option maxRecDepth 100000 in
theorem f_Piece_137 : zFld "ZigzagTablets$Piece" 137 5 11 false .int := ⟨"ZigzagTablets$Piece", zT5, 17, zY5, rfl, zi5, zy5, zn5, by decide, rfl, rfl, rfl, zpl (i := 299) (by decide +kernel), rfl, rfl, by decide⟩
set_option maxRecDepth 100000 in
theorem f_Piece_140 : zFld "ZigzagTablets$Piece" 140 5 12 false .int := ⟨"ZigzagTablets$Piece", zT5, 17, zY5, rfl, zi5, zy5, zn5, by decide, rfl, rfl, rfl, zpl (i := 301) (by decide +kernel), rfl, rfl, by decide⟩
set_option maxRecDepth 100000 in
theorem f_Piece_28 : zFld "ZigzagTablets$Piece" 28 5 5 true (.array .int) := ⟨"ZigzagTablets$Piece", zT5, 17, zY5, rfl, zi5, zy5, zn5, by decide, rfl, rfl, rfl, zpl (i := 288) (by decide +kernel), rfl, rfl, by decide⟩
set_option maxRecDepth 100000 in
theorem f_Question_22 : zFld "ZigzagTablets$Question" 22 6 3 false (.object "ZigzagTablets$Tablet") := ⟨"ZigzagTablets$Question", zT6, 5, zY6, rfl, zi6, zy6, zn6, by decide, rfl, rfl, rfl, zpl (i := 421) (by decide +kernel), rfl, rfl, by decide⟩
set_option maxRecDepth 100000 in
theorem f_Question_28 : zFld "ZigzagTablets$Question" 28 8 2 false .int := ⟨"ZigzagTablets$Tablet", zT8, 10, zY8, rfl, zi8, zy8, zn8, by decide, rfl, rfl, rfl, zpl (i := 519) (by decide +kernel), rfl, rfl, by decide⟩
set_option maxRecDepth 100000 in
theorem f_Question_34 : zFld "ZigzagTablets$Question" 34 6 4 false .int := ⟨"ZigzagTablets$Question", zT6, 5, zY6, rfl, zi6, zy6, zn6, by decide, rfl, rfl, rfl, zpl (i := 422) (by decide +kernel), rfl, rfl, by decide⟩
set_option maxRecDepth 100000 in
theorem f_Question_37 : zFld "ZigzagTablets$Question" 37 0 2 false .int := ⟨"ZigzagTablets$Code", zT0, 3, zY0, rfl, zi0, zy0, zn0, by decide, rfl, rfl, rfl, zpl (i := 359) (by decide +kernel), rfl, rfl, by decide⟩
set_option maxRecDepth 100000 in
theorem k_Question_42 : zLnV "ZigzagTablets$Question" 42 3 y_Code_run := ⟨⟨zpl (i := 1259) (by decide +kernel), zpl (i := 577) (by decide +kernel), zpl (i := 150) (by decide +kernel), ⟨by decide, by decide, by decide +kernel⟩, by decide⟩, zpl (i := 575) (by decide +kernel), zpl (i := 576) (by decide +kernel)⟩
set_option maxRecDepth 100000 in
theorem k_Question_46 : zLnV "ZigzagTablets$Question" 46 3 y_Question_joined := ⟨⟨zpl (i := 1260) (by decide +kernel), zpl (i := 1263) (by decide +kernel), zpl (i := 152) (by decide +kernel), ⟨by decide, by decide, by decide +kernel⟩, by decide⟩, zpl (i := 1262) (by decide +kernel), zpl (i := 53) (by decide +kernel)⟩
set_option maxRecDepth 100000 in
theorem k_Question_50 : zLnS "ZigzagTablets$Question" 50 2 y_Jm_max_JJJ := ⟨⟨zpl (i := 1264) (by decide +kernel), zpl (i := 618) (by decide +kernel), zpl (i := 155) (by decide +kernel), ⟨by decide, by decide, by decide +kernel⟩, by decide⟩, zpl (i := 617) (by decide +kernel)⟩
set_option maxRecDepth 100000 in
theorem k_Question_56 : zLnS "ZigzagTablets$Question" 56 2 y_Jm_min_JJJ := ⟨⟨zpl (i := 1265) (by decide +kernel), zpl (i := 615) (by decide +kernel), zpl (i := 155) (by decide +kernel), ⟨by decide, by decide, by decide +kernel⟩, by decide⟩, zpl (i := 614) (by decide +kernel)⟩
set_option maxRecDepth 100000 in
theorem f_Question_59 : zFld "ZigzagTablets$Question" 59 8 0 true (.array (.object "ZigzagTablets$Column")) := ⟨"ZigzagTablets$Tablet", zT8, 10, zY8, rfl, zi8, zy8, zn8, by decide, rfl, rfl, rfl, zpl (i := 512) (by decide +kernel), rfl, rfl, by decide⟩
set_option maxRecDepth 100000 in
theorem f_Question_63 : zFld "ZigzagTablets$Question" 63 1 1 false .int := ⟨"ZigzagTablets$Column", zT1, 11, zY1, rfl, zi1, zy1, zn1, by decide, rfl, rfl, rfl, zpl (i := 455) (by decide +kernel), rfl, rfl, by decide⟩
set_option maxRecDepth 100000 in
theorem f_Question_9 : zFld "ZigzagTablets$Question" 9 6 0 true (.object "ZigzagTablets$Line") := ⟨"ZigzagTablets$Question", zT6, 5, zY6, rfl, zi6, zy6, zn6, by decide, rfl, rfl, rfl, zpl (i := 418) (by decide +kernel), rfl, rfl, by decide⟩
set_option maxRecDepth 100000 in
theorem f_Question_68 : zFld "ZigzagTablets$Question" 68 4 0 true (.array .int) := ⟨"ZigzagTablets$Line", zT4, 3, zY4, rfl, zi4, zy4, zn4, by decide, rfl, rfl, rfl, zpl (i := 200) (by decide +kernel), rfl, rfl, by decide⟩
set_option maxRecDepth 100000 in
theorem f_Question_15 : zFld "ZigzagTablets$Question" 15 6 1 true (.object "ZigzagTablets$Course") := ⟨"ZigzagTablets$Question", zT6, 5, zY6, rfl, zi6, zy6, zn6, by decide, rfl, rfl, rfl, zpl (i := 419) (by decide +kernel), rfl, rfl, by decide⟩
set_option maxRecDepth 100000 in
theorem f_Question_74 : zFld "ZigzagTablets$Question" 74 4 1 false .int := ⟨"ZigzagTablets$Line", zT4, 3, zY4, rfl, zi4, zy4, zn4, by decide, rfl, rfl, rfl, zpl (i := 205) (by decide +kernel), rfl, rfl, by decide⟩
set_option maxRecDepth 100000 in
theorem k_Question_77 : zLnV "ZigzagTablets$Question" 77 2 y_Course_told := ⟨⟨zpl (i := 584) (by decide +kernel), zpl (i := 587) (by decide +kernel), zpl (i := 146) (by decide +kernel), ⟨by decide, by decide, by decide +kernel⟩, by decide⟩, zpl (i := 585) (by decide +kernel), zpl (i := 586) (by decide +kernel)⟩
set_option maxRecDepth 100000 in
theorem k_Question_85 : zLnS "ZigzagTablets$Question" 85 2 y_Jm_min_III := ⟨⟨zpl (i := 590) (by decide +kernel), zpl (i := 592) (by decide +kernel), zpl (i := 155) (by decide +kernel), ⟨by decide, by decide, by decide +kernel⟩, by decide⟩, zpl (i := 591) (by decide +kernel)⟩
set_option maxRecDepth 100000 in
theorem k_Question_87 : zLnS "ZigzagTablets$Question" 87 2 y_Jm_max_III := ⟨⟨zpl (i := 593) (by decide +kernel), zpl (i := 595) (by decide +kernel), zpl (i := 155) (by decide +kernel), ⟨by decide, by decide, by decide +kernel⟩, by decide⟩, zpl (i := 594) (by decide +kernel)⟩
set_option maxRecDepth 100000 in
theorem f_Question_19 : zFld "ZigzagTablets$Question" 19 6 2 true (.object "ZigzagTablets$Course") := ⟨"ZigzagTablets$Question", zT6, 5, zY6, rfl, zi6, zy6, zn6, by decide, rfl, rfl, rfl, zpl (i := 420) (by decide +kernel), rfl, rfl, by decide⟩
set_option maxRecDepth 100000 in
theorem k_Reader_29 : zLnV "ZigzagTablets$Reader" 29 0 y_Tablet_clear := ⟨⟨zpl (i := 732) (by decide +kernel), zpl (i := 735) (by decide +kernel), zpl (i := 153) (by decide +kernel), ⟨by decide, by decide, by decide +kernel⟩, by decide⟩, zpl (i := 733) (by decide +kernel), zpl (i := 734) (by decide +kernel)⟩
set_option maxRecDepth 100000 in
theorem f_Reader_34 : zFld "ZigzagTablets$Reader" 34 7 5 false (.object "ZigzagTablets$Tablet") := ⟨"ZigzagTablets$Reader", zT7, 12, zY7, rfl, zi7, zy7, zn7, by decide, rfl, rfl, rfl, zpl (i := 377) (by decide +kernel), rfl, rfl, by decide⟩
set_option maxRecDepth 100000 in
theorem f_Reader_38 : zFld "ZigzagTablets$Reader" 38 8 1 true (.object "ZigzagTablets$Code") := ⟨"ZigzagTablets$Tablet", zT8, 10, zY8, rfl, zi8, zy8, zn8, by decide, rfl, rfl, rfl, zpl (i := 517) (by decide +kernel), rfl, rfl, by decide⟩
set_option maxRecDepth 100000 in
theorem f_Reader_22 : zFld "ZigzagTablets$Reader" 22 7 6 false (.object "ZigzagTablets$Code") := ⟨"ZigzagTablets$Reader", zT7, 12, zY7, rfl, zi7, zy7, zn7, by decide, rfl, rfl, rfl, zpl (i := 378) (by decide +kernel), rfl, rfl, by decide⟩
set_option maxRecDepth 100000 in
theorem f_Reader_39 : zFld "ZigzagTablets$Reader" 39 7 7 false .boolean := ⟨"ZigzagTablets$Reader", zT7, 12, zY7, rfl, zi7, zy7, zn7, by decide, rfl, rfl, rfl, zpl (i := 379) (by decide +kernel), rfl, rfl, by decide⟩
set_option maxRecDepth 100000 in
theorem k_Reader_43 : zLnV "ZigzagTablets$Reader" 43 0 y_Reader_start := ⟨⟨zpl (i := 736) (by decide +kernel), zpl (i := 739) (by decide +kernel), zpl (i := 149) (by decide +kernel), ⟨by decide, by decide, by decide +kernel⟩, by decide⟩, zpl (i := 738) (by decide +kernel), zpl (i := 5) (by decide +kernel)⟩
set_option maxRecDepth 100000 in
theorem f_Reader_46 : zFld "ZigzagTablets$Reader" 46 7 9 false .int := ⟨"ZigzagTablets$Reader", zT7, 12, zY7, rfl, zi7, zy7, zn7, by decide, rfl, rfl, rfl, zpl (i := 381) (by decide +kernel), rfl, rfl, by decide⟩
set_option maxRecDepth 100000 in
theorem k_Reader_56 : zLnV "ZigzagTablets$Reader" 56 0 y_Reader_statement := ⟨⟨zpl (i := 754) (by decide +kernel), zpl (i := 757) (by decide +kernel), zpl (i := 149) (by decide +kernel), ⟨by decide, by decide, by decide +kernel⟩, by decide⟩, zpl (i := 756) (by decide +kernel), zpl (i := 8) (by decide +kernel)⟩
set_option maxRecDepth 100000 in
theorem k_Reader_60 : zLnV "ZigzagTablets$Reader" 60 1 y_Reader_takeSign := ⟨⟨zpl (i := 849) (by decide +kernel), zpl (i := 852) (by decide +kernel), zpl (i := 149) (by decide +kernel), ⟨by decide, by decide, by decide +kernel⟩, by decide⟩, zpl (i := 851) (by decide +kernel), zpl (i := 18) (by decide +kernel)⟩
set_option maxRecDepth 100000 in
theorem f_Reader_64 : zFld "ZigzagTablets$Reader" 64 8 3 false .int := ⟨"ZigzagTablets$Tablet", zT8, 10, zY8, rfl, zi8, zy8, zn8, by decide, rfl, rfl, rfl, zpl (i := 524) (by decide +kernel), rfl, rfl, by decide⟩
set_option maxRecDepth 100000 in
theorem f_Reader_49 : zFld "ZigzagTablets$Reader" 49 7 10 false .int := ⟨"ZigzagTablets$Reader", zT7, 12, zY7, rfl, zi7, zy7, zn7, by decide, rfl, rfl, rfl, zpl (i := 382) (by decide +kernel), rfl, rfl, by decide⟩
set_option maxRecDepth 100000 in
theorem k_Reader_52 : zLnV "ZigzagTablets$Reader" 52 2 y_Reader_refuse := ⟨⟨zpl (i := 750) (by decide +kernel), zpl (i := 753) (by decide +kernel), zpl (i := 149) (by decide +kernel), ⟨by decide, by decide, by decide +kernel⟩, by decide⟩, zpl (i := 752) (by decide +kernel), zpl (i := 7) (by decide +kernel)⟩
set_option maxRecDepth 100000 in
theorem f_Reader_12 : zFld "ZigzagTablets$Reader" 12 7 1 true (.object "ZigzagTablets$Code") := ⟨"ZigzagTablets$Reader", zT7, 12, zY7, rfl, zi7, zy7, zn7, by decide, rfl, rfl, rfl, zpl (i := 369) (by decide +kernel), rfl, rfl, by decide⟩
set_option maxRecDepth 100000 in
theorem f_Reader_67 : zFld "ZigzagTablets$Reader" 67 0 2 false .int := ⟨"ZigzagTablets$Code", zT0, 3, zY0, rfl, zi0, zy0, zn0, by decide, rfl, rfl, rfl, zpl (i := 360) (by decide +kernel), rfl, rfl, by decide⟩
set_option maxRecDepth 100000 in
theorem k_Reader_70 : zLnV "ZigzagTablets$Reader" 70 0 y_Reader_questionHere := ⟨⟨zpl (i := 1244) (by decide +kernel), zpl (i := 1247) (by decide +kernel), zpl (i := 149) (by decide +kernel), ⟨by decide, by decide, by decide +kernel⟩, by decide⟩, zpl (i := 1246) (by decide +kernel), zpl (i := 52) (by decide +kernel)⟩
set_option maxRecDepth 100000 in
theorem f_Reader_74 : zFld "ZigzagTablets$Reader" 74 7 2 false .int := ⟨"ZigzagTablets$Reader", zT7, 12, zY7, rfl, zi7, zy7, zn7, by decide, rfl, rfl, rfl, zpl (i := 371) (by decide +kernel), rfl, rfl, by decide⟩
set_option maxRecDepth 100000 in
theorem k_Reader_86 : zLnV "ZigzagTablets$Reader" 86 1 y_Reader_sum := ⟨⟨zpl (i := 854) (by decide +kernel), zpl (i := 857) (by decide +kernel), zpl (i := 149) (by decide +kernel), ⟨by decide, by decide, by decide +kernel⟩, by decide⟩, zpl (i := 856) (by decide +kernel), zpl (i := 19) (by decide +kernel)⟩
set_option maxRecDepth 100000 in
theorem k_Reader_82 : zLnV "ZigzagTablets$Reader" 82 1 y_Reader_test := ⟨⟨zpl (i := 824) (by decide +kernel), zpl (i := 827) (by decide +kernel), zpl (i := 149) (by decide +kernel), ⟨by decide, by decide, by decide +kernel⟩, by decide⟩, zpl (i := 826) (by decide +kernel), zpl (i := 13) (by decide +kernel)⟩
set_option maxRecDepth 100000 in
theorem k_Reader_77 : zLnV "ZigzagTablets$Reader" 77 0 y_Reader_unfit := ⟨⟨zpl (i := 819) (by decide +kernel), zpl (i := 822) (by decide +kernel), zpl (i := 149) (by decide +kernel), ⟨by decide, by decide, by decide +kernel⟩, by decide⟩, zpl (i := 821) (by decide +kernel), zpl (i := 12) (by decide +kernel)⟩
set_option maxRecDepth 100000 in
theorem f_Reader_89 : zFld "ZigzagTablets$Reader" 89 7 3 false .int := ⟨"ZigzagTablets$Reader", zT7, 12, zY7, rfl, zi7, zy7, zn7, by decide, rfl, rfl, rfl, zpl (i := 373) (by decide +kernel), rfl, rfl, by decide⟩
set_option maxRecDepth 100000 in
theorem f_Reader_18 : zFld "ZigzagTablets$Reader" 18 7 4 false .int := ⟨"ZigzagTablets$Reader", zT7, 12, zY7, rfl, zi7, zy7, zn7, by decide, rfl, rfl, rfl, zpl (i := 375) (by decide +kernel), rfl, rfl, by decide⟩
set_option maxRecDepth 100000 in
theorem f_Reader_92 : zFld "ZigzagTablets$Reader" 92 7 11 false .int := ⟨"ZigzagTablets$Reader", zT7, 12, zY7, rfl, zi7, zy7, zn7, by decide, rfl, rfl, rfl, zpl (i := 383) (by decide +kernel), rfl, rfl, by decide⟩
set_option maxRecDepth 100000 in
theorem f_Reader_95 : zFld "ZigzagTablets$Reader" 95 7 8 false .boolean := ⟨"ZigzagTablets$Reader", zT7, 12, zY7, rfl, zi7, zy7, zn7, by decide, rfl, rfl, rfl, zpl (i := 380) (by decide +kernel), rfl, rfl, by decide⟩
set_option maxRecDepth 100000 in
theorem k_Reader_98 : zLnV "ZigzagTablets$Reader" 98 0 y_Reader_advance := ⟨⟨zpl (i := 740) (by decide +kernel), zpl (i := 743) (by decide +kernel), zpl (i := 149) (by decide +kernel), ⟨by decide, by decide, by decide +kernel⟩, by decide⟩, zpl (i := 742) (by decide +kernel), zpl (i := 6) (by decide +kernel)⟩
set_option maxRecDepth 100000 in
theorem k_Reader_103 : zLnV "ZigzagTablets$Reader" 103 1 y_Reader_tryWord := ⟨⟨zpl (i := 759) (by decide +kernel), zpl (i := 762) (by decide +kernel), zpl (i := 149) (by decide +kernel), ⟨by decide, by decide, by decide +kernel⟩, by decide⟩, zpl (i := 761) (by decide +kernel), zpl (i := 9) (by decide +kernel)⟩
set_option maxRecDepth 100000 in
theorem k_Reader_136 : zLnV "ZigzagTablets$Reader" 136 0 y_Reader_sortHere := ⟨⟨zpl (i := 902) (by decide +kernel), zpl (i := 905) (by decide +kernel), zpl (i := 149) (by decide +kernel), ⟨by decide, by decide, by decide +kernel⟩, by decide⟩, zpl (i := 904) (by decide +kernel), zpl (i := 28) (by decide +kernel)⟩
set_option maxRecDepth 100000 in
theorem f_Reader_139 : zFld "ZigzagTablets$Reader" 139 8 2 false .int := ⟨"ZigzagTablets$Tablet", zT8, 10, zY8, rfl, zi8, zy8, zn8, by decide, rfl, rfl, rfl, zpl (i := 522) (by decide +kernel), rfl, rfl, by decide⟩
set_option maxRecDepth 100000 in
theorem f_Reader_142 : zFld "ZigzagTablets$Reader" 142 8 0 true (.array (.object "ZigzagTablets$Column")) := ⟨"ZigzagTablets$Tablet", zT8, 10, zY8, rfl, zi8, zy8, zn8, by decide, rfl, rfl, rfl, zpl (i := 514) (by decide +kernel), rfl, rfl, by decide⟩
set_option maxRecDepth 100000 in
theorem k_Reader_146 : zLnV "ZigzagTablets$Reader" 146 1 y_Column_clear := ⟨⟨zpl (i := 910) (by decide +kernel), zpl (i := 913) (by decide +kernel), zpl (i := 154) (by decide +kernel), ⟨by decide, by decide, by decide +kernel⟩, by decide⟩, zpl (i := 911) (by decide +kernel), zpl (i := 912) (by decide +kernel)⟩
set_option maxRecDepth 100000 in
theorem k_Reader_151 : zLnV "ZigzagTablets$Reader" 151 1 y_Reader_name := ⟨⟨zpl (i := 914) (by decide +kernel), zpl (i := 917) (by decide +kernel), zpl (i := 149) (by decide +kernel), ⟨by decide, by decide, by decide +kernel⟩, by decide⟩, zpl (i := 916) (by decide +kernel), zpl (i := 29) (by decide +kernel)⟩
set_option maxRecDepth 100000 in
theorem k_Reader_155 : zLnV "ZigzagTablets$Reader" 155 1 y_Reader_zig := ⟨⟨zpl (i := 923) (by decide +kernel), zpl (i := 926) (by decide +kernel), zpl (i := 149) (by decide +kernel), ⟨by decide, by decide, by decide +kernel⟩, by decide⟩, zpl (i := 925) (by decide +kernel), zpl (i := 31) (by decide +kernel)⟩
set_option maxRecDepth 100000 in
theorem k_Reader_159 : zLnV "ZigzagTablets$Reader" 159 1 y_Reader_arc := ⟨⟨zpl (i := 941) (by decide +kernel), zpl (i := 944) (by decide +kernel), zpl (i := 149) (by decide +kernel), ⟨by decide, by decide, by decide +kernel⟩, by decide⟩, zpl (i := 943) (by decide +kernel), zpl (i := 34) (by decide +kernel)⟩
set_option maxRecDepth 100000 in
theorem k_Reader_162 : zLnV "ZigzagTablets$Reader" 162 1 y_Reader_ring := ⟨⟨zpl (i := 948) (by decide +kernel), zpl (i := 951) (by decide +kernel), zpl (i := 149) (by decide +kernel), ⟨by decide, by decide, by decide +kernel⟩, by decide⟩, zpl (i := 950) (by decide +kernel), zpl (i := 35) (by decide +kernel)⟩
set_option maxRecDepth 100000 in
theorem k_Reader_167 : zLnV "ZigzagTablets$Reader" 167 1 y_Reader_takeWord := ⟨⟨zpl (i := 932) (by decide +kernel), zpl (i := 935) (by decide +kernel), zpl (i := 149) (by decide +kernel), ⟨by decide, by decide, by decide +kernel⟩, by decide⟩, zpl (i := 934) (by decide +kernel), zpl (i := 33) (by decide +kernel)⟩
set_option maxRecDepth 100000 in
theorem f_Reader_127 : zFld "ZigzagTablets$Reader" 127 8 5 false .boolean := ⟨"ZigzagTablets$Tablet", zT8, 10, zY8, rfl, zi8, zy8, zn8, by decide, rfl, rfl, rfl, zpl (i := 530) (by decide +kernel), rfl, rfl, by decide⟩
set_option maxRecDepth 100000 in
theorem f_Reader_130 : zFld "ZigzagTablets$Reader" 130 8 6 false .int := ⟨"ZigzagTablets$Tablet", zT8, 10, zY8, rfl, zi8, zy8, zn8, by decide, rfl, rfl, rfl, zpl (i := 531) (by decide +kernel), rfl, rfl, by decide⟩
set_option maxRecDepth 100000 in
theorem f_Reader_133 : zFld "ZigzagTablets$Reader" 133 8 7 false .int := ⟨"ZigzagTablets$Tablet", zT8, 10, zY8, rfl, zi8, zy8, zn8, by decide, rfl, rfl, rfl, zpl (i := 533) (by decide +kernel), rfl, rfl, by decide⟩
set_option maxRecDepth 100000 in
theorem k_Reader_119 : zLnV "ZigzagTablets$Reader" 119 2 y_Reader_number := ⟨⟨zpl (i := 815) (by decide +kernel), zpl (i := 818) (by decide +kernel), zpl (i := 149) (by decide +kernel), ⟨by decide, by decide, by decide +kernel⟩, by decide⟩, zpl (i := 817) (by decide +kernel), zpl (i := 11) (by decide +kernel)⟩
set_option maxRecDepth 100000 in
theorem f_Reader_123 : zFld "ZigzagTablets$Reader" 123 8 4 false .int := ⟨"ZigzagTablets$Tablet", zT8, 10, zY8, rfl, zi8, zy8, zn8, by decide, rfl, rfl, rfl, zpl (i := 527) (by decide +kernel), rfl, rfl, by decide⟩
set_option maxRecDepth 100000 in
theorem k_Reader_170 : zLnV "ZigzagTablets$Reader" 170 1 y_Reader_sumOf := ⟨⟨zpl (i := 953) (by decide +kernel), zpl (i := 956) (by decide +kernel), zpl (i := 149) (by decide +kernel), ⟨by decide, by decide, by decide +kernel⟩, by decide⟩, zpl (i := 955) (by decide +kernel), zpl (i := 36) (by decide +kernel)⟩
set_option maxRecDepth 100000 in
theorem k_Reader_178 : zLnV "ZigzagTablets$Reader" 178 3 y_Reader_numberBehind := ⟨⟨zpl (i := 928) (by decide +kernel), zpl (i := 931) (by decide +kernel), zpl (i := 149) (by decide +kernel), ⟨by decide, by decide, by decide +kernel⟩, by decide⟩, zpl (i := 930) (by decide +kernel), zpl (i := 32) (by decide +kernel)⟩
set_option maxRecDepth 100000 in
theorem f_Reader_182 : zFld "ZigzagTablets$Reader" 182 1 2 false .int := ⟨"ZigzagTablets$Column", zT1, 11, zY1, rfl, zi1, zy1, zn1, by decide, rfl, rfl, rfl, zpl (i := 460) (by decide +kernel), rfl, rfl, by decide⟩
set_option maxRecDepth 100000 in
theorem f_Reader_185 : zFld "ZigzagTablets$Reader" 185 1 3 false .int := ⟨"ZigzagTablets$Column", zT1, 11, zY1, rfl, zi1, zy1, zn1, by decide, rfl, rfl, rfl, zpl (i := 465) (by decide +kernel), rfl, rfl, by decide⟩
set_option maxRecDepth 100000 in
theorem f_Reader_190 : zFld "ZigzagTablets$Reader" 190 1 6 false .int := ⟨"ZigzagTablets$Column", zT1, 11, zY1, rfl, zi1, zy1, zn1, by decide, rfl, rfl, rfl, zpl (i := 476) (by decide +kernel), rfl, rfl, by decide⟩
set_option maxRecDepth 100000 in
theorem f_Reader_195 : zFld "ZigzagTablets$Reader" 195 1 4 false .int := ⟨"ZigzagTablets$Column", zT1, 11, zY1, rfl, zi1, zy1, zn1, by decide, rfl, rfl, rfl, zpl (i := 470) (by decide +kernel), rfl, rfl, by decide⟩
set_option maxRecDepth 100000 in
theorem f_Reader_199 : zFld "ZigzagTablets$Reader" 199 1 5 false .boolean := ⟨"ZigzagTablets$Column", zT1, 11, zY1, rfl, zi1, zy1, zn1, by decide, rfl, rfl, rfl, zpl (i := 473) (by decide +kernel), rfl, rfl, by decide⟩
set_option maxRecDepth 100000 in
theorem f_Reader_205 : zFld "ZigzagTablets$Reader" 205 1 8 false .int := ⟨"ZigzagTablets$Column", zT1, 11, zY1, rfl, zi1, zy1, zn1, by decide, rfl, rfl, rfl, zpl (i := 481) (by decide +kernel), rfl, rfl, by decide⟩
set_option maxRecDepth 100000 in
theorem f_Reader_212 : zFld "ZigzagTablets$Reader" 212 1 7 false .int := ⟨"ZigzagTablets$Column", zT1, 11, zY1, rfl, zi1, zy1, zn1, by decide, rfl, rfl, rfl, zpl (i := 479) (by decide +kernel), rfl, rfl, by decide⟩
set_option maxRecDepth 100000 in
theorem f_Reader_215 : zFld "ZigzagTablets$Reader" 215 1 9 false .int := ⟨"ZigzagTablets$Column", zT1, 11, zY1, rfl, zi1, zy1, zn1, by decide, rfl, rfl, rfl, zpl (i := 484) (by decide +kernel), rfl, rfl, by decide⟩
set_option maxRecDepth 100000 in
theorem f_Reader_218 : zFld "ZigzagTablets$Reader" 218 1 10 false .int := ⟨"ZigzagTablets$Column", zT1, 11, zY1, rfl, zi1, zy1, zn1, by decide, rfl, rfl, rfl, zpl (i := 487) (by decide +kernel), rfl, rfl, by decide⟩
set_option maxRecDepth 100000 in
theorem k_Reader_221 : zLnV "ZigzagTablets$Reader" 221 0 y_Reader_isOwnWord := ⟨⟨zpl (i := 918) (by decide +kernel), zpl (i := 921) (by decide +kernel), zpl (i := 149) (by decide +kernel), ⟨by decide, by decide, by decide +kernel⟩, by decide⟩, zpl (i := 920) (by decide +kernel), zpl (i := 30) (by decide +kernel)⟩
set_option maxRecDepth 100000 in
theorem k_Reader_224 : zLnV "ZigzagTablets$Reader" 224 0 y_Reader_columnHere := ⟨⟨zpl (i := 892) (by decide +kernel), zpl (i := 895) (by decide +kernel), zpl (i := 149) (by decide +kernel), ⟨by decide, by decide, by decide +kernel⟩, by decide⟩, zpl (i := 894) (by decide +kernel), zpl (i := 26) (by decide +kernel)⟩
set_option maxRecDepth 100000 in
theorem f_Reader_227 : zFld "ZigzagTablets$Reader" 227 1 0 true (.array .int) := ⟨"ZigzagTablets$Column", zT1, 11, zY1, rfl, zi1, zy1, zn1, by decide, rfl, rfl, rfl, zpl (i := 453) (by decide +kernel), rfl, rfl, by decide⟩
set_option maxRecDepth 100000 in
theorem f_Reader_25 : zFld "ZigzagTablets$Reader" 25 7 0 true (.object "ZigzagTablets$Tape") := ⟨"ZigzagTablets$Reader", zT7, 12, zY7, rfl, zi7, zy7, zn7, by decide, rfl, rfl, rfl, zpl (i := 368) (by decide +kernel), rfl, rfl, by decide⟩
set_option maxRecDepth 100000 in
theorem f_Reader_230 : zFld "ZigzagTablets$Reader" 230 9 0 true (.array .int) := ⟨"ZigzagTablets$Tape", zT9, 2, zY9, rfl, zi9, zy9, zn9, by decide, rfl, rfl, rfl, zpl (i := 179) (by decide +kernel), rfl, rfl, by decide⟩
set_option maxRecDepth 100000 in
theorem k_Reader_235 : zLnV "ZigzagTablets$Reader" 235 1 y_Reader_both := ⟨⟨zpl (i := 828) (by decide +kernel), zpl (i := 831) (by decide +kernel), zpl (i := 149) (by decide +kernel), ⟨by decide, by decide, by decide +kernel⟩, by decide⟩, zpl (i := 830) (by decide +kernel), zpl (i := 14) (by decide +kernel)⟩
set_option maxRecDepth 100000 in
theorem k_Reader_240 : zLnV "ZigzagTablets$Reader" 240 2 y_Code_add := ⟨⟨zpl (i := 837) (by decide +kernel), zpl (i := 840) (by decide +kernel), zpl (i := 150) (by decide +kernel), ⟨by decide, by decide, by decide +kernel⟩, by decide⟩, zpl (i := 838) (by decide +kernel), zpl (i := 839) (by decide +kernel)⟩
set_option maxRecDepth 100000 in
theorem k_Reader_244 : zLnV "ZigzagTablets$Reader" 244 1 y_Reader_fact := ⟨⟨zpl (i := 832) (by decide +kernel), zpl (i := 835) (by decide +kernel), zpl (i := 149) (by decide +kernel), ⟨by decide, by decide, by decide +kernel⟩, by decide⟩, zpl (i := 834) (by decide +kernel), zpl (i := 15) (by decide +kernel)⟩
set_option maxRecDepth 100000 in
theorem k_Reader_251 : zLnV "ZigzagTablets$Reader" 251 1 y_Reader_isSign := ⟨⟨zpl (i := 841) (by decide +kernel), zpl (i := 844) (by decide +kernel), zpl (i := 149) (by decide +kernel), ⟨by decide, by decide, by decide +kernel⟩, by decide⟩, zpl (i := 843) (by decide +kernel), zpl (i := 16) (by decide +kernel)⟩
set_option maxRecDepth 100000 in
theorem k_Reader_260 : zLnV "ZigzagTablets$Reader" 260 0 y_Reader_comparisonHere := ⟨⟨zpl (i := 896) (by decide +kernel), zpl (i := 899) (by decide +kernel), zpl (i := 149) (by decide +kernel), ⟨by decide, by decide, by decide +kernel⟩, by decide⟩, zpl (i := 898) (by decide +kernel), zpl (i := 27) (by decide +kernel)⟩
set_option maxRecDepth 100000 in
theorem k_Reader_254 : zLnV "ZigzagTablets$Reader" 254 2 y_Reader_takeOpen := ⟨⟨zpl (i := 845) (by decide +kernel), zpl (i := 848) (by decide +kernel), zpl (i := 149) (by decide +kernel), ⟨by decide, by decide, by decide +kernel⟩, by decide⟩, zpl (i := 847) (by decide +kernel), zpl (i := 17) (by decide +kernel)⟩
set_option maxRecDepth 100000 in
theorem k_Reader_263 : zLnV "ZigzagTablets$Reader" 263 1 y_Reader_product := ⟨⟨zpl (i := 858) (by decide +kernel), zpl (i := 861) (by decide +kernel), zpl (i := 149) (by decide +kernel), ⟨by decide, by decide, by decide +kernel⟩, by decide⟩, zpl (i := 860) (by decide +kernel), zpl (i := 20) (by decide +kernel)⟩
set_option maxRecDepth 100000 in
theorem k_Reader_266 : zLnV "ZigzagTablets$Reader" 266 1 y_Reader_part := ⟨⟨zpl (i := 862) (by decide +kernel), zpl (i := 865) (by decide +kernel), zpl (i := 149) (by decide +kernel), ⟨by decide, by decide, by decide +kernel⟩, by decide⟩, zpl (i := 864) (by decide +kernel), zpl (i := 21) (by decide +kernel)⟩
set_option maxRecDepth 100000 in
theorem k_Reader_278 : zLnV "ZigzagTablets$Reader" 278 1 y_Reader_isWord := ⟨⟨zpl (i := 763) (by decide +kernel), zpl (i := 766) (by decide +kernel), zpl (i := 149) (by decide +kernel), ⟨by decide, by decide, by decide +kernel⟩, by decide⟩, zpl (i := 765) (by decide +kernel), zpl (i := 10) (by decide +kernel)⟩
set_option maxRecDepth 100000 in
theorem k_Reader_271 : zLnV "ZigzagTablets$Reader" 271 2 y_Reader_pair := ⟨⟨zpl (i := 867) (by decide +kernel), zpl (i := 870) (by decide +kernel), zpl (i := 149) (by decide +kernel), ⟨by decide, by decide, by decide +kernel⟩, by decide⟩, zpl (i := 869) (by decide +kernel), zpl (i := 22) (by decide +kernel)⟩
set_option maxRecDepth 100000 in
theorem k_Reader_283 : zLnV "ZigzagTablets$Reader" 283 1 y_Reader_askedPart := ⟨⟨zpl (i := 874) (by decide +kernel), zpl (i := 877) (by decide +kernel), zpl (i := 149) (by decide +kernel), ⟨by decide, by decide, by decide +kernel⟩, by decide⟩, zpl (i := 876) (by decide +kernel), zpl (i := 23) (by decide +kernel)⟩
set_option maxRecDepth 100000 in
theorem k_Reader_289 : zLnV "ZigzagTablets$Reader" 289 0 y_Reader_toldOfLine := ⟨⟨zpl (i := 887) (by decide +kernel), zpl (i := 890) (by decide +kernel), zpl (i := 149) (by decide +kernel), ⟨by decide, by decide, by decide +kernel⟩, by decide⟩, zpl (i := 889) (by decide +kernel), zpl (i := 25) (by decide +kernel)⟩
set_option maxRecDepth 100000 in
theorem k_Reader_286 : zLnV "ZigzagTablets$Reader" 286 0 y_Reader_toldOfColumn := ⟨⟨zpl (i := 878) (by decide +kernel), zpl (i := 881) (by decide +kernel), zpl (i := 149) (by decide +kernel), ⟨by decide, by decide, by decide +kernel⟩, by decide⟩, zpl (i := 880) (by decide +kernel), zpl (i := 24) (by decide +kernel)⟩
set_option maxRecDepth 100000 in
theorem k_Reader_303 : zLnV "ZigzagTablets$Reader" 303 0 y_Js_length := ⟨⟨zpl (i := 767) (by decide +kernel), zpl (i := 770) (by decide +kernel), zpl (i := 158) (by decide +kernel), ⟨by decide, by decide, by decide +kernel⟩, by decide⟩, zpl (i := 768) (by decide +kernel), zpl (i := 769) (by decide +kernel)⟩
set_option maxRecDepth 100000 in
theorem k_Reader_308 : zLnV "ZigzagTablets$Reader" 308 1 y_Js_charAt := ⟨⟨zpl (i := 777) (by decide +kernel), zpl (i := 780) (by decide +kernel), zpl (i := 158) (by decide +kernel), ⟨by decide, by decide, by decide +kernel⟩, by decide⟩, zpl (i := 778) (by decide +kernel), zpl (i := 779) (by decide +kernel)⟩
set_option maxRecDepth 100000 in
theorem f_Reader_314 : zFld "ZigzagTablets$Reader" 314 9 1 false .int := ⟨"ZigzagTablets$Tape", zT9, 2, zY9, rfl, zi9, zy9, zn9, by decide, rfl, rfl, rfl, zpl (i := 184) (by decide +kernel), rfl, rfl, by decide⟩
set_option maxRecDepth 100000 in
theorem k_Reader_316 : zLnS "ZigzagTablets$Reader" 316 1 y_Reader_isBlank := ⟨⟨zpl (i := 744) (by decide +kernel), zpl (i := 746) (by decide +kernel), zpl (i := 149) (by decide +kernel), ⟨by decide, by decide, by decide +kernel⟩, by decide⟩, zpl (i := 745) (by decide +kernel)⟩
set_option maxRecDepth 100000 in
theorem k_Reader_319 : zLnS "ZigzagTablets$Reader" 319 1 y_Reader_kindOf := ⟨⟨zpl (i := 747) (by decide +kernel), zpl (i := 749) (by decide +kernel), zpl (i := 149) (by decide +kernel), ⟨by decide, by decide, by decide +kernel⟩, by decide⟩, zpl (i := 748) (by decide +kernel)⟩
set_option maxRecDepth 100000 in
theorem f_Tablet_32 : zFld "ZigzagTablets$Tablet" 32 8 2 false .int := ⟨"ZigzagTablets$Tablet", zT8, 10, zY8, rfl, zi8, zy8, zn8, by decide, rfl, rfl, rfl, zpl (i := 518) (by decide +kernel), rfl, rfl, by decide⟩
set_option maxRecDepth 100000 in
theorem f_Tablet_36 : zFld "ZigzagTablets$Tablet" 36 8 3 false .int := ⟨"ZigzagTablets$Tablet", zT8, 10, zY8, rfl, zi8, zy8, zn8, by decide, rfl, rfl, rfl, zpl (i := 523) (by decide +kernel), rfl, rfl, by decide⟩
set_option maxRecDepth 100000 in
theorem f_Tablet_39 : zFld "ZigzagTablets$Tablet" 39 8 4 false .int := ⟨"ZigzagTablets$Tablet", zT8, 10, zY8, rfl, zi8, zy8, zn8, by decide, rfl, rfl, rfl, zpl (i := 526) (by decide +kernel), rfl, rfl, by decide⟩
set_option maxRecDepth 100000 in
theorem f_Tablet_42 : zFld "ZigzagTablets$Tablet" 42 8 5 false .boolean := ⟨"ZigzagTablets$Tablet", zT8, 10, zY8, rfl, zi8, zy8, zn8, by decide, rfl, rfl, rfl, zpl (i := 529) (by decide +kernel), rfl, rfl, by decide⟩
set_option maxRecDepth 100000 in
theorem f_Tablet_20 : zFld "ZigzagTablets$Tablet" 20 8 1 true (.object "ZigzagTablets$Code") := ⟨"ZigzagTablets$Tablet", zT8, 10, zY8, rfl, zi8, zy8, zn8, by decide, rfl, rfl, rfl, zpl (i := 516) (by decide +kernel), rfl, rfl, by decide⟩
set_option maxRecDepth 100000 in
theorem f_Tablet_46 : zFld "ZigzagTablets$Tablet" 46 0 2 false .int := ⟨"ZigzagTablets$Code", zT0, 3, zY0, rfl, zi0, zy0, zn0, by decide, rfl, rfl, rfl, zpl (i := 358) (by decide +kernel), rfl, rfl, by decide⟩
set_option maxRecDepth 100000 in
theorem f_Tablet_49 : zFld "ZigzagTablets$Tablet" 49 4 1 false .int := ⟨"ZigzagTablets$Line", zT4, 3, zY4, rfl, zi4, zy4, zn4, by decide, rfl, rfl, rfl, zpl (i := 204) (by decide +kernel), rfl, rfl, by decide⟩
set_option maxRecDepth 100000 in
theorem f_Tablet_52 : zFld "ZigzagTablets$Tablet" 52 4 2 false .int := ⟨"ZigzagTablets$Line", zT4, 3, zY4, rfl, zi4, zy4, zn4, by decide, rfl, rfl, rfl, zpl (i := 209) (by decide +kernel), rfl, rfl, by decide⟩
set_option maxRecDepth 100000 in
theorem f_Tablet_27 : zFld "ZigzagTablets$Tablet" 27 8 8 false (.object "ZigzagTablets$Line") := ⟨"ZigzagTablets$Tablet", zT8, 10, zY8, rfl, zi8, zy8, zn8, by decide, rfl, rfl, rfl, zpl (i := 535) (by decide +kernel), rfl, rfl, by decide⟩
set_option maxRecDepth 100000 in
theorem f_Tablet_55 : zFld "ZigzagTablets$Tablet" 55 8 9 false .int := ⟨"ZigzagTablets$Tablet", zT8, 10, zY8, rfl, zi8, zy8, zn8, by decide, rfl, rfl, rfl, zpl (i := 536) (by decide +kernel), rfl, rfl, by decide⟩
set_option maxRecDepth 100000 in
theorem f_Tablet_11 : zFld "ZigzagTablets$Tablet" 11 8 0 true (.array (.object "ZigzagTablets$Column")) := ⟨"ZigzagTablets$Tablet", zT8, 10, zY8, rfl, zi8, zy8, zn8, by decide, rfl, rfl, rfl, zpl (i := 511) (by decide +kernel), rfl, rfl, by decide⟩
set_option maxRecDepth 100000 in
theorem f_Tablet_58 : zFld "ZigzagTablets$Tablet" 58 1 5 false .boolean := ⟨"ZigzagTablets$Column", zT1, 11, zY1, rfl, zi1, zy1, zn1, by decide, rfl, rfl, rfl, zpl (i := 472) (by decide +kernel), rfl, rfl, by decide⟩
set_option maxRecDepth 100000 in
theorem k_Tablet_61 : zLnV "ZigzagTablets$Tablet" 61 2 y_Line_go := ⟨⟨zpl (i := 566) (by decide +kernel), zpl (i := 569) (by decide +kernel), zpl (i := 145) (by decide +kernel), ⟨by decide, by decide, by decide +kernel⟩, by decide⟩, zpl (i := 567) (by decide +kernel), zpl (i := 568) (by decide +kernel)⟩
set_option maxRecDepth 100000 in
theorem f_Tablet_65 : zFld "ZigzagTablets$Tablet" 65 4 0 true (.array .int) := ⟨"ZigzagTablets$Line", zT4, 3, zY4, rfl, zi4, zy4, zn4, by decide, rfl, rfl, rfl, zpl (i := 198) (by decide +kernel), rfl, rfl, by decide⟩
set_option maxRecDepth 100000 in
theorem k_Tablet_69 : zLnV "ZigzagTablets$Tablet" 69 0 y_Column_moves := ⟨⟨zpl (i := 570) (by decide +kernel), zpl (i := 573) (by decide +kernel), zpl (i := 154) (by decide +kernel), ⟨by decide, by decide, by decide +kernel⟩, by decide⟩, zpl (i := 571) (by decide +kernel), zpl (i := 572) (by decide +kernel)⟩
set_option maxRecDepth 100000 in
theorem f_Tablet_76 : zFld "ZigzagTablets$Tablet" 76 1 9 false .int := ⟨"ZigzagTablets$Column", zT1, 11, zY1, rfl, zi1, zy1, zn1, by decide, rfl, rfl, rfl, zpl (i := 483) (by decide +kernel), rfl, rfl, by decide⟩
set_option maxRecDepth 100000 in
theorem f_Tablet_79 : zFld "ZigzagTablets$Tablet" 79 1 10 false .int := ⟨"ZigzagTablets$Column", zT1, 11, zY1, rfl, zi1, zy1, zn1, by decide, rfl, rfl, rfl, zpl (i := 486) (by decide +kernel), rfl, rfl, by decide⟩
set_option maxRecDepth 100000 in
theorem k_Tablet_82 : zLnV "ZigzagTablets$Tablet" 82 3 y_Code_run := ⟨⟨zpl (i := 574) (by decide +kernel), zpl (i := 577) (by decide +kernel), zpl (i := 150) (by decide +kernel), ⟨by decide, by decide, by decide +kernel⟩, by decide⟩, zpl (i := 575) (by decide +kernel), zpl (i := 576) (by decide +kernel)⟩
set_option maxRecDepth 100000 in
theorem f_Tablet_73 : zFld "ZigzagTablets$Tablet" 73 1 4 false .int := ⟨"ZigzagTablets$Column", zT1, 11, zY1, rfl, zi1, zy1, zn1, by decide, rfl, rfl, rfl, zpl (i := 469) (by decide +kernel), rfl, rfl, by decide⟩
set_option maxRecDepth 100000 in
theorem f_Tablet_86 : zFld "ZigzagTablets$Tablet" 86 1 6 false .int := ⟨"ZigzagTablets$Column", zT1, 11, zY1, rfl, zi1, zy1, zn1, by decide, rfl, rfl, rfl, zpl (i := 475) (by decide +kernel), rfl, rfl, by decide⟩
set_option maxRecDepth 100000 in
theorem k_Tablet_89 : zLnV "ZigzagTablets$Tablet" 89 3 y_Tablet_move := ⟨⟨zpl (i := 1034) (by decide +kernel), zpl (i := 1037) (by decide +kernel), zpl (i := 153) (by decide +kernel), ⟨by decide, by decide, by decide +kernel⟩, by decide⟩, zpl (i := 1035) (by decide +kernel), zpl (i := 1036) (by decide +kernel)⟩
set_option maxRecDepth 100000 in
theorem f_Tablet_93 : zFld "ZigzagTablets$Tablet" 93 1 1 false .int := ⟨"ZigzagTablets$Column", zT1, 11, zY1, rfl, zi1, zy1, zn1, by decide, rfl, rfl, rfl, zpl (i := 456) (by decide +kernel), rfl, rfl, by decide⟩
set_option maxRecDepth 100000 in
theorem f_Tablet_103 : zFld "ZigzagTablets$Tablet" 103 1 3 false .int := ⟨"ZigzagTablets$Column", zT1, 11, zY1, rfl, zi1, zy1, zn1, by decide, rfl, rfl, rfl, zpl (i := 464) (by decide +kernel), rfl, rfl, by decide⟩
set_option maxRecDepth 100000 in
theorem k_Tablet_99 : zLnV "ZigzagTablets$Tablet" 99 1 y_Column_arcBehind := ⟨⟨zpl (i := 1043) (by decide +kernel), zpl (i := 1046) (by decide +kernel), zpl (i := 154) (by decide +kernel), ⟨by decide, by decide, by decide +kernel⟩, by decide⟩, zpl (i := 1044) (by decide +kernel), zpl (i := 1045) (by decide +kernel)⟩
set_option maxRecDepth 100000 in
theorem k_Tablet_96 : zLnV "ZigzagTablets$Tablet" 96 3 y_Tablet_moveZig := ⟨⟨zpl (i := 1038) (by decide +kernel), zpl (i := 1041) (by decide +kernel), zpl (i := 153) (by decide +kernel), ⟨by decide, by decide, by decide +kernel⟩, by decide⟩, zpl (i := 1040) (by decide +kernel), zpl (i := 41) (by decide +kernel)⟩
set_option maxRecDepth 100000 in
theorem k_Tablet_106 : zLnS "ZigzagTablets$Tablet" 106 2 y_Jm_floorMod := ⟨⟨zpl (i := 1047) (by decide +kernel), zpl (i := 1049) (by decide +kernel), zpl (i := 155) (by decide +kernel), ⟨by decide, by decide, by decide +kernel⟩, by decide⟩, zpl (i := 1048) (by decide +kernel)⟩
set_option maxRecDepth 100000 in
theorem k_Tablet_112 : zLnV "ZigzagTablets$Tablet" 112 1 y_Line_goesUp := ⟨⟨zpl (i := 1042) (by decide +kernel), zpl (i := 999) (by decide +kernel), zpl (i := 145) (by decide +kernel), ⟨by decide, by decide, by decide +kernel⟩, by decide⟩, zpl (i := 997) (by decide +kernel), zpl (i := 998) (by decide +kernel)⟩
set_option maxRecDepth 100000 in
theorem f_Tablet_116 : zFld "ZigzagTablets$Tablet" 116 1 2 false .int := ⟨"ZigzagTablets$Column", zT1, 11, zY1, rfl, zi1, zy1, zn1, by decide, rfl, rfl, rfl, zpl (i := 459) (by decide +kernel), rfl, rfl, by decide⟩
set_option maxRecDepth 100000 in
theorem f_Tablet_119 : zFld "ZigzagTablets$Tablet" 119 8 6 false .int := ⟨"ZigzagTablets$Tablet", zT8, 10, zY8, rfl, zi8, zy8, zn8, by decide, rfl, rfl, rfl, zpl (i := 532) (by decide +kernel), rfl, rfl, by decide⟩
set_option maxRecDepth 100000 in
theorem f_Tablet_122 : zFld "ZigzagTablets$Tablet" 122 8 7 false .int := ⟨"ZigzagTablets$Tablet", zT8, 10, zY8, rfl, zi8, zy8, zn8, by decide, rfl, rfl, rfl, zpl (i := 534) (by decide +kernel), rfl, rfl, by decide⟩
set_option maxRecDepth 100000 in
theorem f_Tape_13 : zFld "ZigzagTablets$Tape" 13 9 1 false .int := ⟨"ZigzagTablets$Tape", zT9, 2, zY9, rfl, zi9, zy9, zn9, by decide, rfl, rfl, rfl, zpl (i := 182) (by decide +kernel), rfl, rfl, by decide⟩
set_option maxRecDepth 100000 in
theorem f_Tape_9 : zFld "ZigzagTablets$Tape" 9 9 0 true (.array .int) := ⟨"ZigzagTablets$Tape", zT9, 2, zY9, rfl, zi9, zy9, zn9, by decide, rfl, rfl, rfl, zpl (i := 177) (by decide +kernel), rfl, rfl, by decide⟩
