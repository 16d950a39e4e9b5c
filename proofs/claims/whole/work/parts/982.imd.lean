/-! THE MODEL is made (by wip/whole/gen/inits.py). -/
def l_Md : List (Int × Int × Int) := [(125, 99, 196), (0, 0, 196), (125, 95, 195), (0, 0, 195), (125, 91, 194), (0, 0, 194), (125, 89, 193), (0, 0, 193), (125, 88, 192), (192, 2, 108), (192, 1, 111), (192, 0, 99), (0, 0, 192), (125, 87, 191), (191, 4, 100), (191, 3, 97), (191, 2, 101), (191, 1, 104), (191, 0, 97), (0, 0, 191), (125, 86, 190), (190, 4, 116), (190, 3, 102), (190, 2, 105), (190, 1, 114), (190, 0, 100), (0, 0, 190), (125, 85, 189), (189, 4, 101), (189, 3, 117), (189, 2, 108), (189, 1, 97), (189, 0, 118), (0, 0, 189), (125, 84, 188), (188, 3, 116), (188, 2, 114), (188, 1, 111), (188, 0, 115), (0, 0, 188), (125, 83, 187), (187, 5, 114), (187, 4, 101), (187, 3, 98), (187, 2, 109), (187, 1, 117), (187, 0, 110), (0, 0, 187), (125, 82, 186), (186, 3, 118), (186, 2, 101), (186, 1, 114), (186, 0, 112), (0, 0, 186), (125, 81, 185), (185, 3, 101), (185, 2, 110), (185, 1, 105), (185, 0, 108), (0, 0, 185), (125, 80, 184), (184, 2, 120), (184, 1, 97), (184, 0, 109), (0, 0, 184), (125, 79, 183), (183, 2, 110), (183, 1, 105), (183, 0, 109), (0, 0, 183), (125, 78, 182), (182, 2, 108), (182, 1, 108), (182, 0, 97), (0, 0, 182), (125, 77, 181), (181, 1, 114), (181, 0, 111), (0, 0, 181), (125, 76, 180), (180, 2, 100), (180, 1, 110), (180, 0, 97), (0, 0, 180), (125, 75, 179), (179, 2, 116), (179, 1, 111), (179, 0, 110), (0, 0, 179), (125, 74, 178), (178, 4, 116), (178, 3, 115), (178, 2, 97), (178, 1, 101), (178, 0, 108), (0, 0, 178), (125, 73, 177), (177, 3, 116), (177, 2, 115), (177, 1, 111), (177, 0, 109), (0, 0, 177), (125, 72, 176), (176, 4, 108), (176, 3, 97), (176, 2, 116), (176, 1, 111), (176, 0, 116), (0, 0, 176), (125, 71, 175), (175, 4, 110), (175, 3, 101), (175, 2, 116), (175, 1, 102), (175, 0, 111), (0, 0, 175), (125, 70, 174), (174, 3, 116), (174, 2, 115), (174, 1, 97), (174, 0, 108), (0, 0, 174), (125, 69, 173), (173, 4, 116), (173, 3, 115), (173, 2, 114), (173, 1, 105), (173, 0, 102), (0, 0, 173), (125, 68, 1), (125, 65, 172), (0, 0, 172), (125, 64, 171), (0, 0, 171), (125, 63, 170), (0, 0, 170), (125, 60, 169), (0, 0, 169), (125, 59, 168), (0, 0, 168), (125, 58, 167), (0, 0, 167), (125, 56, 166), (0, 0, 166), (125, 55, 165), (0, 0, 165), (125, 51, 164), (0, 0, 164), (125, 47, 163), (0, 0, 163), (125, 46, 162), (0, 0, 162), (125, 45, 161), (0, 0, 161), (125, 44, 160), (0, 0, 160), (125, 43, 159), (0, 0, 159), (125, 42, 158), (0, 0, 158), (125, 40, 157), (157, 2, 120), (157, 1, 97), (157, 0, 109), (0, 0, 157), (125, 39, 156), (156, 2, 110), (156, 1, 105), (156, 0, 109), (0, 0, 156), (125, 38, 155), (155, 2, 108), (155, 1, 108), (155, 0, 97), (0, 0, 155), (125, 37, 154), (154, 2, 116), (154, 1, 111), (154, 0, 110), (0, 0, 154), (125, 36, 153), (153, 2, 100), (153, 1, 110), (153, 0, 97), (0, 0, 153), (125, 35, 152), (152, 1, 114), (152, 0, 111), (0, 0, 152), (125, 34, 151), (151, 2, 108), (151, 1, 111), (151, 0, 99), (0, 0, 151), (125, 33, 150), (150, 4, 100), (150, 3, 97), (150, 2, 101), (150, 1, 104), (150, 0, 97), (0, 0, 150), (125, 32, 149), (149, 4, 116), (149, 3, 102), (149, 2, 105), (149, 1, 114), (149, 0, 100), (0, 0, 149), (125, 31, 148), (148, 4, 101), (148, 3, 117), (148, 2, 108), (148, 1, 97), (148, 0, 118), (0, 0, 148), (125, 30, 147), (147, 3, 116), (147, 2, 114), (147, 1, 111), (147, 0, 115), (0, 0, 147), (125, 29, 146), (146, 5, 114), (146, 4, 101), (146, 3, 98), (146, 2, 109), (146, 1, 117), (146, 0, 110), (0, 0, 146), (125, 28, 145), (145, 3, 118), (145, 2, 101), (145, 1, 114), (145, 0, 112), (0, 0, 145), (125, 27, 144), (144, 3, 101), (144, 2, 110), (144, 1, 105), (144, 0, 108), (0, 0, 144), (125, 26, 143), (143, 3, 112), (143, 2, 105), (143, 1, 108), (143, 0, 115), (0, 0, 143), (125, 25, 142), (142, 4, 115), (142, 3, 107), (142, 2, 114), (142, 1, 97), (142, 0, 109), (0, 0, 142), (125, 24, 141), (141, 1, 115), (141, 0, 105), (0, 0, 141), (125, 23, 140), (140, 3, 119), (140, 2, 111), (140, 1, 108), (140, 0, 115), (0, 0, 140), (125, 22, 139), (139, 3, 116), (139, 2, 115), (139, 1, 97), (139, 0, 102), (0, 0, 139), (125, 21, 138), (138, 1, 102), (138, 0, 111), (0, 0, 138), (125, 20, 137), (137, 3, 110), (137, 2, 119), (137, 1, 111), (137, 0, 100), (0, 0, 137), (125, 19, 136), (136, 1, 112), (136, 0, 117), (0, 0, 136), (125, 18, 135), (135, 1, 116), (135, 0, 97), (0, 0, 135), (125, 17, 134), (134, 1, 121), (134, 0, 98), (0, 0, 134), (125, 16, 133), (133, 1, 111), (133, 0, 116), (0, 0, 133), (125, 15, 132), (132, 3, 109), (132, 2, 111), (132, 1, 114), (132, 0, 102), (0, 0, 132), (125, 14, 131), (131, 2, 109), (131, 1, 117), (131, 0, 115), (0, 0, 131), (125, 13, 130), (130, 3, 103), (130, 2, 110), (130, 1, 105), (130, 0, 114), (0, 0, 130), (125, 12, 129), (129, 2, 99), (129, 1, 114), (129, 0, 97), (0, 0, 129), (125, 11, 128), (128, 2, 103), (128, 1, 105), (128, 0, 122), (0, 0, 128), (125, 9, 127), (0, 0, 127), (125, 8, (-1)), (125, 0, 126), (0, 0, 126)]
set_option maxRecDepth 20000 in
set_option maxHeartbeats 4000000 in
theorem I_Md {G : zG} {h : Nat} {M : zM} {Q : Int → zM → Prop} (hc : M 0 0 = 125) (q : Q 0 (zvl2 l_Md M)) : zCt G (h + 1) 0 71 31213 y_Md_init [(2, 125)] M Q := by
  refine zCt.of (by decide +kernel) (Nat.le_of_ble_eq_true rfl) ?_
  refine x_aload_n (zdm d_Md_init_0 0 rfl) rfl (n := 0) rfl ?_
  refine x_objInit (zdm d_Md_init_0 1 rfl) ko_Md wob_i wob_c (by decide) (Nat.le_of_ble_eq_true rfl) ?_
  refine x_aload_n (zdm d_Md_init_0 2 rfl) rfl (n := 0) rfl ?_
  refine x_sipush (zdm d_Md_init_0 3 rfl) (by decide) ?_
  refine x_newaI (c := 125) (zdm d_Md_init_0 4 rfl) wa_int hc (c' := 126) (by decide) rfl (by decide) (Nat.le_of_ble_eq_true rfl) (Nat.le_of_ble_eq_true rfl) ?_
  refine x_putF (zdm d_Md_init_0 5 rfl) f_Md_7 rfl ⟨_, _, rfl⟩ rfl ⟨rfl, trivial⟩ rfl ?_
  refine x_aload_n (zdm d_Md_init_0 6 rfl) rfl (n := 0) rfl ?_
  refine x_iconst (zdm d_Md_init_0 7 rfl) (zIl rfl) ?_
  refine x_putf (zdm d_Md_init_0 8 rfl) f_Md_13 rfl ⟨rfl, trivial⟩ (Or.inr rfl) ?_
  refine x_aload_n (zdm d_Md_init_0 9 rfl) rfl (n := 0) rfl ?_
  refine x_bipush (zdm d_Md_init_0 10 rfl) (by decide) ?_
  refine x_newaI (c := 126) (zdm d_Md_init_0 11 rfl) wa_int (zwo (by decide) (zwo (by decide) zvs2)) (c' := 127) (by decide) rfl (by decide) (Nat.le_of_ble_eq_true rfl) (Nat.le_of_ble_eq_true rfl) ?_
  refine x_putF (zdm d_Md_init_0 12 rfl) f_Md_17 rfl ⟨_, _, rfl⟩ rfl ⟨rfl, trivial⟩ rfl ?_
  refine x_aload_n (zdm d_Md_init_0 13 rfl) rfl (n := 0) rfl ?_
  refine x_iconst (zdm d_Md_init_0 14 rfl) (zIl rfl) ?_
  refine x_newaC (c := 127) (zdm d_Md_init_0 15 rfl) wa_char (zwo (by decide) zvs2) (c' := 128) (by decide) rfl (by decide) (Nat.le_of_ble_eq_true rfl) (Nat.le_of_ble_eq_true rfl) ?_
  refine x_dup (zdm d_Md_init_0 16 rfl) z2n1 ?_
  refine x_iconst (zdm d_Md_init_0 17 rfl) (zIl rfl) ?_
  refine x_bipush (zdm d_Md_init_0 18 rfl) (by decide) ?_
  refine x_cast (zdm d_Md_init_0 19 rfl) rfl (by decide) (by decide) rfl ?_
  refine x_dup (zdm d_Md_init_0 20 rfl) z2n1 ?_
  refine x_iconst (zdm d_Md_init_0 21 rfl) (zIl rfl) ?_
  refine x_bipush (zdm d_Md_init_0 22 rfl) (by decide) ?_
  refine x_cast (zdm d_Md_init_0 23 rfl) rfl (by decide) (by decide) rfl ?_
  refine x_dup (zdm d_Md_init_0 24 rfl) z2n1 ?_
  refine x_iconst (zdm d_Md_init_0 25 rfl) (zIl rfl) ?_
  refine x_bipush (zdm d_Md_init_0 26 rfl) (by decide) ?_
  refine x_cast (zdm d_Md_init_0 27 rfl) rfl (by decide) (by decide) rfl ?_
  refine x_putF (zdm d_Md_init_0 28 rfl) f_Md_20 rfl ⟨_, _, rfl⟩ rfl ⟨rfl, trivial⟩ rfl ?_
  refine x_aload_n (zdm d_Md_init_0 29 rfl) rfl (n := 0) rfl ?_
  refine x_iconst (zdm d_Md_init_0 30 rfl) (zIl rfl) ?_
  refine x_newaC (c := 128) (zdm d_Md_init_0 31 rfl) wa_char (zwo (by decide) (zwo (by decide) (zwo (by decide) (zwo (by decide) zvs2)))) (c' := 129) (by decide) rfl (by decide) (Nat.le_of_ble_eq_true rfl) (Nat.le_of_ble_eq_true rfl) ?_
  refine x_dup (zdm d_Md_init_0 32 rfl) z2n1 ?_
  refine x_iconst (zdm d_Md_init_0 33 rfl) (zIl rfl) ?_
  refine x_bipush (zdm d_Md_init_0 34 rfl) (by decide) ?_
  refine x_cast (zdm d_Md_init_0 35 rfl) rfl (by decide) (by decide) rfl ?_
  refine x_dup (zdm d_Md_init_0 36 rfl) z2n1 ?_
  refine x_iconst (zdm d_Md_init_0 37 rfl) (zIl rfl) ?_
  refine x_bipush (zdm d_Md_init_0 38 rfl) (by decide) ?_
  refine x_cast (zdm d_Md_init_0 39 rfl) rfl (by decide) (by decide) rfl ?_
  refine x_dup (zdm d_Md_init_0 40 rfl) z2n1 ?_
  refine x_iconst (zdm d_Md_init_0 41 rfl) (zIl rfl) ?_
  refine x_bipush (zdm d_Md_init_0 42 rfl) (by decide) ?_
  refine x_cast (zdm d_Md_init_0 43 rfl) rfl (by decide) (by decide) rfl ?_
  refine x_putF (zdm d_Md_init_0 44 rfl) f_Md_24 rfl ⟨_, _, rfl⟩ rfl ⟨rfl, trivial⟩ rfl ?_
  refine x_aload_n (zdm d_Md_init_0 45 rfl) rfl (n := 0) rfl ?_
  refine x_iconst (zdm d_Md_init_0 46 rfl) (zIl rfl) ?_
  refine x_newaC (c := 129) (zdm d_Md_init_0 47 rfl) wa_char (zwo (by decide) (zwo (by decide) (zwo (by decide) (zwo (by decide) zvs2)))) (c' := 130) (by decide) rfl (by decide) (Nat.le_of_ble_eq_true rfl) (Nat.le_of_ble_eq_true rfl) ?_
  refine x_dup (zdm d_Md_init_0 48 rfl) z2n1 ?_
  refine x_iconst (zdm d_Md_init_0 49 rfl) (zIl rfl) ?_
  refine x_bipush (zdm d_Md_init_0 50 rfl) (by decide) ?_
  refine x_cast (zdm d_Md_init_0 51 rfl) rfl (by decide) (by decide) rfl ?_
  refine x_dup (zdm d_Md_init_0 52 rfl) z2n1 ?_
  refine x_iconst (zdm d_Md_init_0 53 rfl) (zIl rfl) ?_
  refine x_bipush (zdm d_Md_init_0 54 rfl) (by decide) ?_
  refine x_cast (zdm d_Md_init_0 55 rfl) rfl (by decide) (by decide) rfl ?_
  refine x_dup (zdm d_Md_init_0 56 rfl) z2n1 ?_
  refine x_iconst (zdm d_Md_init_0 57 rfl) (zIl rfl) ?_
  refine x_bipush (zdm d_Md_init_0 58 rfl) (by decide) ?_
  refine x_cast (zdm d_Md_init_0 59 rfl) rfl (by decide) (by decide) rfl ?_
  refine x_dup (zdm d_Md_init_1 0 rfl) z2n1 ?_
  refine x_iconst (zdm d_Md_init_1 1 rfl) (zIl rfl) ?_
  refine x_bipush (zdm d_Md_init_1 2 rfl) (by decide) ?_
  refine x_cast (zdm d_Md_init_1 3 rfl) rfl (by decide) (by decide) rfl ?_
  refine x_putF (zdm d_Md_init_1 4 rfl) f_Md_27 rfl ⟨_, _, rfl⟩ rfl ⟨rfl, trivial⟩ rfl ?_
  refine x_aload_n (zdm d_Md_init_1 5 rfl) rfl (n := 0) rfl ?_
  refine x_iconst (zdm d_Md_init_1 6 rfl) (zIl rfl) ?_
  refine x_newaC (c := 130) (zdm d_Md_init_1 7 rfl) wa_char (zwo (by decide) (zwo (by decide) (zwo (by decide) (zwo (by decide) (zwo (by decide) zvs2))))) (c' := 131) (by decide) rfl (by decide) (Nat.le_of_ble_eq_true rfl) (Nat.le_of_ble_eq_true rfl) ?_
  refine x_dup (zdm d_Md_init_1 8 rfl) z2n1 ?_
  refine x_iconst (zdm d_Md_init_1 9 rfl) (zIl rfl) ?_
  refine x_bipush (zdm d_Md_init_1 10 rfl) (by decide) ?_
  refine x_cast (zdm d_Md_init_1 11 rfl) rfl (by decide) (by decide) rfl ?_
  refine x_dup (zdm d_Md_init_1 12 rfl) z2n1 ?_
  refine x_iconst (zdm d_Md_init_1 13 rfl) (zIl rfl) ?_
  refine x_bipush (zdm d_Md_init_1 14 rfl) (by decide) ?_
  refine x_cast (zdm d_Md_init_1 15 rfl) rfl (by decide) (by decide) rfl ?_
  refine x_dup (zdm d_Md_init_1 16 rfl) z2n1 ?_
  refine x_iconst (zdm d_Md_init_1 17 rfl) (zIl rfl) ?_
  refine x_bipush (zdm d_Md_init_1 18 rfl) (by decide) ?_
  refine x_cast (zdm d_Md_init_1 19 rfl) rfl (by decide) (by decide) rfl ?_
  refine x_putF (zdm d_Md_init_1 20 rfl) f_Md_30 rfl ⟨_, _, rfl⟩ rfl ⟨rfl, trivial⟩ rfl ?_
  refine x_aload_n (zdm d_Md_init_1 21 rfl) rfl (n := 0) rfl ?_
  refine x_iconst (zdm d_Md_init_1 22 rfl) (zIl rfl) ?_
  refine x_newaC (c := 131) (zdm d_Md_init_1 23 rfl) wa_char (zwo (by decide) (zwo (by decide) (zwo (by decide) (zwo (by decide) zvs2)))) (c' := 132) (by decide) rfl (by decide) (Nat.le_of_ble_eq_true rfl) (Nat.le_of_ble_eq_true rfl) ?_
  refine x_dup (zdm d_Md_init_1 24 rfl) z2n1 ?_
  refine x_iconst (zdm d_Md_init_1 25 rfl) (zIl rfl) ?_
  refine x_bipush (zdm d_Md_init_1 26 rfl) (by decide) ?_
  refine x_cast (zdm d_Md_init_1 27 rfl) rfl (by decide) (by decide) rfl ?_
  refine x_dup (zdm d_Md_init_1 28 rfl) z2n1 ?_
  refine x_iconst (zdm d_Md_init_1 29 rfl) (zIl rfl) ?_
  refine x_bipush (zdm d_Md_init_1 30 rfl) (by decide) ?_
  refine x_cast (zdm d_Md_init_1 31 rfl) rfl (by decide) (by decide) rfl ?_
  refine x_dup (zdm d_Md_init_1 32 rfl) z2n1 ?_
  refine x_iconst (zdm d_Md_init_1 33 rfl) (zIl rfl) ?_
  refine x_bipush (zdm d_Md_init_1 34 rfl) (by decide) ?_
  refine x_cast (zdm d_Md_init_1 35 rfl) rfl (by decide) (by decide) rfl ?_
  refine x_dup (zdm d_Md_init_1 36 rfl) z2n1 ?_
  refine x_iconst (zdm d_Md_init_1 37 rfl) (zIl rfl) ?_
  refine x_bipush (zdm d_Md_init_1 38 rfl) (by decide) ?_
  refine x_cast (zdm d_Md_init_1 39 rfl) rfl (by decide) (by decide) rfl ?_
  refine x_putF (zdm d_Md_init_1 40 rfl) f_Md_33 rfl ⟨_, _, rfl⟩ rfl ⟨rfl, trivial⟩ rfl ?_
  refine x_aload_n (zdm d_Md_init_1 41 rfl) rfl (n := 0) rfl ?_
  refine x_iconst (zdm d_Md_init_1 42 rfl) (zIl rfl) ?_
  refine x_newaC (c := 132) (zdm d_Md_init_1 43 rfl) wa_char (zwo (by decide) (zwo (by decide) (zwo (by decide) (zwo (by decide) (zwo (by decide) zvs2))))) (c' := 133) (by decide) rfl (by decide) (Nat.le_of_ble_eq_true rfl) (Nat.le_of_ble_eq_true rfl) ?_
  refine x_dup (zdm d_Md_init_1 44 rfl) z2n1 ?_
  refine x_iconst (zdm d_Md_init_1 45 rfl) (zIl rfl) ?_
  refine x_bipush (zdm d_Md_init_1 46 rfl) (by decide) ?_
  refine x_cast (zdm d_Md_init_1 47 rfl) rfl (by decide) (by decide) rfl ?_
  refine x_dup (zdm d_Md_init_1 48 rfl) z2n1 ?_
  refine x_iconst (zdm d_Md_init_1 49 rfl) (zIl rfl) ?_
  refine x_bipush (zdm d_Md_init_1 50 rfl) (by decide) ?_
  refine x_cast (zdm d_Md_init_1 51 rfl) rfl (by decide) (by decide) rfl ?_
  refine x_putF (zdm d_Md_init_1 52 rfl) f_Md_36 rfl ⟨_, _, rfl⟩ rfl ⟨rfl, trivial⟩ rfl ?_
  refine x_aload_n (zdm d_Md_init_1 53 rfl) rfl (n := 0) rfl ?_
  refine x_iconst (zdm d_Md_init_1 54 rfl) (zIl rfl) ?_
  refine x_newaC (c := 133) (zdm d_Md_init_1 55 rfl) wa_char (zwo (by decide) (zwo (by decide) (zwo (by decide) zvs2))) (c' := 134) (by decide) rfl (by decide) (Nat.le_of_ble_eq_true rfl) (Nat.le_of_ble_eq_true rfl) ?_
  refine x_dup (zdm d_Md_init_1 56 rfl) z2n1 ?_
  refine x_iconst (zdm d_Md_init_1 57 rfl) (zIl rfl) ?_
  refine x_bipush (zdm d_Md_init_1 58 rfl) (by decide) ?_
  refine x_cast (zdm d_Md_init_1 59 rfl) rfl (by decide) (by decide) rfl ?_
  refine x_dup (zdm d_Md_init_2 0 rfl) z2n1 ?_
  refine x_iconst (zdm d_Md_init_2 1 rfl) (zIl rfl) ?_
  refine x_bipush (zdm d_Md_init_2 2 rfl) (by decide) ?_
  refine x_cast (zdm d_Md_init_2 3 rfl) rfl (by decide) (by decide) rfl ?_
  refine x_putF (zdm d_Md_init_2 4 rfl) f_Md_39 rfl ⟨_, _, rfl⟩ rfl ⟨rfl, trivial⟩ rfl ?_
  refine x_aload_n (zdm d_Md_init_2 5 rfl) rfl (n := 0) rfl ?_
  refine x_iconst (zdm d_Md_init_2 6 rfl) (zIl rfl) ?_
  refine x_newaC (c := 134) (zdm d_Md_init_2 7 rfl) wa_char (zwo (by decide) (zwo (by decide) (zwo (by decide) zvs2))) (c' := 135) (by decide) rfl (by decide) (Nat.le_of_ble_eq_true rfl) (Nat.le_of_ble_eq_true rfl) ?_
  refine x_dup (zdm d_Md_init_2 8 rfl) z2n1 ?_
  refine x_iconst (zdm d_Md_init_2 9 rfl) (zIl rfl) ?_
  refine x_bipush (zdm d_Md_init_2 10 rfl) (by decide) ?_
  refine x_cast (zdm d_Md_init_2 11 rfl) rfl (by decide) (by decide) rfl ?_
  refine x_dup (zdm d_Md_init_2 12 rfl) z2n1 ?_
  refine x_iconst (zdm d_Md_init_2 13 rfl) (zIl rfl) ?_
  refine x_bipush (zdm d_Md_init_2 14 rfl) (by decide) ?_
  refine x_cast (zdm d_Md_init_2 15 rfl) rfl (by decide) (by decide) rfl ?_
  refine x_putF (zdm d_Md_init_2 16 rfl) f_Md_42 rfl ⟨_, _, rfl⟩ rfl ⟨rfl, trivial⟩ rfl ?_
  refine x_aload_n (zdm d_Md_init_2 17 rfl) rfl (n := 0) rfl ?_
  refine x_iconst (zdm d_Md_init_2 18 rfl) (zIl rfl) ?_
  refine x_newaC (c := 135) (zdm d_Md_init_2 19 rfl) wa_char (zwo (by decide) (zwo (by decide) (zwo (by decide) zvs2))) (c' := 136) (by decide) rfl (by decide) (Nat.le_of_ble_eq_true rfl) (Nat.le_of_ble_eq_true rfl) ?_
  refine x_dup (zdm d_Md_init_2 20 rfl) z2n1 ?_
  refine x_iconst (zdm d_Md_init_2 21 rfl) (zIl rfl) ?_
  refine x_bipush (zdm d_Md_init_2 22 rfl) (by decide) ?_
  refine x_cast (zdm d_Md_init_2 23 rfl) rfl (by decide) (by decide) rfl ?_
  refine x_dup (zdm d_Md_init_2 24 rfl) z2n1 ?_
  refine x_iconst (zdm d_Md_init_2 25 rfl) (zIl rfl) ?_
  refine x_bipush (zdm d_Md_init_2 26 rfl) (by decide) ?_
  refine x_cast (zdm d_Md_init_2 27 rfl) rfl (by decide) (by decide) rfl ?_
  refine x_putF (zdm d_Md_init_2 28 rfl) f_Md_45 rfl ⟨_, _, rfl⟩ rfl ⟨rfl, trivial⟩ rfl ?_
  refine x_aload_n (zdm d_Md_init_2 29 rfl) rfl (n := 0) rfl ?_
  refine x_iconst (zdm d_Md_init_2 30 rfl) (zIl rfl) ?_
  refine x_newaC (c := 136) (zdm d_Md_init_2 31 rfl) wa_char (zwo (by decide) (zwo (by decide) (zwo (by decide) zvs2))) (c' := 137) (by decide) rfl (by decide) (Nat.le_of_ble_eq_true rfl) (Nat.le_of_ble_eq_true rfl) ?_
  refine x_dup (zdm d_Md_init_2 32 rfl) z2n1 ?_
  refine x_iconst (zdm d_Md_init_2 33 rfl) (zIl rfl) ?_
  refine x_bipush (zdm d_Md_init_2 34 rfl) (by decide) ?_
  refine x_cast (zdm d_Md_init_2 35 rfl) rfl (by decide) (by decide) rfl ?_
  refine x_dup (zdm d_Md_init_2 36 rfl) z2n1 ?_
  refine x_iconst (zdm d_Md_init_2 37 rfl) (zIl rfl) ?_
  refine x_bipush (zdm d_Md_init_2 38 rfl) (by decide) ?_
  refine x_cast (zdm d_Md_init_2 39 rfl) rfl (by decide) (by decide) rfl ?_
  refine x_dup (zdm d_Md_init_2 40 rfl) z2n1 ?_
  refine x_iconst (zdm d_Md_init_2 41 rfl) (zIl rfl) ?_
  refine x_bipush (zdm d_Md_init_2 42 rfl) (by decide) ?_
  refine x_cast (zdm d_Md_init_2 43 rfl) rfl (by decide) (by decide) rfl ?_
  refine x_dup (zdm d_Md_init_2 44 rfl) z2n1 ?_
  refine x_iconst (zdm d_Md_init_2 45 rfl) (zIl rfl) ?_
  refine x_bipush (zdm d_Md_init_2 46 rfl) (by decide) ?_
  refine x_cast (zdm d_Md_init_2 47 rfl) rfl (by decide) (by decide) rfl ?_
  refine x_putF (zdm d_Md_init_2 48 rfl) f_Md_48 rfl ⟨_, _, rfl⟩ rfl ⟨rfl, trivial⟩ rfl ?_
  refine x_aload_n (zdm d_Md_init_2 49 rfl) rfl (n := 0) rfl ?_
  refine x_iconst (zdm d_Md_init_2 50 rfl) (zIl rfl) ?_
  refine x_newaC (c := 137) (zdm d_Md_init_2 51 rfl) wa_char (zwo (by decide) (zwo (by decide) (zwo (by decide) (zwo (by decide) (zwo (by decide) zvs2))))) (c' := 138) (by decide) rfl (by decide) (Nat.le_of_ble_eq_true rfl) (Nat.le_of_ble_eq_true rfl) ?_
  refine x_dup (zdm d_Md_init_2 52 rfl) z2n1 ?_
  refine x_iconst (zdm d_Md_init_2 53 rfl) (zIl rfl) ?_
  refine x_bipush (zdm d_Md_init_2 54 rfl) (by decide) ?_
  refine x_cast (zdm d_Md_init_2 55 rfl) rfl (by decide) (by decide) rfl ?_
  refine x_dup (zdm d_Md_init_2 56 rfl) z2n1 ?_
  refine x_iconst (zdm d_Md_init_2 57 rfl) (zIl rfl) ?_
  refine x_bipush (zdm d_Md_init_2 58 rfl) (by decide) ?_
  refine x_cast (zdm d_Md_init_2 59 rfl) rfl (by decide) (by decide) rfl ?_
  refine x_putF (zdm d_Md_init_3 0 rfl) f_Md_51 rfl ⟨_, _, rfl⟩ rfl ⟨rfl, trivial⟩ rfl ?_
  refine x_aload_n (zdm d_Md_init_3 1 rfl) rfl (n := 0) rfl ?_
  refine x_iconst (zdm d_Md_init_3 2 rfl) (zIl rfl) ?_
  refine x_newaC (c := 138) (zdm d_Md_init_3 3 rfl) wa_char (zwo (by decide) (zwo (by decide) (zwo (by decide) zvs2))) (c' := 139) (by decide) rfl (by decide) (Nat.le_of_ble_eq_true rfl) (Nat.le_of_ble_eq_true rfl) ?_
  refine x_dup (zdm d_Md_init_3 4 rfl) z2n1 ?_
  refine x_iconst (zdm d_Md_init_3 5 rfl) (zIl rfl) ?_
  refine x_bipush (zdm d_Md_init_3 6 rfl) (by decide) ?_
  refine x_cast (zdm d_Md_init_3 7 rfl) rfl (by decide) (by decide) rfl ?_
  refine x_dup (zdm d_Md_init_3 8 rfl) z2n1 ?_
  refine x_iconst (zdm d_Md_init_3 9 rfl) (zIl rfl) ?_
  refine x_bipush (zdm d_Md_init_3 10 rfl) (by decide) ?_
  refine x_cast (zdm d_Md_init_3 11 rfl) rfl (by decide) (by decide) rfl ?_
  refine x_dup (zdm d_Md_init_3 12 rfl) z2n1 ?_
  refine x_iconst (zdm d_Md_init_3 13 rfl) (zIl rfl) ?_
  refine x_bipush (zdm d_Md_init_3 14 rfl) (by decide) ?_
  refine x_cast (zdm d_Md_init_3 15 rfl) rfl (by decide) (by decide) rfl ?_
  refine x_dup (zdm d_Md_init_3 16 rfl) z2n1 ?_
  refine x_iconst (zdm d_Md_init_3 17 rfl) (zIl rfl) ?_
  refine x_bipush (zdm d_Md_init_3 18 rfl) (by decide) ?_
  refine x_cast (zdm d_Md_init_3 19 rfl) rfl (by decide) (by decide) rfl ?_
  refine x_putF (zdm d_Md_init_3 20 rfl) f_Md_54 rfl ⟨_, _, rfl⟩ rfl ⟨rfl, trivial⟩ rfl ?_
  refine x_aload_n (zdm d_Md_init_3 21 rfl) rfl (n := 0) rfl ?_
  refine x_iconst (zdm d_Md_init_3 22 rfl) (zIl rfl) ?_
  refine x_newaC (c := 139) (zdm d_Md_init_3 23 rfl) wa_char (zwo (by decide) (zwo (by decide) (zwo (by decide) (zwo (by decide) (zwo (by decide) zvs2))))) (c' := 140) (by decide) rfl (by decide) (Nat.le_of_ble_eq_true rfl) (Nat.le_of_ble_eq_true rfl) ?_
  refine x_dup (zdm d_Md_init_3 24 rfl) z2n1 ?_
  refine x_iconst (zdm d_Md_init_3 25 rfl) (zIl rfl) ?_
  refine x_bipush (zdm d_Md_init_3 26 rfl) (by decide) ?_
  refine x_cast (zdm d_Md_init_3 27 rfl) rfl (by decide) (by decide) rfl ?_
  refine x_dup (zdm d_Md_init_3 28 rfl) z2n1 ?_
  refine x_iconst (zdm d_Md_init_3 29 rfl) (zIl rfl) ?_
  refine x_bipush (zdm d_Md_init_3 30 rfl) (by decide) ?_
  refine x_cast (zdm d_Md_init_3 31 rfl) rfl (by decide) (by decide) rfl ?_
  refine x_dup (zdm d_Md_init_3 32 rfl) z2n1 ?_
  refine x_iconst (zdm d_Md_init_3 33 rfl) (zIl rfl) ?_
  refine x_bipush (zdm d_Md_init_3 34 rfl) (by decide) ?_
  refine x_cast (zdm d_Md_init_3 35 rfl) rfl (by decide) (by decide) rfl ?_
  refine x_dup (zdm d_Md_init_3 36 rfl) z2n1 ?_
  refine x_iconst (zdm d_Md_init_3 37 rfl) (zIl rfl) ?_
  refine x_bipush (zdm d_Md_init_3 38 rfl) (by decide) ?_
  refine x_cast (zdm d_Md_init_3 39 rfl) rfl (by decide) (by decide) rfl ?_
  refine x_putF (zdm d_Md_init_3 40 rfl) f_Md_57 rfl ⟨_, _, rfl⟩ rfl ⟨rfl, trivial⟩ rfl ?_
  refine x_aload_n (zdm d_Md_init_3 41 rfl) rfl (n := 0) rfl ?_
  refine x_iconst (zdm d_Md_init_3 42 rfl) (zIl rfl) ?_
  refine x_newaC (c := 140) (zdm d_Md_init_3 43 rfl) wa_char (zwo (by decide) (zwo (by decide) (zwo (by decide) (zwo (by decide) (zwo (by decide) zvs2))))) (c' := 141) (by decide) rfl (by decide) (Nat.le_of_ble_eq_true rfl) (Nat.le_of_ble_eq_true rfl) ?_
  refine x_dup (zdm d_Md_init_3 44 rfl) z2n1 ?_
  refine x_iconst (zdm d_Md_init_3 45 rfl) (zIl rfl) ?_
  refine x_bipush (zdm d_Md_init_3 46 rfl) (by decide) ?_
  refine x_cast (zdm d_Md_init_3 47 rfl) rfl (by decide) (by decide) rfl ?_
  refine x_dup (zdm d_Md_init_3 48 rfl) z2n1 ?_
  refine x_iconst (zdm d_Md_init_3 49 rfl) (zIl rfl) ?_
  refine x_bipush (zdm d_Md_init_3 50 rfl) (by decide) ?_
  refine x_cast (zdm d_Md_init_3 51 rfl) rfl (by decide) (by decide) rfl ?_
  refine x_putF (zdm d_Md_init_3 52 rfl) f_Md_60 rfl ⟨_, _, rfl⟩ rfl ⟨rfl, trivial⟩ rfl ?_
  refine x_aload_n (zdm d_Md_init_3 53 rfl) rfl (n := 0) rfl ?_
  refine x_iconst (zdm d_Md_init_3 54 rfl) (zIl rfl) ?_
  refine x_newaC (c := 141) (zdm d_Md_init_3 55 rfl) wa_char (zwo (by decide) (zwo (by decide) (zwo (by decide) zvs2))) (c' := 142) (by decide) rfl (by decide) (Nat.le_of_ble_eq_true rfl) (Nat.le_of_ble_eq_true rfl) ?_
  refine x_dup (zdm d_Md_init_3 56 rfl) z2n1 ?_
  refine x_iconst (zdm d_Md_init_3 57 rfl) (zIl rfl) ?_
  refine x_bipush (zdm d_Md_init_3 58 rfl) (by decide) ?_
  refine x_cast (zdm d_Md_init_3 59 rfl) rfl (by decide) (by decide) rfl ?_
  refine x_dup (zdm d_Md_init_4 0 rfl) z2n1 ?_
  refine x_iconst (zdm d_Md_init_4 1 rfl) (zIl rfl) ?_
  refine x_bipush (zdm d_Md_init_4 2 rfl) (by decide) ?_
  refine x_cast (zdm d_Md_init_4 3 rfl) rfl (by decide) (by decide) rfl ?_
  refine x_dup (zdm d_Md_init_4 4 rfl) z2n1 ?_
  refine x_iconst (zdm d_Md_init_4 5 rfl) (zIl rfl) ?_
  refine x_bipush (zdm d_Md_init_4 6 rfl) (by decide) ?_
  refine x_cast (zdm d_Md_init_4 7 rfl) rfl (by decide) (by decide) rfl ?_
  refine x_dup (zdm d_Md_init_4 8 rfl) z2n1 ?_
  refine x_iconst (zdm d_Md_init_4 9 rfl) (zIl rfl) ?_
  refine x_bipush (zdm d_Md_init_4 10 rfl) (by decide) ?_
  refine x_cast (zdm d_Md_init_4 11 rfl) rfl (by decide) (by decide) rfl ?_
  refine x_dup (zdm d_Md_init_4 12 rfl) z2n1 ?_
  refine x_iconst (zdm d_Md_init_4 13 rfl) (zIl rfl) ?_
  refine x_bipush (zdm d_Md_init_4 14 rfl) (by decide) ?_
  refine x_cast (zdm d_Md_init_4 15 rfl) rfl (by decide) (by decide) rfl ?_
  refine x_putF (zdm d_Md_init_4 16 rfl) f_Md_63 rfl ⟨_, _, rfl⟩ rfl ⟨rfl, trivial⟩ rfl ?_
  refine x_aload_n (zdm d_Md_init_4 17 rfl) rfl (n := 0) rfl ?_
  refine x_iconst (zdm d_Md_init_4 18 rfl) (zIl rfl) ?_
  refine x_newaC (c := 142) (zdm d_Md_init_4 19 rfl) wa_char (zwo (by decide) (zwo (by decide) (zwo (by decide) (zwo (by decide) (zwo (by decide) (zwo (by decide) zvs2)))))) (c' := 143) (by decide) rfl (by decide) (Nat.le_of_ble_eq_true rfl) (Nat.le_of_ble_eq_true rfl) ?_
  refine x_dup (zdm d_Md_init_4 20 rfl) z2n1 ?_
  refine x_iconst (zdm d_Md_init_4 21 rfl) (zIl rfl) ?_
  refine x_bipush (zdm d_Md_init_4 22 rfl) (by decide) ?_
  refine x_cast (zdm d_Md_init_4 23 rfl) rfl (by decide) (by decide) rfl ?_
  refine x_dup (zdm d_Md_init_4 24 rfl) z2n1 ?_
  refine x_iconst (zdm d_Md_init_4 25 rfl) (zIl rfl) ?_
  refine x_bipush (zdm d_Md_init_4 26 rfl) (by decide) ?_
  refine x_cast (zdm d_Md_init_4 27 rfl) rfl (by decide) (by decide) rfl ?_
  refine x_dup (zdm d_Md_init_4 28 rfl) z2n1 ?_
  refine x_iconst (zdm d_Md_init_4 29 rfl) (zIl rfl) ?_
  refine x_bipush (zdm d_Md_init_4 30 rfl) (by decide) ?_
  refine x_cast (zdm d_Md_init_4 31 rfl) rfl (by decide) (by decide) rfl ?_
  refine x_dup (zdm d_Md_init_4 32 rfl) z2n1 ?_
  refine x_iconst (zdm d_Md_init_4 33 rfl) (zIl rfl) ?_
  refine x_bipush (zdm d_Md_init_4 34 rfl) (by decide) ?_
  refine x_cast (zdm d_Md_init_4 35 rfl) rfl (by decide) (by decide) rfl ?_
  refine x_putF (zdm d_Md_init_4 36 rfl) f_Md_66 rfl ⟨_, _, rfl⟩ rfl ⟨rfl, trivial⟩ rfl ?_
  refine x_aload_n (zdm d_Md_init_4 37 rfl) rfl (n := 0) rfl ?_
  refine x_iconst (zdm d_Md_init_4 38 rfl) (zIl rfl) ?_
  refine x_newaC (c := 143) (zdm d_Md_init_4 39 rfl) wa_char (zwo (by decide) (zwo (by decide) (zwo (by decide) (zwo (by decide) (zwo (by decide) zvs2))))) (c' := 144) (by decide) rfl (by decide) (Nat.le_of_ble_eq_true rfl) (Nat.le_of_ble_eq_true rfl) ?_
  refine x_dup (zdm d_Md_init_4 40 rfl) z2n1 ?_
  refine x_iconst (zdm d_Md_init_4 41 rfl) (zIl rfl) ?_
  refine x_bipush (zdm d_Md_init_4 42 rfl) (by decide) ?_
  refine x_cast (zdm d_Md_init_4 43 rfl) rfl (by decide) (by decide) rfl ?_
  refine x_dup (zdm d_Md_init_4 44 rfl) z2n1 ?_
  refine x_iconst (zdm d_Md_init_4 45 rfl) (zIl rfl) ?_
  refine x_bipush (zdm d_Md_init_4 46 rfl) (by decide) ?_
  refine x_cast (zdm d_Md_init_4 47 rfl) rfl (by decide) (by decide) rfl ?_
  refine x_dup (zdm d_Md_init_4 48 rfl) z2n1 ?_
  refine x_iconst (zdm d_Md_init_4 49 rfl) (zIl rfl) ?_
  refine x_bipush (zdm d_Md_init_4 50 rfl) (by decide) ?_
  refine x_cast (zdm d_Md_init_4 51 rfl) rfl (by decide) (by decide) rfl ?_
  refine x_dup (zdm d_Md_init_4 52 rfl) z2n1 ?_
  refine x_iconst (zdm d_Md_init_4 53 rfl) (zIl rfl) ?_
  refine x_bipush (zdm d_Md_init_4 54 rfl) (by decide) ?_
  refine x_cast (zdm d_Md_init_4 55 rfl) rfl (by decide) (by decide) rfl ?_
  refine x_putF (zdm d_Md_init_4 56 rfl) f_Md_69 rfl ⟨_, _, rfl⟩ rfl ⟨rfl, trivial⟩ rfl ?_
  refine x_aload_n (zdm d_Md_init_4 57 rfl) rfl (n := 0) rfl ?_
  refine x_iconst (zdm d_Md_init_4 58 rfl) (zIl rfl) ?_
  refine x_newaC (c := 144) (zdm d_Md_init_4 59 rfl) wa_char (zwo (by decide) (zwo (by decide) (zwo (by decide) (zwo (by decide) (zwo (by decide) zvs2))))) (c' := 145) (by decide) rfl (by decide) (Nat.le_of_ble_eq_true rfl) (Nat.le_of_ble_eq_true rfl) ?_
  refine x_dup (zdm d_Md_init_5 0 rfl) z2n1 ?_
  refine x_iconst (zdm d_Md_init_5 1 rfl) (zIl rfl) ?_
  refine x_bipush (zdm d_Md_init_5 2 rfl) (by decide) ?_
  refine x_cast (zdm d_Md_init_5 3 rfl) rfl (by decide) (by decide) rfl ?_
  refine x_dup (zdm d_Md_init_5 4 rfl) z2n1 ?_
  refine x_iconst (zdm d_Md_init_5 5 rfl) (zIl rfl) ?_
  refine x_bipush (zdm d_Md_init_5 6 rfl) (by decide) ?_
  refine x_cast (zdm d_Md_init_5 7 rfl) rfl (by decide) (by decide) rfl ?_
  refine x_dup (zdm d_Md_init_5 8 rfl) z2n1 ?_
  refine x_iconst (zdm d_Md_init_5 9 rfl) (zIl rfl) ?_
  refine x_bipush (zdm d_Md_init_5 10 rfl) (by decide) ?_
  refine x_cast (zdm d_Md_init_5 11 rfl) rfl (by decide) (by decide) rfl ?_
  refine x_dup (zdm d_Md_init_5 12 rfl) z2n1 ?_
  refine x_iconst (zdm d_Md_init_5 13 rfl) (zIl rfl) ?_
  refine x_bipush (zdm d_Md_init_5 14 rfl) (by decide) ?_
  refine x_cast (zdm d_Md_init_5 15 rfl) rfl (by decide) (by decide) rfl ?_
  refine x_putF (zdm d_Md_init_5 16 rfl) f_Md_72 rfl ⟨_, _, rfl⟩ rfl ⟨rfl, trivial⟩ rfl ?_
  refine x_aload_n (zdm d_Md_init_5 17 rfl) rfl (n := 0) rfl ?_
  refine x_bipush (zdm d_Md_init_5 18 rfl) (by decide) ?_
  refine x_newaC (c := 145) (zdm d_Md_init_5 19 rfl) wa_char (zwo (by decide) (zwo (by decide) (zwo (by decide) (zwo (by decide) (zwo (by decide) zvs2))))) (c' := 146) (by decide) rfl (by decide) (Nat.le_of_ble_eq_true rfl) (Nat.le_of_ble_eq_true rfl) ?_
  refine x_dup (zdm d_Md_init_5 20 rfl) z2n1 ?_
  refine x_iconst (zdm d_Md_init_5 21 rfl) (zIl rfl) ?_
  refine x_bipush (zdm d_Md_init_5 22 rfl) (by decide) ?_
  refine x_cast (zdm d_Md_init_5 23 rfl) rfl (by decide) (by decide) rfl ?_
  refine x_dup (zdm d_Md_init_5 24 rfl) z2n1 ?_
  refine x_iconst (zdm d_Md_init_5 25 rfl) (zIl rfl) ?_
  refine x_bipush (zdm d_Md_init_5 26 rfl) (by decide) ?_
  refine x_cast (zdm d_Md_init_5 27 rfl) rfl (by decide) (by decide) rfl ?_
  refine x_dup (zdm d_Md_init_5 28 rfl) z2n1 ?_
  refine x_iconst (zdm d_Md_init_5 29 rfl) (zIl rfl) ?_
  refine x_bipush (zdm d_Md_init_5 30 rfl) (by decide) ?_
  refine x_cast (zdm d_Md_init_5 31 rfl) rfl (by decide) (by decide) rfl ?_
  refine x_dup (zdm d_Md_init_5 32 rfl) z2n1 ?_
  refine x_iconst (zdm d_Md_init_5 33 rfl) (zIl rfl) ?_
  refine x_bipush (zdm d_Md_init_5 34 rfl) (by decide) ?_
  refine x_cast (zdm d_Md_init_5 35 rfl) rfl (by decide) (by decide) rfl ?_
  refine x_dup (zdm d_Md_init_5 36 rfl) z2n1 ?_
  refine x_iconst (zdm d_Md_init_5 37 rfl) (zIl rfl) ?_
  refine x_bipush (zdm d_Md_init_5 38 rfl) (by decide) ?_
  refine x_cast (zdm d_Md_init_5 39 rfl) rfl (by decide) (by decide) rfl ?_
  refine x_dup (zdm d_Md_init_5 40 rfl) z2n1 ?_
  refine x_iconst (zdm d_Md_init_5 41 rfl) (zIl rfl) ?_
  refine x_bipush (zdm d_Md_init_5 42 rfl) (by decide) ?_
  refine x_cast (zdm d_Md_init_5 43 rfl) rfl (by decide) (by decide) rfl ?_
  refine x_putF (zdm d_Md_init_5 44 rfl) f_Md_75 rfl ⟨_, _, rfl⟩ rfl ⟨rfl, trivial⟩ rfl ?_
  refine x_aload_n (zdm d_Md_init_5 45 rfl) rfl (n := 0) rfl ?_
  refine x_iconst (zdm d_Md_init_5 46 rfl) (zIl rfl) ?_
  refine x_newaC (c := 146) (zdm d_Md_init_5 47 rfl) wa_char (zwo (by decide) (zwo (by decide) (zwo (by decide) (zwo (by decide) (zwo (by decide) (zwo (by decide) (zwo (by decide) zvs2))))))) (c' := 147) (by decide) rfl (by decide) (Nat.le_of_ble_eq_true rfl) (Nat.le_of_ble_eq_true rfl) ?_
  refine x_dup (zdm d_Md_init_5 48 rfl) z2n1 ?_
  refine x_iconst (zdm d_Md_init_5 49 rfl) (zIl rfl) ?_
  refine x_bipush (zdm d_Md_init_5 50 rfl) (by decide) ?_
  refine x_cast (zdm d_Md_init_5 51 rfl) rfl (by decide) (by decide) rfl ?_
  refine x_dup (zdm d_Md_init_5 52 rfl) z2n1 ?_
  refine x_iconst (zdm d_Md_init_5 53 rfl) (zIl rfl) ?_
  refine x_bipush (zdm d_Md_init_5 54 rfl) (by decide) ?_
  refine x_cast (zdm d_Md_init_5 55 rfl) rfl (by decide) (by decide) rfl ?_
  refine x_dup (zdm d_Md_init_5 56 rfl) z2n1 ?_
  refine x_iconst (zdm d_Md_init_5 57 rfl) (zIl rfl) ?_
  refine x_bipush (zdm d_Md_init_5 58 rfl) (by decide) ?_
  refine x_cast (zdm d_Md_init_5 59 rfl) rfl (by decide) (by decide) rfl ?_
  refine x_dup (zdm d_Md_init_6 0 rfl) z2n1 ?_
  refine x_iconst (zdm d_Md_init_6 1 rfl) (zIl rfl) ?_
  refine x_bipush (zdm d_Md_init_6 2 rfl) (by decide) ?_
  refine x_cast (zdm d_Md_init_6 3 rfl) rfl (by decide) (by decide) rfl ?_
  refine x_putF (zdm d_Md_init_6 4 rfl) f_Md_78 rfl ⟨_, _, rfl⟩ rfl ⟨rfl, trivial⟩ rfl ?_
  refine x_aload_n (zdm d_Md_init_6 5 rfl) rfl (n := 0) rfl ?_
  refine x_iconst (zdm d_Md_init_6 6 rfl) (zIl rfl) ?_
  refine x_newaC (c := 147) (zdm d_Md_init_6 7 rfl) wa_char (zwo (by decide) (zwo (by decide) (zwo (by decide) (zwo (by decide) (zwo (by decide) zvs2))))) (c' := 148) (by decide) rfl (by decide) (Nat.le_of_ble_eq_true rfl) (Nat.le_of_ble_eq_true rfl) ?_
  refine x_dup (zdm d_Md_init_6 8 rfl) z2n1 ?_
  refine x_iconst (zdm d_Md_init_6 9 rfl) (zIl rfl) ?_
  refine x_bipush (zdm d_Md_init_6 10 rfl) (by decide) ?_
  refine x_cast (zdm d_Md_init_6 11 rfl) rfl (by decide) (by decide) rfl ?_
  refine x_dup (zdm d_Md_init_6 12 rfl) z2n1 ?_
  refine x_iconst (zdm d_Md_init_6 13 rfl) (zIl rfl) ?_
  refine x_bipush (zdm d_Md_init_6 14 rfl) (by decide) ?_
  refine x_cast (zdm d_Md_init_6 15 rfl) rfl (by decide) (by decide) rfl ?_
  refine x_dup (zdm d_Md_init_6 16 rfl) z2n1 ?_
  refine x_iconst (zdm d_Md_init_6 17 rfl) (zIl rfl) ?_
  refine x_bipush (zdm d_Md_init_6 18 rfl) (by decide) ?_
  refine x_cast (zdm d_Md_init_6 19 rfl) rfl (by decide) (by decide) rfl ?_
  refine x_dup (zdm d_Md_init_6 20 rfl) z2n1 ?_
  refine x_iconst (zdm d_Md_init_6 21 rfl) (zIl rfl) ?_
  refine x_bipush (zdm d_Md_init_6 22 rfl) (by decide) ?_
  refine x_cast (zdm d_Md_init_6 23 rfl) rfl (by decide) (by decide) rfl ?_
  refine x_dup (zdm d_Md_init_6 24 rfl) z2n1 ?_
  refine x_iconst (zdm d_Md_init_6 25 rfl) (zIl rfl) ?_
  refine x_bipush (zdm d_Md_init_6 26 rfl) (by decide) ?_
  refine x_cast (zdm d_Md_init_6 27 rfl) rfl (by decide) (by decide) rfl ?_
  refine x_putF (zdm d_Md_init_6 28 rfl) f_Md_81 rfl ⟨_, _, rfl⟩ rfl ⟨rfl, trivial⟩ rfl ?_
  refine x_aload_n (zdm d_Md_init_6 29 rfl) rfl (n := 0) rfl ?_
  refine x_iconst (zdm d_Md_init_6 30 rfl) (zIl rfl) ?_
  refine x_newaC (c := 148) (zdm d_Md_init_6 31 rfl) wa_char (zwo (by decide) (zwo (by decide) (zwo (by decide) (zwo (by decide) (zwo (by decide) (zwo (by decide) zvs2)))))) (c' := 149) (by decide) rfl (by decide) (Nat.le_of_ble_eq_true rfl) (Nat.le_of_ble_eq_true rfl) ?_
  refine x_dup (zdm d_Md_init_6 32 rfl) z2n1 ?_
  refine x_iconst (zdm d_Md_init_6 33 rfl) (zIl rfl) ?_
  refine x_bipush (zdm d_Md_init_6 34 rfl) (by decide) ?_
  refine x_cast (zdm d_Md_init_6 35 rfl) rfl (by decide) (by decide) rfl ?_
  refine x_dup (zdm d_Md_init_6 36 rfl) z2n1 ?_
  refine x_iconst (zdm d_Md_init_6 37 rfl) (zIl rfl) ?_
  refine x_bipush (zdm d_Md_init_6 38 rfl) (by decide) ?_
  refine x_cast (zdm d_Md_init_6 39 rfl) rfl (by decide) (by decide) rfl ?_
  refine x_dup (zdm d_Md_init_6 40 rfl) z2n1 ?_
  refine x_iconst (zdm d_Md_init_6 41 rfl) (zIl rfl) ?_
  refine x_bipush (zdm d_Md_init_6 42 rfl) (by decide) ?_
  refine x_cast (zdm d_Md_init_6 43 rfl) rfl (by decide) (by decide) rfl ?_
  refine x_dup (zdm d_Md_init_6 44 rfl) z2n1 ?_
  refine x_iconst (zdm d_Md_init_6 45 rfl) (zIl rfl) ?_
  refine x_bipush (zdm d_Md_init_6 46 rfl) (by decide) ?_
  refine x_cast (zdm d_Md_init_6 47 rfl) rfl (by decide) (by decide) rfl ?_
  refine x_dup (zdm d_Md_init_6 48 rfl) z2n1 ?_
  refine x_iconst (zdm d_Md_init_6 49 rfl) (zIl rfl) ?_
  refine x_bipush (zdm d_Md_init_6 50 rfl) (by decide) ?_
  refine x_cast (zdm d_Md_init_6 51 rfl) rfl (by decide) (by decide) rfl ?_
  refine x_putF (zdm d_Md_init_6 52 rfl) f_Md_84 rfl ⟨_, _, rfl⟩ rfl ⟨rfl, trivial⟩ rfl ?_
  refine x_aload_n (zdm d_Md_init_6 53 rfl) rfl (n := 0) rfl ?_
  refine x_iconst (zdm d_Md_init_6 54 rfl) (zIl rfl) ?_
  refine x_newaC (c := 149) (zdm d_Md_init_6 55 rfl) wa_char (zwo (by decide) (zwo (by decide) (zwo (by decide) (zwo (by decide) (zwo (by decide) (zwo (by decide) zvs2)))))) (c' := 150) (by decide) rfl (by decide) (Nat.le_of_ble_eq_true rfl) (Nat.le_of_ble_eq_true rfl) ?_
  refine x_dup (zdm d_Md_init_6 56 rfl) z2n1 ?_
  refine x_iconst (zdm d_Md_init_6 57 rfl) (zIl rfl) ?_
  refine x_bipush (zdm d_Md_init_6 58 rfl) (by decide) ?_
  refine x_cast (zdm d_Md_init_6 59 rfl) rfl (by decide) (by decide) rfl ?_
  refine x_dup (zdm d_Md_init_7 0 rfl) z2n1 ?_
  refine x_iconst (zdm d_Md_init_7 1 rfl) (zIl rfl) ?_
  refine x_bipush (zdm d_Md_init_7 2 rfl) (by decide) ?_
  refine x_cast (zdm d_Md_init_7 3 rfl) rfl (by decide) (by decide) rfl ?_
  refine x_dup (zdm d_Md_init_7 4 rfl) z2n1 ?_
  refine x_iconst (zdm d_Md_init_7 5 rfl) (zIl rfl) ?_
  refine x_bipush (zdm d_Md_init_7 6 rfl) (by decide) ?_
  refine x_cast (zdm d_Md_init_7 7 rfl) rfl (by decide) (by decide) rfl ?_
  refine x_dup (zdm d_Md_init_7 8 rfl) z2n1 ?_
  refine x_iconst (zdm d_Md_init_7 9 rfl) (zIl rfl) ?_
  refine x_bipush (zdm d_Md_init_7 10 rfl) (by decide) ?_
  refine x_cast (zdm d_Md_init_7 11 rfl) rfl (by decide) (by decide) rfl ?_
  refine x_dup (zdm d_Md_init_7 12 rfl) z2n1 ?_
  refine x_iconst (zdm d_Md_init_7 13 rfl) (zIl rfl) ?_
  refine x_bipush (zdm d_Md_init_7 14 rfl) (by decide) ?_
  refine x_cast (zdm d_Md_init_7 15 rfl) rfl (by decide) (by decide) rfl ?_
  refine x_putF (zdm d_Md_init_7 16 rfl) f_Md_87 rfl ⟨_, _, rfl⟩ rfl ⟨rfl, trivial⟩ rfl ?_
  refine x_aload_n (zdm d_Md_init_7 17 rfl) rfl (n := 0) rfl ?_
  refine x_iconst (zdm d_Md_init_7 18 rfl) (zIl rfl) ?_
  refine x_newaC (c := 150) (zdm d_Md_init_7 19 rfl) wa_char (zwo (by decide) (zwo (by decide) (zwo (by decide) (zwo (by decide) (zwo (by decide) (zwo (by decide) zvs2)))))) (c' := 151) (by decide) rfl (by decide) (Nat.le_of_ble_eq_true rfl) (Nat.le_of_ble_eq_true rfl) ?_
  refine x_dup (zdm d_Md_init_7 20 rfl) z2n1 ?_
  refine x_iconst (zdm d_Md_init_7 21 rfl) (zIl rfl) ?_
  refine x_bipush (zdm d_Md_init_7 22 rfl) (by decide) ?_
  refine x_cast (zdm d_Md_init_7 23 rfl) rfl (by decide) (by decide) rfl ?_
  refine x_dup (zdm d_Md_init_7 24 rfl) z2n1 ?_
  refine x_iconst (zdm d_Md_init_7 25 rfl) (zIl rfl) ?_
  refine x_bipush (zdm d_Md_init_7 26 rfl) (by decide) ?_
  refine x_cast (zdm d_Md_init_7 27 rfl) rfl (by decide) (by decide) rfl ?_
  refine x_dup (zdm d_Md_init_7 28 rfl) z2n1 ?_
  refine x_iconst (zdm d_Md_init_7 29 rfl) (zIl rfl) ?_
  refine x_bipush (zdm d_Md_init_7 30 rfl) (by decide) ?_
  refine x_cast (zdm d_Md_init_7 31 rfl) rfl (by decide) (by decide) rfl ?_
  refine x_putF (zdm d_Md_init_7 32 rfl) f_Md_90 rfl ⟨_, _, rfl⟩ rfl ⟨rfl, trivial⟩ rfl ?_
  refine x_aload_n (zdm d_Md_init_7 33 rfl) rfl (n := 0) rfl ?_
  refine x_iconst (zdm d_Md_init_7 34 rfl) (zIl rfl) ?_
  refine x_newaC (c := 151) (zdm d_Md_init_7 35 rfl) wa_char (zwo (by decide) (zwo (by decide) (zwo (by decide) (zwo (by decide) zvs2)))) (c' := 152) (by decide) rfl (by decide) (Nat.le_of_ble_eq_true rfl) (Nat.le_of_ble_eq_true rfl) ?_
  refine x_dup (zdm d_Md_init_7 36 rfl) z2n1 ?_
  refine x_iconst (zdm d_Md_init_7 37 rfl) (zIl rfl) ?_
  refine x_bipush (zdm d_Md_init_7 38 rfl) (by decide) ?_
  refine x_cast (zdm d_Md_init_7 39 rfl) rfl (by decide) (by decide) rfl ?_
  refine x_dup (zdm d_Md_init_7 40 rfl) z2n1 ?_
  refine x_iconst (zdm d_Md_init_7 41 rfl) (zIl rfl) ?_
  refine x_bipush (zdm d_Md_init_7 42 rfl) (by decide) ?_
  refine x_cast (zdm d_Md_init_7 43 rfl) rfl (by decide) (by decide) rfl ?_
  refine x_putF (zdm d_Md_init_7 44 rfl) f_Md_93 rfl ⟨_, _, rfl⟩ rfl ⟨rfl, trivial⟩ rfl ?_
  refine x_aload_n (zdm d_Md_init_7 45 rfl) rfl (n := 0) rfl ?_
  refine x_iconst (zdm d_Md_init_7 46 rfl) (zIl rfl) ?_
  refine x_newaC (c := 152) (zdm d_Md_init_7 47 rfl) wa_char (zwo (by decide) (zwo (by decide) (zwo (by decide) zvs2))) (c' := 153) (by decide) rfl (by decide) (Nat.le_of_ble_eq_true rfl) (Nat.le_of_ble_eq_true rfl) ?_
  refine x_dup (zdm d_Md_init_7 48 rfl) z2n1 ?_
  refine x_iconst (zdm d_Md_init_7 49 rfl) (zIl rfl) ?_
  refine x_bipush (zdm d_Md_init_7 50 rfl) (by decide) ?_
  refine x_cast (zdm d_Md_init_7 51 rfl) rfl (by decide) (by decide) rfl ?_
  refine x_dup (zdm d_Md_init_7 52 rfl) z2n1 ?_
  refine x_iconst (zdm d_Md_init_7 53 rfl) (zIl rfl) ?_
  refine x_bipush (zdm d_Md_init_7 54 rfl) (by decide) ?_
  refine x_cast (zdm d_Md_init_7 55 rfl) rfl (by decide) (by decide) rfl ?_
  refine x_dup (zdm d_Md_init_7 56 rfl) z2n1 ?_
  refine x_iconst (zdm d_Md_init_7 57 rfl) (zIl rfl) ?_
  refine x_bipush (zdm d_Md_init_7 58 rfl) (by decide) ?_
  refine x_cast (zdm d_Md_init_7 59 rfl) rfl (by decide) (by decide) rfl ?_
  refine x_putF (zdm d_Md_init_8 0 rfl) f_Md_96 rfl ⟨_, _, rfl⟩ rfl ⟨rfl, trivial⟩ rfl ?_
  refine x_aload_n (zdm d_Md_init_8 1 rfl) rfl (n := 0) rfl ?_
  refine x_iconst (zdm d_Md_init_8 2 rfl) (zIl rfl) ?_
  refine x_newaC (c := 153) (zdm d_Md_init_8 3 rfl) wa_char (zwo (by decide) (zwo (by decide) (zwo (by decide) (zwo (by decide) zvs2)))) (c' := 154) (by decide) rfl (by decide) (Nat.le_of_ble_eq_true rfl) (Nat.le_of_ble_eq_true rfl) ?_
  refine x_dup (zdm d_Md_init_8 4 rfl) z2n1 ?_
  refine x_iconst (zdm d_Md_init_8 5 rfl) (zIl rfl) ?_
  refine x_bipush (zdm d_Md_init_8 6 rfl) (by decide) ?_
  refine x_cast (zdm d_Md_init_8 7 rfl) rfl (by decide) (by decide) rfl ?_
  refine x_dup (zdm d_Md_init_8 8 rfl) z2n1 ?_
  refine x_iconst (zdm d_Md_init_8 9 rfl) (zIl rfl) ?_
  refine x_bipush (zdm d_Md_init_8 10 rfl) (by decide) ?_
  refine x_cast (zdm d_Md_init_8 11 rfl) rfl (by decide) (by decide) rfl ?_
  refine x_dup (zdm d_Md_init_8 12 rfl) z2n1 ?_
  refine x_iconst (zdm d_Md_init_8 13 rfl) (zIl rfl) ?_
  refine x_bipush (zdm d_Md_init_8 14 rfl) (by decide) ?_
  refine x_cast (zdm d_Md_init_8 15 rfl) rfl (by decide) (by decide) rfl ?_
  refine x_putF (zdm d_Md_init_8 16 rfl) f_Md_99 rfl ⟨_, _, rfl⟩ rfl ⟨rfl, trivial⟩ rfl ?_
  refine x_aload_n (zdm d_Md_init_8 17 rfl) rfl (n := 0) rfl ?_
  refine x_iconst (zdm d_Md_init_8 18 rfl) (zIl rfl) ?_
  refine x_newaC (c := 154) (zdm d_Md_init_8 19 rfl) wa_char (zwo (by decide) (zwo (by decide) (zwo (by decide) (zwo (by decide) zvs2)))) (c' := 155) (by decide) rfl (by decide) (Nat.le_of_ble_eq_true rfl) (Nat.le_of_ble_eq_true rfl) ?_
  refine x_dup (zdm d_Md_init_8 20 rfl) z2n1 ?_
  refine x_iconst (zdm d_Md_init_8 21 rfl) (zIl rfl) ?_
  refine x_bipush (zdm d_Md_init_8 22 rfl) (by decide) ?_
  refine x_cast (zdm d_Md_init_8 23 rfl) rfl (by decide) (by decide) rfl ?_
  refine x_dup (zdm d_Md_init_8 24 rfl) z2n1 ?_
  refine x_iconst (zdm d_Md_init_8 25 rfl) (zIl rfl) ?_
  refine x_bipush (zdm d_Md_init_8 26 rfl) (by decide) ?_
  refine x_cast (zdm d_Md_init_8 27 rfl) rfl (by decide) (by decide) rfl ?_
  refine x_dup (zdm d_Md_init_8 28 rfl) z2n1 ?_
  refine x_iconst (zdm d_Md_init_8 29 rfl) (zIl rfl) ?_
  refine x_bipush (zdm d_Md_init_8 30 rfl) (by decide) ?_
  refine x_cast (zdm d_Md_init_8 31 rfl) rfl (by decide) (by decide) rfl ?_
  refine x_putF (zdm d_Md_init_8 32 rfl) f_Md_102 rfl ⟨_, _, rfl⟩ rfl ⟨rfl, trivial⟩ rfl ?_
  refine x_aload_n (zdm d_Md_init_8 33 rfl) rfl (n := 0) rfl ?_
  refine x_iconst (zdm d_Md_init_8 34 rfl) (zIl rfl) ?_
  refine x_newaC (c := 155) (zdm d_Md_init_8 35 rfl) wa_char (zwo (by decide) (zwo (by decide) (zwo (by decide) (zwo (by decide) zvs2)))) (c' := 156) (by decide) rfl (by decide) (Nat.le_of_ble_eq_true rfl) (Nat.le_of_ble_eq_true rfl) ?_
  refine x_dup (zdm d_Md_init_8 36 rfl) z2n1 ?_
  refine x_iconst (zdm d_Md_init_8 37 rfl) (zIl rfl) ?_
  refine x_bipush (zdm d_Md_init_8 38 rfl) (by decide) ?_
  refine x_cast (zdm d_Md_init_8 39 rfl) rfl (by decide) (by decide) rfl ?_
  refine x_dup (zdm d_Md_init_8 40 rfl) z2n1 ?_
  refine x_iconst (zdm d_Md_init_8 41 rfl) (zIl rfl) ?_
  refine x_bipush (zdm d_Md_init_8 42 rfl) (by decide) ?_
  refine x_cast (zdm d_Md_init_8 43 rfl) rfl (by decide) (by decide) rfl ?_
  refine x_dup (zdm d_Md_init_8 44 rfl) z2n1 ?_
  refine x_iconst (zdm d_Md_init_8 45 rfl) (zIl rfl) ?_
  refine x_bipush (zdm d_Md_init_8 46 rfl) (by decide) ?_
  refine x_cast (zdm d_Md_init_8 47 rfl) rfl (by decide) (by decide) rfl ?_
  refine x_putF (zdm d_Md_init_8 48 rfl) f_Md_105 rfl ⟨_, _, rfl⟩ rfl ⟨rfl, trivial⟩ rfl ?_
  refine x_aload_n (zdm d_Md_init_8 49 rfl) rfl (n := 0) rfl ?_
  refine x_iconst (zdm d_Md_init_8 50 rfl) (zIl rfl) ?_
  refine x_newaC (c := 156) (zdm d_Md_init_8 51 rfl) wa_char (zwo (by decide) (zwo (by decide) (zwo (by decide) (zwo (by decide) zvs2)))) (c' := 157) (by decide) rfl (by decide) (Nat.le_of_ble_eq_true rfl) (Nat.le_of_ble_eq_true rfl) ?_
  refine x_dup (zdm d_Md_init_8 52 rfl) z2n1 ?_
  refine x_iconst (zdm d_Md_init_8 53 rfl) (zIl rfl) ?_
  refine x_bipush (zdm d_Md_init_8 54 rfl) (by decide) ?_
  refine x_cast (zdm d_Md_init_8 55 rfl) rfl (by decide) (by decide) rfl ?_
  refine x_dup (zdm d_Md_init_8 56 rfl) z2n1 ?_
  refine x_iconst (zdm d_Md_init_8 57 rfl) (zIl rfl) ?_
  refine x_bipush (zdm d_Md_init_8 58 rfl) (by decide) ?_
  refine x_cast (zdm d_Md_init_8 59 rfl) rfl (by decide) (by decide) rfl ?_
  refine x_dup (zdm d_Md_init_9 0 rfl) z2n1 ?_
  refine x_iconst (zdm d_Md_init_9 1 rfl) (zIl rfl) ?_
  refine x_bipush (zdm d_Md_init_9 2 rfl) (by decide) ?_
  refine x_cast (zdm d_Md_init_9 3 rfl) rfl (by decide) (by decide) rfl ?_
  refine x_putF (zdm d_Md_init_9 4 rfl) f_Md_108 rfl ⟨_, _, rfl⟩ rfl ⟨rfl, trivial⟩ rfl ?_
  refine x_aload_n (zdm d_Md_init_9 5 rfl) rfl (n := 0) rfl ?_
  refine x_iconst (zdm d_Md_init_9 6 rfl) (zIl rfl) ?_
  refine x_newaI (c := 157) (zdm d_Md_init_9 7 rfl) wa_int (zwo (by decide) (zwo (by decide) (zwo (by decide) (zwo (by decide) zvs2)))) (c' := 158) (by decide) rfl (by decide) (Nat.le_of_ble_eq_true rfl) (Nat.le_of_ble_eq_true rfl) ?_
  refine x_putF (zdm d_Md_init_9 8 rfl) f_Md_111 rfl ⟨_, _, rfl⟩ rfl ⟨rfl, trivial⟩ rfl ?_
  refine x_aload_n (zdm d_Md_init_9 9 rfl) rfl (n := 0) rfl ?_
  refine x_bipush (zdm d_Md_init_9 10 rfl) (by decide) ?_
  refine x_newaJ (c := 158) (zdm d_Md_init_9 11 rfl) wa_long (zwo (by decide) zvs2) (c' := 159) (by decide) rfl (by decide) (Nat.le_of_ble_eq_true rfl) (Nat.le_of_ble_eq_true rfl) ?_
  refine x_putF (zdm d_Md_init_9 12 rfl) f_Md_114 rfl ⟨_, _, rfl⟩ rfl ⟨rfl, trivial⟩ rfl ?_
  refine x_aload_n (zdm d_Md_init_9 13 rfl) rfl (n := 0) rfl ?_
  refine x_bipush (zdm d_Md_init_9 14 rfl) (by decide) ?_
  refine x_newaI (c := 159) (zdm d_Md_init_9 15 rfl) wa_int (zwo (by decide) zvs2) (c' := 160) (by decide) rfl (by decide) (Nat.le_of_ble_eq_true rfl) (Nat.le_of_ble_eq_true rfl) ?_
  refine x_putF (zdm d_Md_init_9 16 rfl) f_Md_118 rfl ⟨_, _, rfl⟩ rfl ⟨rfl, trivial⟩ rfl ?_
  refine x_aload_n (zdm d_Md_init_9 17 rfl) rfl (n := 0) rfl ?_
  refine x_bipush (zdm d_Md_init_9 18 rfl) (by decide) ?_
  refine x_newaI (c := 160) (zdm d_Md_init_9 19 rfl) wa_int (zwo (by decide) zvs2) (c' := 161) (by decide) rfl (by decide) (Nat.le_of_ble_eq_true rfl) (Nat.le_of_ble_eq_true rfl) ?_
  refine x_putF (zdm d_Md_init_9 20 rfl) f_Md_121 rfl ⟨_, _, rfl⟩ rfl ⟨rfl, trivial⟩ rfl ?_
  refine x_aload_n (zdm d_Md_init_9 21 rfl) rfl (n := 0) rfl ?_
  refine x_bipush (zdm d_Md_init_9 22 rfl) (by decide) ?_
  refine x_newaI (c := 161) (zdm d_Md_init_9 23 rfl) wa_int (zwo (by decide) zvs2) (c' := 162) (by decide) rfl (by decide) (Nat.le_of_ble_eq_true rfl) (Nat.le_of_ble_eq_true rfl) ?_
  refine x_putF (zdm d_Md_init_9 24 rfl) f_Md_124 rfl ⟨_, _, rfl⟩ rfl ⟨rfl, trivial⟩ rfl ?_
  refine x_aload_n (zdm d_Md_init_9 25 rfl) rfl (n := 0) rfl ?_
  refine x_sipush (zdm d_Md_init_9 26 rfl) (by decide) ?_
  refine x_newaI (c := 162) (zdm d_Md_init_9 27 rfl) wa_int (zwo (by decide) zvs2) (c' := 163) (by decide) rfl (by decide) (Nat.le_of_ble_eq_true rfl) (Nat.le_of_ble_eq_true rfl) ?_
  refine x_putF (zdm d_Md_init_9 28 rfl) f_Md_127 rfl ⟨_, _, rfl⟩ rfl ⟨rfl, trivial⟩ rfl ?_
  refine x_aload_n (zdm d_Md_init_9 29 rfl) rfl (n := 0) rfl ?_
  refine x_bipush (zdm d_Md_init_9 30 rfl) (by decide) ?_
  refine x_newaI (c := 163) (zdm d_Md_init_9 31 rfl) wa_int (zwo (by decide) zvs2) (c' := 164) (by decide) rfl (by decide) (Nat.le_of_ble_eq_true rfl) (Nat.le_of_ble_eq_true rfl) ?_
  refine x_putF (zdm d_Md_init_9 32 rfl) f_Md_130 rfl ⟨_, _, rfl⟩ rfl ⟨rfl, trivial⟩ rfl ?_
  refine x_aload_n (zdm d_Md_init_9 33 rfl) rfl (n := 0) rfl ?_
  refine x_sipush (zdm d_Md_init_9 34 rfl) (by decide) ?_
  refine x_newaI (c := 164) (zdm d_Md_init_9 35 rfl) wa_int (zwo (by decide) zvs2) (c' := 165) (by decide) rfl (by decide) (Nat.le_of_ble_eq_true rfl) (Nat.le_of_ble_eq_true rfl) ?_
  refine x_putF (zdm d_Md_init_9 36 rfl) f_Md_133 rfl ⟨_, _, rfl⟩ rfl ⟨rfl, trivial⟩ rfl ?_
  refine x_aload_n (zdm d_Md_init_9 37 rfl) rfl (n := 0) rfl ?_
  refine x_sipush (zdm d_Md_init_9 38 rfl) (by decide) ?_
  refine x_newaI (c := 165) (zdm d_Md_init_9 39 rfl) wa_int (zwo (by decide) zvs2) (c' := 166) (by decide) rfl (by decide) (Nat.le_of_ble_eq_true rfl) (Nat.le_of_ble_eq_true rfl) ?_
  refine x_putF (zdm d_Md_init_9 40 rfl) f_Md_136 rfl ⟨_, _, rfl⟩ rfl ⟨rfl, trivial⟩ rfl ?_
  refine x_aload_n (zdm d_Md_init_9 41 rfl) rfl (n := 0) rfl ?_
  refine x_bipush (zdm d_Md_init_9 42 rfl) (by decide) ?_
  refine x_newaI (c := 166) (zdm d_Md_init_9 43 rfl) wa_int (zwo (by decide) zvs2) (c' := 167) (by decide) rfl (by decide) (Nat.le_of_ble_eq_true rfl) (Nat.le_of_ble_eq_true rfl) ?_
  refine x_putF (zdm d_Md_init_9 44 rfl) f_Md_139 rfl ⟨_, _, rfl⟩ rfl ⟨rfl, trivial⟩ rfl ?_
  refine x_aload_n (zdm d_Md_init_9 45 rfl) rfl (n := 0) rfl ?_
  refine x_sipush (zdm d_Md_init_9 46 rfl) (by decide) ?_
  refine x_newaI (c := 167) (zdm d_Md_init_9 47 rfl) wa_int (zwo (by decide) zvs2) (c' := 168) (by decide) rfl (by decide) (Nat.le_of_ble_eq_true rfl) (Nat.le_of_ble_eq_true rfl) ?_
  refine x_putF (zdm d_Md_init_9 48 rfl) f_Md_142 rfl ⟨_, _, rfl⟩ rfl ⟨rfl, trivial⟩ rfl ?_
  refine x_aload_n (zdm d_Md_init_9 49 rfl) rfl (n := 0) rfl ?_
  refine x_sipush (zdm d_Md_init_9 50 rfl) (by decide) ?_
  refine x_newaZ (c := 168) (zdm d_Md_init_9 51 rfl) wa_boolean (zwo (by decide) zvs2) (c' := 169) (by decide) rfl (by decide) (Nat.le_of_ble_eq_true rfl) (Nat.le_of_ble_eq_true rfl) ?_
  refine x_putF (zdm d_Md_init_9 52 rfl) f_Md_145 rfl ⟨_, _, rfl⟩ rfl ⟨rfl, trivial⟩ rfl ?_
  refine x_aload_n (zdm d_Md_init_9 53 rfl) rfl (n := 0) rfl ?_
  refine x_bipush (zdm d_Md_init_9 54 rfl) (by decide) ?_
  refine x_newaI (c := 169) (zdm d_Md_init_9 55 rfl) wa_int (zwo (by decide) zvs2) (c' := 170) (by decide) rfl (by decide) (Nat.le_of_ble_eq_true rfl) (Nat.le_of_ble_eq_true rfl) ?_
  refine x_putF (zdm d_Md_init_9 56 rfl) f_Md_149 rfl ⟨_, _, rfl⟩ rfl ⟨rfl, trivial⟩ rfl ?_
  refine x_aload_n (zdm d_Md_init_9 57 rfl) rfl (n := 0) rfl ?_
  refine x_sipush (zdm d_Md_init_9 58 rfl) (by decide) ?_
  refine x_newaI (c := 170) (zdm d_Md_init_9 59 rfl) wa_int (zwo (by decide) zvs2) (c' := 171) (by decide) rfl (by decide) (Nat.le_of_ble_eq_true rfl) (Nat.le_of_ble_eq_true rfl) ?_
  refine x_putF (zdm d_Md_init_10 0 rfl) f_Md_152 rfl ⟨_, _, rfl⟩ rfl ⟨rfl, trivial⟩ rfl ?_
  refine x_aload_n (zdm d_Md_init_10 1 rfl) rfl (n := 0) rfl ?_
  refine x_sipush (zdm d_Md_init_10 2 rfl) (by decide) ?_
  refine x_newaI (c := 171) (zdm d_Md_init_10 3 rfl) wa_int (zwo (by decide) zvs2) (c' := 172) (by decide) rfl (by decide) (Nat.le_of_ble_eq_true rfl) (Nat.le_of_ble_eq_true rfl) ?_
  refine x_putF (zdm d_Md_init_10 4 rfl) f_Md_155 rfl ⟨_, _, rfl⟩ rfl ⟨rfl, trivial⟩ rfl ?_
  refine x_aload_n (zdm d_Md_init_10 5 rfl) rfl (n := 0) rfl ?_
  refine x_lconst (zdm d_Md_init_10 6 rfl) (x := 1) rfl ?_
  refine x_putf (zdm d_Md_init_10 7 rfl) f_Md_158 rfl ⟨rfl, trivial⟩ (Or.inr rfl) ?_
  refine x_aload_n (zdm d_Md_init_10 8 rfl) rfl (n := 0) rfl ?_
  refine x_iconst (zdm d_Md_init_10 9 rfl) (zIl rfl) ?_
  refine x_newaC (c := 172) (zdm d_Md_init_10 10 rfl) wa_char (zwo (by decide) (zwo (by decide) zvs2)) (c' := 173) (by decide) rfl (by decide) (Nat.le_of_ble_eq_true rfl) (Nat.le_of_ble_eq_true rfl) ?_
  refine x_dup (zdm d_Md_init_10 11 rfl) z2n1 ?_
  refine x_iconst (zdm d_Md_init_10 12 rfl) (zIl rfl) ?_
  refine x_bipush (zdm d_Md_init_10 13 rfl) (by decide) ?_
  refine x_cast (zdm d_Md_init_10 14 rfl) rfl (by decide) (by decide) rfl ?_
  refine x_dup (zdm d_Md_init_10 15 rfl) z2n1 ?_
  refine x_iconst (zdm d_Md_init_10 16 rfl) (zIl rfl) ?_
  refine x_bipush (zdm d_Md_init_10 17 rfl) (by decide) ?_
  refine x_cast (zdm d_Md_init_10 18 rfl) rfl (by decide) (by decide) rfl ?_
  refine x_dup (zdm d_Md_init_10 19 rfl) z2n1 ?_
  refine x_iconst (zdm d_Md_init_10 20 rfl) (zIl rfl) ?_
  refine x_bipush (zdm d_Md_init_10 21 rfl) (by decide) ?_
  refine x_cast (zdm d_Md_init_10 22 rfl) rfl (by decide) (by decide) rfl ?_
  refine x_dup (zdm d_Md_init_10 23 rfl) z2n1 ?_
  refine x_iconst (zdm d_Md_init_10 24 rfl) (zIl rfl) ?_
  refine x_bipush (zdm d_Md_init_10 25 rfl) (by decide) ?_
  refine x_cast (zdm d_Md_init_10 26 rfl) rfl (by decide) (by decide) rfl ?_
  refine x_dup (zdm d_Md_init_10 27 rfl) z2n1 ?_
  refine x_iconst (zdm d_Md_init_10 28 rfl) (zIl rfl) ?_
  refine x_bipush (zdm d_Md_init_10 29 rfl) (by decide) ?_
  refine x_cast (zdm d_Md_init_10 30 rfl) rfl (by decide) (by decide) rfl ?_
  refine x_putF (zdm d_Md_init_10 31 rfl) f_Md_162 rfl ⟨_, _, rfl⟩ rfl ⟨rfl, trivial⟩ rfl ?_
  refine x_aload_n (zdm d_Md_init_10 32 rfl) rfl (n := 0) rfl ?_
  refine x_iconst (zdm d_Md_init_10 33 rfl) (zIl rfl) ?_
  refine x_newaC (c := 173) (zdm d_Md_init_10 34 rfl) wa_char (zwo (by decide) (zwo (by decide) (zwo (by decide) (zwo (by decide) (zwo (by decide) (zwo (by decide) zvs2)))))) (c' := 174) (by decide) rfl (by decide) (Nat.le_of_ble_eq_true rfl) (Nat.le_of_ble_eq_true rfl) ?_
  refine x_dup (zdm d_Md_init_10 35 rfl) z2n1 ?_
  refine x_iconst (zdm d_Md_init_10 36 rfl) (zIl rfl) ?_
  refine x_bipush (zdm d_Md_init_10 37 rfl) (by decide) ?_
  refine x_cast (zdm d_Md_init_10 38 rfl) rfl (by decide) (by decide) rfl ?_
  refine x_dup (zdm d_Md_init_10 39 rfl) z2n1 ?_
  refine x_iconst (zdm d_Md_init_10 40 rfl) (zIl rfl) ?_
  refine x_bipush (zdm d_Md_init_10 41 rfl) (by decide) ?_
  refine x_cast (zdm d_Md_init_10 42 rfl) rfl (by decide) (by decide) rfl ?_
  refine x_dup (zdm d_Md_init_10 43 rfl) z2n1 ?_
  refine x_iconst (zdm d_Md_init_10 44 rfl) (zIl rfl) ?_
  refine x_bipush (zdm d_Md_init_10 45 rfl) (by decide) ?_
  refine x_cast (zdm d_Md_init_10 46 rfl) rfl (by decide) (by decide) rfl ?_
  refine x_dup (zdm d_Md_init_10 47 rfl) z2n1 ?_
  refine x_iconst (zdm d_Md_init_10 48 rfl) (zIl rfl) ?_
  refine x_bipush (zdm d_Md_init_10 49 rfl) (by decide) ?_
  refine x_cast (zdm d_Md_init_10 50 rfl) rfl (by decide) (by decide) rfl ?_
  refine x_putF (zdm d_Md_init_10 51 rfl) f_Md_165 rfl ⟨_, _, rfl⟩ rfl ⟨rfl, trivial⟩ rfl ?_
  refine x_aload_n (zdm d_Md_init_10 52 rfl) rfl (n := 0) rfl ?_
  refine x_iconst (zdm d_Md_init_10 53 rfl) (zIl rfl) ?_
  refine x_newaC (c := 174) (zdm d_Md_init_10 54 rfl) wa_char (zwo (by decide) (zwo (by decide) (zwo (by decide) (zwo (by decide) (zwo (by decide) zvs2))))) (c' := 175) (by decide) rfl (by decide) (Nat.le_of_ble_eq_true rfl) (Nat.le_of_ble_eq_true rfl) ?_
  refine x_dup (zdm d_Md_init_10 55 rfl) z2n1 ?_
  refine x_iconst (zdm d_Md_init_10 56 rfl) (zIl rfl) ?_
  refine x_bipush (zdm d_Md_init_10 57 rfl) (by decide) ?_
  refine x_cast (zdm d_Md_init_10 58 rfl) rfl (by decide) (by decide) rfl ?_
  refine x_dup (zdm d_Md_init_10 59 rfl) z2n1 ?_
  refine x_iconst (zdm d_Md_init_11 0 rfl) (zIl rfl) ?_
  refine x_bipush (zdm d_Md_init_11 1 rfl) (by decide) ?_
  refine x_cast (zdm d_Md_init_11 2 rfl) rfl (by decide) (by decide) rfl ?_
  refine x_dup (zdm d_Md_init_11 3 rfl) z2n1 ?_
  refine x_iconst (zdm d_Md_init_11 4 rfl) (zIl rfl) ?_
  refine x_bipush (zdm d_Md_init_11 5 rfl) (by decide) ?_
  refine x_cast (zdm d_Md_init_11 6 rfl) rfl (by decide) (by decide) rfl ?_
  refine x_dup (zdm d_Md_init_11 7 rfl) z2n1 ?_
  refine x_iconst (zdm d_Md_init_11 8 rfl) (zIl rfl) ?_
  refine x_bipush (zdm d_Md_init_11 9 rfl) (by decide) ?_
  refine x_cast (zdm d_Md_init_11 10 rfl) rfl (by decide) (by decide) rfl ?_
  refine x_dup (zdm d_Md_init_11 11 rfl) z2n1 ?_
  refine x_iconst (zdm d_Md_init_11 12 rfl) (zIl rfl) ?_
  refine x_bipush (zdm d_Md_init_11 13 rfl) (by decide) ?_
  refine x_cast (zdm d_Md_init_11 14 rfl) rfl (by decide) (by decide) rfl ?_
  refine x_putF (zdm d_Md_init_11 15 rfl) f_Md_168 rfl ⟨_, _, rfl⟩ rfl ⟨rfl, trivial⟩ rfl ?_
  refine x_aload_n (zdm d_Md_init_11 16 rfl) rfl (n := 0) rfl ?_
  refine x_iconst (zdm d_Md_init_11 17 rfl) (zIl rfl) ?_
  refine x_newaC (c := 175) (zdm d_Md_init_11 18 rfl) wa_char (zwo (by decide) (zwo (by decide) (zwo (by decide) (zwo (by decide) (zwo (by decide) (zwo (by decide) zvs2)))))) (c' := 176) (by decide) rfl (by decide) (Nat.le_of_ble_eq_true rfl) (Nat.le_of_ble_eq_true rfl) ?_
  refine x_dup (zdm d_Md_init_11 19 rfl) z2n1 ?_
  refine x_iconst (zdm d_Md_init_11 20 rfl) (zIl rfl) ?_
  refine x_bipush (zdm d_Md_init_11 21 rfl) (by decide) ?_
  refine x_cast (zdm d_Md_init_11 22 rfl) rfl (by decide) (by decide) rfl ?_
  refine x_dup (zdm d_Md_init_11 23 rfl) z2n1 ?_
  refine x_iconst (zdm d_Md_init_11 24 rfl) (zIl rfl) ?_
  refine x_bipush (zdm d_Md_init_11 25 rfl) (by decide) ?_
  refine x_cast (zdm d_Md_init_11 26 rfl) rfl (by decide) (by decide) rfl ?_
  refine x_dup (zdm d_Md_init_11 27 rfl) z2n1 ?_
  refine x_iconst (zdm d_Md_init_11 28 rfl) (zIl rfl) ?_
  refine x_bipush (zdm d_Md_init_11 29 rfl) (by decide) ?_
  refine x_cast (zdm d_Md_init_11 30 rfl) rfl (by decide) (by decide) rfl ?_
  refine x_dup (zdm d_Md_init_11 31 rfl) z2n1 ?_
  refine x_iconst (zdm d_Md_init_11 32 rfl) (zIl rfl) ?_
  refine x_bipush (zdm d_Md_init_11 33 rfl) (by decide) ?_
  refine x_cast (zdm d_Md_init_11 34 rfl) rfl (by decide) (by decide) rfl ?_
  refine x_dup (zdm d_Md_init_11 35 rfl) z2n1 ?_
  refine x_iconst (zdm d_Md_init_11 36 rfl) (zIl rfl) ?_
  refine x_bipush (zdm d_Md_init_11 37 rfl) (by decide) ?_
  refine x_cast (zdm d_Md_init_11 38 rfl) rfl (by decide) (by decide) rfl ?_
  refine x_putF (zdm d_Md_init_11 39 rfl) f_Md_171 rfl ⟨_, _, rfl⟩ rfl ⟨rfl, trivial⟩ rfl ?_
  refine x_aload_n (zdm d_Md_init_11 40 rfl) rfl (n := 0) rfl ?_
  refine x_iconst (zdm d_Md_init_11 41 rfl) (zIl rfl) ?_
  refine x_newaC (c := 176) (zdm d_Md_init_11 42 rfl) wa_char (zwo (by decide) (zwo (by decide) (zwo (by decide) (zwo (by decide) (zwo (by decide) (zwo (by decide) zvs2)))))) (c' := 177) (by decide) rfl (by decide) (Nat.le_of_ble_eq_true rfl) (Nat.le_of_ble_eq_true rfl) ?_
  refine x_dup (zdm d_Md_init_11 43 rfl) z2n1 ?_
  refine x_iconst (zdm d_Md_init_11 44 rfl) (zIl rfl) ?_
  refine x_bipush (zdm d_Md_init_11 45 rfl) (by decide) ?_
  refine x_cast (zdm d_Md_init_11 46 rfl) rfl (by decide) (by decide) rfl ?_
  refine x_dup (zdm d_Md_init_11 47 rfl) z2n1 ?_
  refine x_iconst (zdm d_Md_init_11 48 rfl) (zIl rfl) ?_
  refine x_bipush (zdm d_Md_init_11 49 rfl) (by decide) ?_
  refine x_cast (zdm d_Md_init_11 50 rfl) rfl (by decide) (by decide) rfl ?_
  refine x_dup (zdm d_Md_init_11 51 rfl) z2n1 ?_
  refine x_iconst (zdm d_Md_init_11 52 rfl) (zIl rfl) ?_
  refine x_bipush (zdm d_Md_init_11 53 rfl) (by decide) ?_
  refine x_cast (zdm d_Md_init_11 54 rfl) rfl (by decide) (by decide) rfl ?_
  refine x_dup (zdm d_Md_init_11 55 rfl) z2n1 ?_
  refine x_iconst (zdm d_Md_init_11 56 rfl) (zIl rfl) ?_
  refine x_bipush (zdm d_Md_init_11 57 rfl) (by decide) ?_
  refine x_cast (zdm d_Md_init_11 58 rfl) rfl (by decide) (by decide) rfl ?_
  refine x_putF (zdm d_Md_init_11 59 rfl) f_Md_174 rfl ⟨_, _, rfl⟩ rfl ⟨rfl, trivial⟩ rfl ?_
  refine x_aload_n (zdm d_Md_init_12 0 rfl) rfl (n := 0) rfl ?_
  refine x_iconst (zdm d_Md_init_12 1 rfl) (zIl rfl) ?_
  refine x_newaC (c := 177) (zdm d_Md_init_12 2 rfl) wa_char (zwo (by decide) (zwo (by decide) (zwo (by decide) (zwo (by decide) (zwo (by decide) zvs2))))) (c' := 178) (by decide) rfl (by decide) (Nat.le_of_ble_eq_true rfl) (Nat.le_of_ble_eq_true rfl) ?_
  refine x_dup (zdm d_Md_init_12 3 rfl) z2n1 ?_
  refine x_iconst (zdm d_Md_init_12 4 rfl) (zIl rfl) ?_
  refine x_bipush (zdm d_Md_init_12 5 rfl) (by decide) ?_
  refine x_cast (zdm d_Md_init_12 6 rfl) rfl (by decide) (by decide) rfl ?_
  refine x_dup (zdm d_Md_init_12 7 rfl) z2n1 ?_
  refine x_iconst (zdm d_Md_init_12 8 rfl) (zIl rfl) ?_
  refine x_bipush (zdm d_Md_init_12 9 rfl) (by decide) ?_
  refine x_cast (zdm d_Md_init_12 10 rfl) rfl (by decide) (by decide) rfl ?_
  refine x_dup (zdm d_Md_init_12 11 rfl) z2n1 ?_
  refine x_iconst (zdm d_Md_init_12 12 rfl) (zIl rfl) ?_
  refine x_bipush (zdm d_Md_init_12 13 rfl) (by decide) ?_
  refine x_cast (zdm d_Md_init_12 14 rfl) rfl (by decide) (by decide) rfl ?_
  refine x_dup (zdm d_Md_init_12 15 rfl) z2n1 ?_
  refine x_iconst (zdm d_Md_init_12 16 rfl) (zIl rfl) ?_
  refine x_bipush (zdm d_Md_init_12 17 rfl) (by decide) ?_
  refine x_cast (zdm d_Md_init_12 18 rfl) rfl (by decide) (by decide) rfl ?_
  refine x_dup (zdm d_Md_init_12 19 rfl) z2n1 ?_
  refine x_iconst (zdm d_Md_init_12 20 rfl) (zIl rfl) ?_
  refine x_bipush (zdm d_Md_init_12 21 rfl) (by decide) ?_
  refine x_cast (zdm d_Md_init_12 22 rfl) rfl (by decide) (by decide) rfl ?_
  refine x_putF (zdm d_Md_init_12 23 rfl) f_Md_177 rfl ⟨_, _, rfl⟩ rfl ⟨rfl, trivial⟩ rfl ?_
  refine x_aload_n (zdm d_Md_init_12 24 rfl) rfl (n := 0) rfl ?_
  refine x_iconst (zdm d_Md_init_12 25 rfl) (zIl rfl) ?_
  refine x_newaC (c := 178) (zdm d_Md_init_12 26 rfl) wa_char (zwo (by decide) (zwo (by decide) (zwo (by decide) (zwo (by decide) (zwo (by decide) (zwo (by decide) zvs2)))))) (c' := 179) (by decide) rfl (by decide) (Nat.le_of_ble_eq_true rfl) (Nat.le_of_ble_eq_true rfl) ?_
  refine x_dup (zdm d_Md_init_12 27 rfl) z2n1 ?_
  refine x_iconst (zdm d_Md_init_12 28 rfl) (zIl rfl) ?_
  refine x_bipush (zdm d_Md_init_12 29 rfl) (by decide) ?_
  refine x_cast (zdm d_Md_init_12 30 rfl) rfl (by decide) (by decide) rfl ?_
  refine x_dup (zdm d_Md_init_12 31 rfl) z2n1 ?_
  refine x_iconst (zdm d_Md_init_12 32 rfl) (zIl rfl) ?_
  refine x_bipush (zdm d_Md_init_12 33 rfl) (by decide) ?_
  refine x_cast (zdm d_Md_init_12 34 rfl) rfl (by decide) (by decide) rfl ?_
  refine x_dup (zdm d_Md_init_12 35 rfl) z2n1 ?_
  refine x_iconst (zdm d_Md_init_12 36 rfl) (zIl rfl) ?_
  refine x_bipush (zdm d_Md_init_12 37 rfl) (by decide) ?_
  refine x_cast (zdm d_Md_init_12 38 rfl) rfl (by decide) (by decide) rfl ?_
  refine x_putF (zdm d_Md_init_12 39 rfl) f_Md_180 rfl ⟨_, _, rfl⟩ rfl ⟨rfl, trivial⟩ rfl ?_
  refine x_aload_n (zdm d_Md_init_12 40 rfl) rfl (n := 0) rfl ?_
  refine x_iconst (zdm d_Md_init_12 41 rfl) (zIl rfl) ?_
  refine x_newaC (c := 179) (zdm d_Md_init_12 42 rfl) wa_char (zwo (by decide) (zwo (by decide) (zwo (by decide) (zwo (by decide) zvs2)))) (c' := 180) (by decide) rfl (by decide) (Nat.le_of_ble_eq_true rfl) (Nat.le_of_ble_eq_true rfl) ?_
  refine x_dup (zdm d_Md_init_12 43 rfl) z2n1 ?_
  refine x_iconst (zdm d_Md_init_12 44 rfl) (zIl rfl) ?_
  refine x_bipush (zdm d_Md_init_12 45 rfl) (by decide) ?_
  refine x_cast (zdm d_Md_init_12 46 rfl) rfl (by decide) (by decide) rfl ?_
  refine x_dup (zdm d_Md_init_12 47 rfl) z2n1 ?_
  refine x_iconst (zdm d_Md_init_12 48 rfl) (zIl rfl) ?_
  refine x_bipush (zdm d_Md_init_12 49 rfl) (by decide) ?_
  refine x_cast (zdm d_Md_init_12 50 rfl) rfl (by decide) (by decide) rfl ?_
  refine x_dup (zdm d_Md_init_12 51 rfl) z2n1 ?_
  refine x_iconst (zdm d_Md_init_12 52 rfl) (zIl rfl) ?_
  refine x_bipush (zdm d_Md_init_12 53 rfl) (by decide) ?_
  refine x_cast (zdm d_Md_init_12 54 rfl) rfl (by decide) (by decide) rfl ?_
  refine x_putF (zdm d_Md_init_12 55 rfl) f_Md_183 rfl ⟨_, _, rfl⟩ rfl ⟨rfl, trivial⟩ rfl ?_
  refine x_aload_n (zdm d_Md_init_12 56 rfl) rfl (n := 0) rfl ?_
  refine x_iconst (zdm d_Md_init_12 57 rfl) (zIl rfl) ?_
  refine x_newaC (c := 180) (zdm d_Md_init_12 58 rfl) wa_char (zwo (by decide) (zwo (by decide) (zwo (by decide) (zwo (by decide) zvs2)))) (c' := 181) (by decide) rfl (by decide) (Nat.le_of_ble_eq_true rfl) (Nat.le_of_ble_eq_true rfl) ?_
  refine x_dup (zdm d_Md_init_12 59 rfl) z2n1 ?_
  refine x_iconst (zdm d_Md_init_13 0 rfl) (zIl rfl) ?_
  refine x_bipush (zdm d_Md_init_13 1 rfl) (by decide) ?_
  refine x_cast (zdm d_Md_init_13 2 rfl) rfl (by decide) (by decide) rfl ?_
  refine x_dup (zdm d_Md_init_13 3 rfl) z2n1 ?_
  refine x_iconst (zdm d_Md_init_13 4 rfl) (zIl rfl) ?_
  refine x_bipush (zdm d_Md_init_13 5 rfl) (by decide) ?_
  refine x_cast (zdm d_Md_init_13 6 rfl) rfl (by decide) (by decide) rfl ?_
  refine x_putF (zdm d_Md_init_13 7 rfl) f_Md_186 rfl ⟨_, _, rfl⟩ rfl ⟨rfl, trivial⟩ rfl ?_
  refine x_aload_n (zdm d_Md_init_13 8 rfl) rfl (n := 0) rfl ?_
  refine x_iconst (zdm d_Md_init_13 9 rfl) (zIl rfl) ?_
  refine x_newaC (c := 181) (zdm d_Md_init_13 10 rfl) wa_char (zwo (by decide) (zwo (by decide) (zwo (by decide) zvs2))) (c' := 182) (by decide) rfl (by decide) (Nat.le_of_ble_eq_true rfl) (Nat.le_of_ble_eq_true rfl) ?_
  refine x_dup (zdm d_Md_init_13 11 rfl) z2n1 ?_
  refine x_iconst (zdm d_Md_init_13 12 rfl) (zIl rfl) ?_
  refine x_bipush (zdm d_Md_init_13 13 rfl) (by decide) ?_
  refine x_cast (zdm d_Md_init_13 14 rfl) rfl (by decide) (by decide) rfl ?_
  refine x_dup (zdm d_Md_init_13 15 rfl) z2n1 ?_
  refine x_iconst (zdm d_Md_init_13 16 rfl) (zIl rfl) ?_
  refine x_bipush (zdm d_Md_init_13 17 rfl) (by decide) ?_
  refine x_cast (zdm d_Md_init_13 18 rfl) rfl (by decide) (by decide) rfl ?_
  refine x_dup (zdm d_Md_init_13 19 rfl) z2n1 ?_
  refine x_iconst (zdm d_Md_init_13 20 rfl) (zIl rfl) ?_
  refine x_bipush (zdm d_Md_init_13 21 rfl) (by decide) ?_
  refine x_cast (zdm d_Md_init_13 22 rfl) rfl (by decide) (by decide) rfl ?_
  refine x_putF (zdm d_Md_init_13 23 rfl) f_Md_189 rfl ⟨_, _, rfl⟩ rfl ⟨rfl, trivial⟩ rfl ?_
  refine x_aload_n (zdm d_Md_init_13 24 rfl) rfl (n := 0) rfl ?_
  refine x_iconst (zdm d_Md_init_13 25 rfl) (zIl rfl) ?_
  refine x_newaC (c := 182) (zdm d_Md_init_13 26 rfl) wa_char (zwo (by decide) (zwo (by decide) (zwo (by decide) (zwo (by decide) zvs2)))) (c' := 183) (by decide) rfl (by decide) (Nat.le_of_ble_eq_true rfl) (Nat.le_of_ble_eq_true rfl) ?_
  refine x_dup (zdm d_Md_init_13 27 rfl) z2n1 ?_
  refine x_iconst (zdm d_Md_init_13 28 rfl) (zIl rfl) ?_
  refine x_bipush (zdm d_Md_init_13 29 rfl) (by decide) ?_
  refine x_cast (zdm d_Md_init_13 30 rfl) rfl (by decide) (by decide) rfl ?_
  refine x_dup (zdm d_Md_init_13 31 rfl) z2n1 ?_
  refine x_iconst (zdm d_Md_init_13 32 rfl) (zIl rfl) ?_
  refine x_bipush (zdm d_Md_init_13 33 rfl) (by decide) ?_
  refine x_cast (zdm d_Md_init_13 34 rfl) rfl (by decide) (by decide) rfl ?_
  refine x_dup (zdm d_Md_init_13 35 rfl) z2n1 ?_
  refine x_iconst (zdm d_Md_init_13 36 rfl) (zIl rfl) ?_
  refine x_bipush (zdm d_Md_init_13 37 rfl) (by decide) ?_
  refine x_cast (zdm d_Md_init_13 38 rfl) rfl (by decide) (by decide) rfl ?_
  refine x_putF (zdm d_Md_init_13 39 rfl) f_Md_192 rfl ⟨_, _, rfl⟩ rfl ⟨rfl, trivial⟩ rfl ?_
  refine x_aload_n (zdm d_Md_init_13 40 rfl) rfl (n := 0) rfl ?_
  refine x_iconst (zdm d_Md_init_13 41 rfl) (zIl rfl) ?_
  refine x_newaC (c := 183) (zdm d_Md_init_13 42 rfl) wa_char (zwo (by decide) (zwo (by decide) (zwo (by decide) (zwo (by decide) zvs2)))) (c' := 184) (by decide) rfl (by decide) (Nat.le_of_ble_eq_true rfl) (Nat.le_of_ble_eq_true rfl) ?_
  refine x_dup (zdm d_Md_init_13 43 rfl) z2n1 ?_
  refine x_iconst (zdm d_Md_init_13 44 rfl) (zIl rfl) ?_
  refine x_bipush (zdm d_Md_init_13 45 rfl) (by decide) ?_
  refine x_cast (zdm d_Md_init_13 46 rfl) rfl (by decide) (by decide) rfl ?_
  refine x_dup (zdm d_Md_init_13 47 rfl) z2n1 ?_
  refine x_iconst (zdm d_Md_init_13 48 rfl) (zIl rfl) ?_
  refine x_bipush (zdm d_Md_init_13 49 rfl) (by decide) ?_
  refine x_cast (zdm d_Md_init_13 50 rfl) rfl (by decide) (by decide) rfl ?_
  refine x_dup (zdm d_Md_init_13 51 rfl) z2n1 ?_
  refine x_iconst (zdm d_Md_init_13 52 rfl) (zIl rfl) ?_
  refine x_bipush (zdm d_Md_init_13 53 rfl) (by decide) ?_
  refine x_cast (zdm d_Md_init_13 54 rfl) rfl (by decide) (by decide) rfl ?_
  refine x_putF (zdm d_Md_init_13 55 rfl) f_Md_195 rfl ⟨_, _, rfl⟩ rfl ⟨rfl, trivial⟩ rfl ?_
  refine x_aload_n (zdm d_Md_init_13 56 rfl) rfl (n := 0) rfl ?_
  refine x_iconst (zdm d_Md_init_13 57 rfl) (zIl rfl) ?_
  refine x_newaC (c := 184) (zdm d_Md_init_13 58 rfl) wa_char (zwo (by decide) (zwo (by decide) (zwo (by decide) (zwo (by decide) zvs2)))) (c' := 185) (by decide) rfl (by decide) (Nat.le_of_ble_eq_true rfl) (Nat.le_of_ble_eq_true rfl) ?_
  refine x_dup (zdm d_Md_init_13 59 rfl) z2n1 ?_
  refine x_iconst (zdm d_Md_init_14 0 rfl) (zIl rfl) ?_
  refine x_bipush (zdm d_Md_init_14 1 rfl) (by decide) ?_
  refine x_cast (zdm d_Md_init_14 2 rfl) rfl (by decide) (by decide) rfl ?_
  refine x_dup (zdm d_Md_init_14 3 rfl) z2n1 ?_
  refine x_iconst (zdm d_Md_init_14 4 rfl) (zIl rfl) ?_
  refine x_bipush (zdm d_Md_init_14 5 rfl) (by decide) ?_
  refine x_cast (zdm d_Md_init_14 6 rfl) rfl (by decide) (by decide) rfl ?_
  refine x_dup (zdm d_Md_init_14 7 rfl) z2n1 ?_
  refine x_iconst (zdm d_Md_init_14 8 rfl) (zIl rfl) ?_
  refine x_bipush (zdm d_Md_init_14 9 rfl) (by decide) ?_
  refine x_cast (zdm d_Md_init_14 10 rfl) rfl (by decide) (by decide) rfl ?_
  refine x_dup (zdm d_Md_init_14 11 rfl) z2n1 ?_
  refine x_iconst (zdm d_Md_init_14 12 rfl) (zIl rfl) ?_
  refine x_bipush (zdm d_Md_init_14 13 rfl) (by decide) ?_
  refine x_cast (zdm d_Md_init_14 14 rfl) rfl (by decide) (by decide) rfl ?_
  refine x_putF (zdm d_Md_init_14 15 rfl) f_Md_198 rfl ⟨_, _, rfl⟩ rfl ⟨rfl, trivial⟩ rfl ?_
  refine x_aload_n (zdm d_Md_init_14 16 rfl) rfl (n := 0) rfl ?_
  refine x_iconst (zdm d_Md_init_14 17 rfl) (zIl rfl) ?_
  refine x_newaC (c := 185) (zdm d_Md_init_14 18 rfl) wa_char (zwo (by decide) (zwo (by decide) (zwo (by decide) (zwo (by decide) (zwo (by decide) zvs2))))) (c' := 186) (by decide) rfl (by decide) (Nat.le_of_ble_eq_true rfl) (Nat.le_of_ble_eq_true rfl) ?_
  refine x_dup (zdm d_Md_init_14 19 rfl) z2n1 ?_
  refine x_iconst (zdm d_Md_init_14 20 rfl) (zIl rfl) ?_
  refine x_bipush (zdm d_Md_init_14 21 rfl) (by decide) ?_
  refine x_cast (zdm d_Md_init_14 22 rfl) rfl (by decide) (by decide) rfl ?_
  refine x_dup (zdm d_Md_init_14 23 rfl) z2n1 ?_
  refine x_iconst (zdm d_Md_init_14 24 rfl) (zIl rfl) ?_
  refine x_bipush (zdm d_Md_init_14 25 rfl) (by decide) ?_
  refine x_cast (zdm d_Md_init_14 26 rfl) rfl (by decide) (by decide) rfl ?_
  refine x_dup (zdm d_Md_init_14 27 rfl) z2n1 ?_
  refine x_iconst (zdm d_Md_init_14 28 rfl) (zIl rfl) ?_
  refine x_bipush (zdm d_Md_init_14 29 rfl) (by decide) ?_
  refine x_cast (zdm d_Md_init_14 30 rfl) rfl (by decide) (by decide) rfl ?_
  refine x_dup (zdm d_Md_init_14 31 rfl) z2n1 ?_
  refine x_iconst (zdm d_Md_init_14 32 rfl) (zIl rfl) ?_
  refine x_bipush (zdm d_Md_init_14 33 rfl) (by decide) ?_
  refine x_cast (zdm d_Md_init_14 34 rfl) rfl (by decide) (by decide) rfl ?_
  refine x_putF (zdm d_Md_init_14 35 rfl) f_Md_201 rfl ⟨_, _, rfl⟩ rfl ⟨rfl, trivial⟩ rfl ?_
  refine x_aload_n (zdm d_Md_init_14 36 rfl) rfl (n := 0) rfl ?_
  refine x_bipush (zdm d_Md_init_14 37 rfl) (by decide) ?_
  refine x_newaC (c := 186) (zdm d_Md_init_14 38 rfl) wa_char (zwo (by decide) (zwo (by decide) (zwo (by decide) (zwo (by decide) (zwo (by decide) zvs2))))) (c' := 187) (by decide) rfl (by decide) (Nat.le_of_ble_eq_true rfl) (Nat.le_of_ble_eq_true rfl) ?_
  refine x_dup (zdm d_Md_init_14 39 rfl) z2n1 ?_
  refine x_iconst (zdm d_Md_init_14 40 rfl) (zIl rfl) ?_
  refine x_bipush (zdm d_Md_init_14 41 rfl) (by decide) ?_
  refine x_cast (zdm d_Md_init_14 42 rfl) rfl (by decide) (by decide) rfl ?_
  refine x_dup (zdm d_Md_init_14 43 rfl) z2n1 ?_
  refine x_iconst (zdm d_Md_init_14 44 rfl) (zIl rfl) ?_
  refine x_bipush (zdm d_Md_init_14 45 rfl) (by decide) ?_
  refine x_cast (zdm d_Md_init_14 46 rfl) rfl (by decide) (by decide) rfl ?_
  refine x_dup (zdm d_Md_init_14 47 rfl) z2n1 ?_
  refine x_iconst (zdm d_Md_init_14 48 rfl) (zIl rfl) ?_
  refine x_bipush (zdm d_Md_init_14 49 rfl) (by decide) ?_
  refine x_cast (zdm d_Md_init_14 50 rfl) rfl (by decide) (by decide) rfl ?_
  refine x_dup (zdm d_Md_init_14 51 rfl) z2n1 ?_
  refine x_iconst (zdm d_Md_init_14 52 rfl) (zIl rfl) ?_
  refine x_bipush (zdm d_Md_init_14 53 rfl) (by decide) ?_
  refine x_cast (zdm d_Md_init_14 54 rfl) rfl (by decide) (by decide) rfl ?_
  refine x_dup (zdm d_Md_init_14 55 rfl) z2n1 ?_
  refine x_iconst (zdm d_Md_init_14 56 rfl) (zIl rfl) ?_
  refine x_bipush (zdm d_Md_init_14 57 rfl) (by decide) ?_
  refine x_cast (zdm d_Md_init_14 58 rfl) rfl (by decide) (by decide) rfl ?_
  refine x_dup (zdm d_Md_init_14 59 rfl) z2n1 ?_
  refine x_iconst (zdm d_Md_init_15 0 rfl) (zIl rfl) ?_
  refine x_bipush (zdm d_Md_init_15 1 rfl) (by decide) ?_
  refine x_cast (zdm d_Md_init_15 2 rfl) rfl (by decide) (by decide) rfl ?_
  refine x_putF (zdm d_Md_init_15 3 rfl) f_Md_204 rfl ⟨_, _, rfl⟩ rfl ⟨rfl, trivial⟩ rfl ?_
  refine x_aload_n (zdm d_Md_init_15 4 rfl) rfl (n := 0) rfl ?_
  refine x_iconst (zdm d_Md_init_15 5 rfl) (zIl rfl) ?_
  refine x_newaC (c := 187) (zdm d_Md_init_15 6 rfl) wa_char (zwo (by decide) (zwo (by decide) (zwo (by decide) (zwo (by decide) (zwo (by decide) (zwo (by decide) (zwo (by decide) zvs2))))))) (c' := 188) (by decide) rfl (by decide) (Nat.le_of_ble_eq_true rfl) (Nat.le_of_ble_eq_true rfl) ?_
  refine x_dup (zdm d_Md_init_15 7 rfl) z2n1 ?_
  refine x_iconst (zdm d_Md_init_15 8 rfl) (zIl rfl) ?_
  refine x_bipush (zdm d_Md_init_15 9 rfl) (by decide) ?_
  refine x_cast (zdm d_Md_init_15 10 rfl) rfl (by decide) (by decide) rfl ?_
  refine x_dup (zdm d_Md_init_15 11 rfl) z2n1 ?_
  refine x_iconst (zdm d_Md_init_15 12 rfl) (zIl rfl) ?_
  refine x_bipush (zdm d_Md_init_15 13 rfl) (by decide) ?_
  refine x_cast (zdm d_Md_init_15 14 rfl) rfl (by decide) (by decide) rfl ?_
  refine x_dup (zdm d_Md_init_15 15 rfl) z2n1 ?_
  refine x_iconst (zdm d_Md_init_15 16 rfl) (zIl rfl) ?_
  refine x_bipush (zdm d_Md_init_15 17 rfl) (by decide) ?_
  refine x_cast (zdm d_Md_init_15 18 rfl) rfl (by decide) (by decide) rfl ?_
  refine x_dup (zdm d_Md_init_15 19 rfl) z2n1 ?_
  refine x_iconst (zdm d_Md_init_15 20 rfl) (zIl rfl) ?_
  refine x_bipush (zdm d_Md_init_15 21 rfl) (by decide) ?_
  refine x_cast (zdm d_Md_init_15 22 rfl) rfl (by decide) (by decide) rfl ?_
  refine x_putF (zdm d_Md_init_15 23 rfl) f_Md_207 rfl ⟨_, _, rfl⟩ rfl ⟨rfl, trivial⟩ rfl ?_
  refine x_aload_n (zdm d_Md_init_15 24 rfl) rfl (n := 0) rfl ?_
  refine x_iconst (zdm d_Md_init_15 25 rfl) (zIl rfl) ?_
  refine x_newaC (c := 188) (zdm d_Md_init_15 26 rfl) wa_char (zwo (by decide) (zwo (by decide) (zwo (by decide) (zwo (by decide) (zwo (by decide) zvs2))))) (c' := 189) (by decide) rfl (by decide) (Nat.le_of_ble_eq_true rfl) (Nat.le_of_ble_eq_true rfl) ?_
  refine x_dup (zdm d_Md_init_15 27 rfl) z2n1 ?_
  refine x_iconst (zdm d_Md_init_15 28 rfl) (zIl rfl) ?_
  refine x_bipush (zdm d_Md_init_15 29 rfl) (by decide) ?_
  refine x_cast (zdm d_Md_init_15 30 rfl) rfl (by decide) (by decide) rfl ?_
  refine x_dup (zdm d_Md_init_15 31 rfl) z2n1 ?_
  refine x_iconst (zdm d_Md_init_15 32 rfl) (zIl rfl) ?_
  refine x_bipush (zdm d_Md_init_15 33 rfl) (by decide) ?_
  refine x_cast (zdm d_Md_init_15 34 rfl) rfl (by decide) (by decide) rfl ?_
  refine x_dup (zdm d_Md_init_15 35 rfl) z2n1 ?_
  refine x_iconst (zdm d_Md_init_15 36 rfl) (zIl rfl) ?_
  refine x_bipush (zdm d_Md_init_15 37 rfl) (by decide) ?_
  refine x_cast (zdm d_Md_init_15 38 rfl) rfl (by decide) (by decide) rfl ?_
  refine x_dup (zdm d_Md_init_15 39 rfl) z2n1 ?_
  refine x_iconst (zdm d_Md_init_15 40 rfl) (zIl rfl) ?_
  refine x_bipush (zdm d_Md_init_15 41 rfl) (by decide) ?_
  refine x_cast (zdm d_Md_init_15 42 rfl) rfl (by decide) (by decide) rfl ?_
  refine x_dup (zdm d_Md_init_15 43 rfl) z2n1 ?_
  refine x_iconst (zdm d_Md_init_15 44 rfl) (zIl rfl) ?_
  refine x_bipush (zdm d_Md_init_15 45 rfl) (by decide) ?_
  refine x_cast (zdm d_Md_init_15 46 rfl) rfl (by decide) (by decide) rfl ?_
  refine x_putF (zdm d_Md_init_15 47 rfl) f_Md_210 rfl ⟨_, _, rfl⟩ rfl ⟨rfl, trivial⟩ rfl ?_
  refine x_aload_n (zdm d_Md_init_15 48 rfl) rfl (n := 0) rfl ?_
  refine x_iconst (zdm d_Md_init_15 49 rfl) (zIl rfl) ?_
  refine x_newaC (c := 189) (zdm d_Md_init_15 50 rfl) wa_char (zwo (by decide) (zwo (by decide) (zwo (by decide) (zwo (by decide) (zwo (by decide) (zwo (by decide) zvs2)))))) (c' := 190) (by decide) rfl (by decide) (Nat.le_of_ble_eq_true rfl) (Nat.le_of_ble_eq_true rfl) ?_
  refine x_dup (zdm d_Md_init_15 51 rfl) z2n1 ?_
  refine x_iconst (zdm d_Md_init_15 52 rfl) (zIl rfl) ?_
  refine x_bipush (zdm d_Md_init_15 53 rfl) (by decide) ?_
  refine x_cast (zdm d_Md_init_15 54 rfl) rfl (by decide) (by decide) rfl ?_
  refine x_dup (zdm d_Md_init_15 55 rfl) z2n1 ?_
  refine x_iconst (zdm d_Md_init_15 56 rfl) (zIl rfl) ?_
  refine x_bipush (zdm d_Md_init_15 57 rfl) (by decide) ?_
  refine x_cast (zdm d_Md_init_15 58 rfl) rfl (by decide) (by decide) rfl ?_
  refine x_dup (zdm d_Md_init_15 59 rfl) z2n1 ?_
  refine x_iconst (zdm d_Md_init_16 0 rfl) (zIl rfl) ?_
  refine x_bipush (zdm d_Md_init_16 1 rfl) (by decide) ?_
  refine x_cast (zdm d_Md_init_16 2 rfl) rfl (by decide) (by decide) rfl ?_
  refine x_dup (zdm d_Md_init_16 3 rfl) z2n1 ?_
  refine x_iconst (zdm d_Md_init_16 4 rfl) (zIl rfl) ?_
  refine x_bipush (zdm d_Md_init_16 5 rfl) (by decide) ?_
  refine x_cast (zdm d_Md_init_16 6 rfl) rfl (by decide) (by decide) rfl ?_
  refine x_dup (zdm d_Md_init_16 7 rfl) z2n1 ?_
  refine x_iconst (zdm d_Md_init_16 8 rfl) (zIl rfl) ?_
  refine x_bipush (zdm d_Md_init_16 9 rfl) (by decide) ?_
  refine x_cast (zdm d_Md_init_16 10 rfl) rfl (by decide) (by decide) rfl ?_
  refine x_putF (zdm d_Md_init_16 11 rfl) f_Md_213 rfl ⟨_, _, rfl⟩ rfl ⟨rfl, trivial⟩ rfl ?_
  refine x_aload_n (zdm d_Md_init_16 12 rfl) rfl (n := 0) rfl ?_
  refine x_iconst (zdm d_Md_init_16 13 rfl) (zIl rfl) ?_
  refine x_newaC (c := 190) (zdm d_Md_init_16 14 rfl) wa_char (zwo (by decide) (zwo (by decide) (zwo (by decide) (zwo (by decide) (zwo (by decide) (zwo (by decide) zvs2)))))) (c' := 191) (by decide) rfl (by decide) (Nat.le_of_ble_eq_true rfl) (Nat.le_of_ble_eq_true rfl) ?_
  refine x_dup (zdm d_Md_init_16 15 rfl) z2n1 ?_
  refine x_iconst (zdm d_Md_init_16 16 rfl) (zIl rfl) ?_
  refine x_bipush (zdm d_Md_init_16 17 rfl) (by decide) ?_
  refine x_cast (zdm d_Md_init_16 18 rfl) rfl (by decide) (by decide) rfl ?_
  refine x_dup (zdm d_Md_init_16 19 rfl) z2n1 ?_
  refine x_iconst (zdm d_Md_init_16 20 rfl) (zIl rfl) ?_
  refine x_bipush (zdm d_Md_init_16 21 rfl) (by decide) ?_
  refine x_cast (zdm d_Md_init_16 22 rfl) rfl (by decide) (by decide) rfl ?_
  refine x_dup (zdm d_Md_init_16 23 rfl) z2n1 ?_
  refine x_iconst (zdm d_Md_init_16 24 rfl) (zIl rfl) ?_
  refine x_bipush (zdm d_Md_init_16 25 rfl) (by decide) ?_
  refine x_cast (zdm d_Md_init_16 26 rfl) rfl (by decide) (by decide) rfl ?_
  refine x_dup (zdm d_Md_init_16 27 rfl) z2n1 ?_
  refine x_iconst (zdm d_Md_init_16 28 rfl) (zIl rfl) ?_
  refine x_bipush (zdm d_Md_init_16 29 rfl) (by decide) ?_
  refine x_cast (zdm d_Md_init_16 30 rfl) rfl (by decide) (by decide) rfl ?_
  refine x_dup (zdm d_Md_init_16 31 rfl) z2n1 ?_
  refine x_iconst (zdm d_Md_init_16 32 rfl) (zIl rfl) ?_
  refine x_bipush (zdm d_Md_init_16 33 rfl) (by decide) ?_
  refine x_cast (zdm d_Md_init_16 34 rfl) rfl (by decide) (by decide) rfl ?_
  refine x_putF (zdm d_Md_init_16 35 rfl) f_Md_216 rfl ⟨_, _, rfl⟩ rfl ⟨rfl, trivial⟩ rfl ?_
  refine x_aload_n (zdm d_Md_init_16 36 rfl) rfl (n := 0) rfl ?_
  refine x_iconst (zdm d_Md_init_16 37 rfl) (zIl rfl) ?_
  refine x_newaC (c := 191) (zdm d_Md_init_16 38 rfl) wa_char (zwo (by decide) (zwo (by decide) (zwo (by decide) (zwo (by decide) (zwo (by decide) (zwo (by decide) zvs2)))))) (c' := 192) (by decide) rfl (by decide) (Nat.le_of_ble_eq_true rfl) (Nat.le_of_ble_eq_true rfl) ?_
  refine x_dup (zdm d_Md_init_16 39 rfl) z2n1 ?_
  refine x_iconst (zdm d_Md_init_16 40 rfl) (zIl rfl) ?_
  refine x_bipush (zdm d_Md_init_16 41 rfl) (by decide) ?_
  refine x_cast (zdm d_Md_init_16 42 rfl) rfl (by decide) (by decide) rfl ?_
  refine x_dup (zdm d_Md_init_16 43 rfl) z2n1 ?_
  refine x_iconst (zdm d_Md_init_16 44 rfl) (zIl rfl) ?_
  refine x_bipush (zdm d_Md_init_16 45 rfl) (by decide) ?_
  refine x_cast (zdm d_Md_init_16 46 rfl) rfl (by decide) (by decide) rfl ?_
  refine x_dup (zdm d_Md_init_16 47 rfl) z2n1 ?_
  refine x_iconst (zdm d_Md_init_16 48 rfl) (zIl rfl) ?_
  refine x_bipush (zdm d_Md_init_16 49 rfl) (by decide) ?_
  refine x_cast (zdm d_Md_init_16 50 rfl) rfl (by decide) (by decide) rfl ?_
  refine x_putF (zdm d_Md_init_16 51 rfl) f_Md_219 rfl ⟨_, _, rfl⟩ rfl ⟨rfl, trivial⟩ rfl ?_
  refine x_aload_n (zdm d_Md_init_16 52 rfl) rfl (n := 0) rfl ?_
  refine x_sipush (zdm d_Md_init_16 53 rfl) (by decide) ?_
  refine x_newaI (c := 192) (zdm d_Md_init_16 54 rfl) wa_int (zwo (by decide) (zwo (by decide) (zwo (by decide) (zwo (by decide) zvs2)))) (c' := 193) (by decide) rfl (by decide) (Nat.le_of_ble_eq_true rfl) (Nat.le_of_ble_eq_true rfl) ?_
  refine x_putF (zdm d_Md_init_16 55 rfl) f_Md_222 rfl ⟨_, _, rfl⟩ rfl ⟨rfl, trivial⟩ rfl ?_
  refine x_aload_n (zdm d_Md_init_16 56 rfl) rfl (n := 0) rfl ?_
  refine x_sipush (zdm d_Md_init_16 57 rfl) (by decide) ?_
  refine x_newaI (c := 193) (zdm d_Md_init_16 58 rfl) wa_int (zwo (by decide) zvs2) (c' := 194) (by decide) rfl (by decide) (Nat.le_of_ble_eq_true rfl) (Nat.le_of_ble_eq_true rfl) ?_
  refine x_putF (zdm d_Md_init_16 59 rfl) f_Md_225 rfl ⟨_, _, rfl⟩ rfl ⟨rfl, trivial⟩ rfl ?_
  refine x_aload_n (zdm d_Md_init_17 0 rfl) rfl (n := 0) rfl ?_
  refine x_sipush (zdm d_Md_init_17 1 rfl) (by decide) ?_
  refine x_newaJ (c := 194) (zdm d_Md_init_17 2 rfl) wa_long (zwo (by decide) zvs2) (c' := 195) (by decide) rfl (by decide) (Nat.le_of_ble_eq_true rfl) (Nat.le_of_ble_eq_true rfl) ?_
  refine x_putF (zdm d_Md_init_17 3 rfl) f_Md_228 rfl ⟨_, _, rfl⟩ rfl ⟨rfl, trivial⟩ rfl ?_
  refine x_aload_n (zdm d_Md_init_17 4 rfl) rfl (n := 0) rfl ?_
  refine x_bipush (zdm d_Md_init_17 5 rfl) (by decide) ?_
  refine x_newaI (c := 195) (zdm d_Md_init_17 6 rfl) wa_int (zwo (by decide) zvs2) (c' := 196) (by decide) rfl (by decide) (Nat.le_of_ble_eq_true rfl) (Nat.le_of_ble_eq_true rfl) ?_
  refine x_putF (zdm d_Md_init_17 7 rfl) f_Md_231 rfl ⟨_, _, rfl⟩ rfl ⟨rfl, trivial⟩ rfl ?_
  exact x_return (zdm d_Md_init_17 8 rfl) rfl q
