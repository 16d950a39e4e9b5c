set_option maxRecDepth 20000 in
set_option maxHeartbeats 4000000 in
theorem B_Law_law_18 {G : zG} {h sl : Nat} (hsl : 2 ≤ sl) {u : Nat × Nat × Nat × Nat} {l3 : Int} {M : zM} {Q : Int → zM → Prop} (H : (zI ((M (-2) 0) - 6)) ∧ ((((M (-2) 0) - 6) < l3 → Q 1 M) ∧ (¬ ((M (-2) 0) - 6) < l3 → (0 ≤ l3 ∧ l3 < M (-2) 0) ∧ (((zand (M (-1) l3) 31) = 0 → (zI (l3 + 1)) ∧ ((0 ≤ (l3 + 1) ∧ (l3 + 1) < M (-2) 0) ∧ ((zI (l3 + 2)) ∧ ((0 ≤ (l3 + 2) ∧ (l3 + 2) < M (-2) 0) ∧ ((zI (l3 + 3)) ∧ ((0 ≤ (l3 + 3) ∧ (l3 + 3) < M (-2) 0) ∧ ((zI (l3 + 4)) ∧ ((0 ≤ (l3 + 4) ∧ (l3 + 4) < M (-2) 0) ∧ ((zI (l3 + 5)) ∧ ((0 ≤ (l3 + 5) ∧ (l3 + 5) < M (-2) 0) ∧ (zCt G h sl 0 0 y_Zt_feed [(2, 1), (0, (M (-1) (l3 + 1))), (0, (M (-1) (l3 + 2))), (0, (M (-1) (l3 + 3))), (0, (M (-1) (l3 + 4))), (0, (M (-1) (l3 + 5)))] M (fun r13 M14 => (0 ≤ (l3 + 1) ∧ (l3 + 1) < M14 (-2) 0) ∧ ((0 ≤ (l3 + 2) ∧ (l3 + 2) < M14 (-2) 0) ∧ ((0 ≤ (l3 + 3) ∧ (l3 + 3) < M14 (-2) 0) ∧ ((0 ≤ (l3 + 4) ∧ (l3 + 4) < M14 (-2) 0) ∧ ((0 ≤ (l3 + 5) ∧ (l3 + 5) < M14 (-2) 0) ∧ (zCt G h sl 0 0 y_Md_feed [(2, 125), (0, (M14 (-1) (l3 + 1))), (0, (M14 (-1) (l3 + 2))), (0, (M14 (-1) (l3 + 3))), (0, (M14 (-1) (l3 + 4))), (0, (M14 (-1) (l3 + 5)))] M14 (fun r20 M21 => (r13 = r20 → (zI (l3 + 6)) ∧ (zX G (y_Law_law, h + 1, sl) u 18 [(0, (2, (-1))), (1, (2, 1)), (2, (2, 125)), (3, (0, (l3 + 6)))] [] M21 Q)) ∧ (¬ r13 = r20 → Q 0 M21))))))))))))))))))) ∧ ((zand (M (-1) l3) 31) = 1 → (zI (l3 + 1)) ∧ ((0 ≤ (l3 + 1) ∧ (l3 + 1) < M (-2) 0) ∧ (zCt G h sl 0 0 y_Zt_end [(2, 1), (0, (M (-1) (l3 + 1)))] M (fun r25 M26 => (0 ≤ (l3 + 1) ∧ (l3 + 1) < M26 (-2) 0) ∧ (zCt G h sl 0 0 y_Md_end [(2, 125), (0, (M26 (-1) (l3 + 1)))] M26 (fun r29 M30 => (r25 = r29 → (zI (l3 + 6)) ∧ (zX G (y_Law_law, h + 1, sl) u 18 [(0, (2, (-1))), (1, (2, 1)), (2, (2, 125)), (3, (0, (l3 + 6)))] [] M30 Q)) ∧ (¬ r25 = r29 → Q 0 M30))))))) ∧ ((zand (M (-1) l3) 31) = 2 → zCt G h sl 0 0 y_Zt_tablet [(2, 1)] M (fun r33 M34 => zCt G h sl 0 0 y_Md_tablet [(2, 125)] M34 (fun r35 M36 => (r33 = r35 → (zI (l3 + 6)) ∧ (zX G (y_Law_law, h + 1, sl) u 18 [(0, (2, (-1))), (1, (2, 1)), (2, (2, 125)), (3, (0, (l3 + 6)))] [] M36 Q)) ∧ (¬ r33 = r35 → Q 0 M36)))) ∧ ((zand (M (-1) l3) 31) = 3 → (zI (l3 + 1)) ∧ ((0 ≤ (l3 + 1) ∧ (l3 + 1) < M (-2) 0) ∧ (zCt G h sl 0 0 y_Zt_fault [(2, 1), (0, (M (-1) (l3 + 1)))] M (fun r40 M41 => (0 ≤ (l3 + 1) ∧ (l3 + 1) < M41 (-2) 0) ∧ (zCt G h sl 0 0 y_Md_fault [(2, 125), (0, (M41 (-1) (l3 + 1)))] M41 (fun r43 M44 => (r40 = r43 → (zI (l3 + 6)) ∧ (zX G (y_Law_law, h + 1, sl) u 18 [(0, (2, (-1))), (1, (2, 1)), (2, (2, 125)), (3, (0, (l3 + 6)))] [] M44 Q)) ∧ (¬ r40 = r43 → Q 0 M44))))))) ∧ ((zand (M (-1) l3) 31) = 4 → (zI (l3 + 1)) ∧ ((0 ≤ (l3 + 1) ∧ (l3 + 1) < M (-2) 0) ∧ (zCt G h sl 0 0 y_Zt_has [(2, 1), (0, (M (-1) (l3 + 1)))] M (fun r48 M49 => (0 ≤ (l3 + 1) ∧ (l3 + 1) < M49 (-2) 0) ∧ (zCt G h sl 0 0 y_Md_has [(2, 125), (0, (M49 (-1) (l3 + 1)))] M49 (fun r51 M52 => (r48 = r51 → (zI (l3 + 6)) ∧ (zX G (y_Law_law, h + 1, sl) u 18 [(0, (2, (-1))), (1, (2, 1)), (2, (2, 125)), (3, (0, (l3 + 6)))] [] M52 Q)) ∧ (¬ r48 = r51 → Q 0 M52))))))) ∧ ((zand (M (-1) l3) 31) = 5 → (zI (l3 + 1)) ∧ ((0 ≤ (l3 + 1) ∧ (l3 + 1) < M (-2) 0) ∧ ((zI (l3 + 2)) ∧ ((0 ≤ (l3 + 2) ∧ (l3 + 2) < M (-2) 0) ∧ (zCt G h sl 0 0 y_Zt_letter [(2, 1), (0, (M (-1) (l3 + 1))), (0, (M (-1) (l3 + 2)))] M (fun r58 M59 => (0 ≤ (l3 + 1) ∧ (l3 + 1) < M59 (-2) 0) ∧ ((0 ≤ (l3 + 2) ∧ (l3 + 2) < M59 (-2) 0) ∧ (zCt G h sl 0 0 y_Md_letter [(2, 125), (0, (M59 (-1) (l3 + 1))), (0, (M59 (-1) (l3 + 2)))] M59 (fun r62 M63 => (r58 = r62 → (zI (l3 + 6)) ∧ (zX G (y_Law_law, h + 1, sl) u 18 [(0, (2, (-1))), (1, (2, 1)), (2, (2, 125)), (3, (0, (l3 + 6)))] [] M63 Q)) ∧ (¬ r58 = r62 → Q 0 M63)))))))))) ∧ ((zand (M (-1) l3) 31) = 6 → (zI (l3 + 1)) ∧ ((0 ≤ (l3 + 1) ∧ (l3 + 1) < M (-2) 0) ∧ ((zI (l3 + 2)) ∧ ((0 ≤ (l3 + 2) ∧ (l3 + 2) < M (-2) 0) ∧ (zCt G h sl 0 0 y_Zt_column [(2, 1), (0, (M (-1) (l3 + 1))), (0, (M (-1) (l3 + 2)))] M (fun r69 M70 => (0 ≤ (l3 + 1) ∧ (l3 + 1) < M70 (-2) 0) ∧ ((0 ≤ (l3 + 2) ∧ (l3 + 2) < M70 (-2) 0) ∧ (zCt G h sl 0 0 y_Md_column [(2, 125), (0, (M70 (-1) (l3 + 1))), (0, (M70 (-1) (l3 + 2)))] M70 (fun r73 M74 => (r69 = r73 → (zI (l3 + 6)) ∧ (zX G (y_Law_law, h + 1, sl) u 18 [(0, (2, (-1))), (1, (2, 1)), (2, (2, 125)), (3, (0, (l3 + 6)))] [] M74 Q)) ∧ (¬ r69 = r73 → Q 0 M74)))))))))) ∧ ((zand (M (-1) l3) 31) = 7 → (zI (l3 + 1)) ∧ ((0 ≤ (l3 + 1) ∧ (l3 + 1) < M (-2) 0) ∧ ((zI (l3 + 2)) ∧ ((0 ≤ (l3 + 2) ∧ (l3 + 2) < M (-2) 0) ∧ (zCt G h sl 0 0 y_Zt_value [(2, 1), (0, (M (-1) (l3 + 1))), (0, (M (-1) (l3 + 2)))] M (fun r80 M81 => (0 ≤ (l3 + 1) ∧ (l3 + 1) < M81 (-2) 0) ∧ ((0 ≤ (l3 + 2) ∧ (l3 + 2) < M81 (-2) 0) ∧ (zCt G h sl 0 0 y_Md_value [(2, 125), (0, (M81 (-1) (l3 + 1))), (0, (M81 (-1) (l3 + 2)))] M81 (fun r84 M85 => (r80 = r84 → (zI (l3 + 6)) ∧ (zX G (y_Law_law, h + 1, sl) u 18 [(0, (2, (-1))), (1, (2, 1)), (2, (2, 125)), (3, (0, (l3 + 6)))] [] M85 Q)) ∧ (¬ r80 = r84 → Q 0 M85)))))))))) ∧ ((zand (M (-1) l3) 31) = 8 → (zI (l3 + 1)) ∧ ((0 ≤ (l3 + 1) ∧ (l3 + 1) < M (-2) 0) ∧ ((zI (l3 + 2)) ∧ ((0 ≤ (l3 + 2) ∧ (l3 + 2) < M (-2) 0) ∧ (zCt G h sl 0 0 y_Zt_kept [(2, 1), (0, (M (-1) (l3 + 1))), (0, (M (-1) (l3 + 2)))] M (fun r91 M92 => (0 ≤ (l3 + 1) ∧ (l3 + 1) < M92 (-2) 0) ∧ ((0 ≤ (l3 + 2) ∧ (l3 + 2) < M92 (-2) 0) ∧ (zCt G h sl 0 0 y_Md_kept [(2, 125), (0, (M92 (-1) (l3 + 1))), (0, (M92 (-1) (l3 + 2)))] M92 (fun r95 M96 => (r91 = r95 → (zI (l3 + 6)) ∧ (zX G (y_Law_law, h + 1, sl) u 18 [(0, (2, (-1))), (1, (2, 1)), (2, (2, 125)), (3, (0, (l3 + 6)))] [] M96 Q)) ∧ (¬ r91 = r95 → Q 0 M96)))))))))) ∧ ((zand (M (-1) l3) 31) = 9 → (zI (l3 + 1)) ∧ ((0 ≤ (l3 + 1) ∧ (l3 + 1) < M (-2) 0) ∧ ((zI (l3 + 2)) ∧ ((0 ≤ (l3 + 2) ∧ (l3 + 2) < M (-2) 0) ∧ (zCt G h sl 0 0 y_Zt_later [(2, 1), (0, (M (-1) (l3 + 1))), (0, (M (-1) (l3 + 2)))] M (fun r102 M103 => (0 ≤ (l3 + 1) ∧ (l3 + 1) < M103 (-2) 0) ∧ ((0 ≤ (l3 + 2) ∧ (l3 + 2) < M103 (-2) 0) ∧ (zCt G h sl 0 0 y_Md_later [(2, 125), (0, (M103 (-1) (l3 + 1))), (0, (M103 (-1) (l3 + 2)))] M103 (fun r106 M107 => (r102 = r106 → (zI (l3 + 6)) ∧ (zX G (y_Law_law, h + 1, sl) u 18 [(0, (2, (-1))), (1, (2, 1)), (2, (2, 125)), (3, (0, (l3 + 6)))] [] M107 Q)) ∧ (¬ r102 = r106 → Q 0 M107)))))))))) ∧ ((zand (M (-1) l3) 31) = 10 → (zI (l3 + 1)) ∧ ((0 ≤ (l3 + 1) ∧ (l3 + 1) < M (-2) 0) ∧ ((zI (l3 + 2)) ∧ ((0 ≤ (l3 + 2) ∧ (l3 + 2) < M (-2) 0) ∧ ((zI (l3 + 3)) ∧ ((0 ≤ (l3 + 3) ∧ (l3 + 3) < M (-2) 0) ∧ (zCt G h sl 0 0 y_Zt_bounds [(2, 1), (0, (M (-1) (l3 + 1))), (0, (M (-1) (l3 + 2))), (0, (M (-1) (l3 + 3)))] M (fun r115 M116 => (0 ≤ (l3 + 1) ∧ (l3 + 1) < M116 (-2) 0) ∧ ((0 ≤ (l3 + 2) ∧ (l3 + 2) < M116 (-2) 0) ∧ ((0 ≤ (l3 + 3) ∧ (l3 + 3) < M116 (-2) 0) ∧ (zCt G h sl 0 0 y_Md_bounds [(2, 125), (0, (M116 (-1) (l3 + 1))), (0, (M116 (-1) (l3 + 2))), (0, (M116 (-1) (l3 + 3)))] M116 (fun r120 M121 => (r115 = r120 → (zI (l3 + 6)) ∧ (zX G (y_Law_law, h + 1, sl) u 18 [(0, (2, (-1))), (1, (2, 1)), (2, (2, 125)), (3, (0, (l3 + 6)))] [] M121 Q)) ∧ (¬ r115 = r120 → Q 0 M121))))))))))))) ∧ ((zand (M (-1) l3) 31) = 11 → (zI (l3 + 1)) ∧ ((0 ≤ (l3 + 1) ∧ (l3 + 1) < M (-2) 0) ∧ (zCt G h sl 0 0 y_Zt_period [(2, 1), (0, (M (-1) (l3 + 1)))] M (fun r125 M126 => (0 ≤ (l3 + 1) ∧ (l3 + 1) < M126 (-2) 0) ∧ (zCt G h sl 0 0 y_Md_period [(2, 125), (0, (M126 (-1) (l3 + 1)))] M126 (fun r128 M129 => (r125 = r128 → (zI (l3 + 6)) ∧ (zX G (y_Law_law, h + 1, sl) u 18 [(0, (2, (-1))), (1, (2, 1)), (2, (2, 125)), (3, (0, (l3 + 6)))] [] M129 Q)) ∧ (¬ r125 = r128 → Q 0 M129))))))) ∧ ((zand (M (-1) l3) 31) = 12 → (zI (l3 + 1)) ∧ ((0 ≤ (l3 + 1) ∧ (l3 + 1) < M (-2) 0) ∧ ((zI (l3 + 2)) ∧ ((0 ≤ (l3 + 2) ∧ (l3 + 2) < M (-2) 0) ∧ (zCt G h sl 0 0 y_Zt_when [(2, 1), (0, (M (-1) (l3 + 1))), (0, (M (-1) (l3 + 2)))] M (fun r135 M136 => (0 ≤ (l3 + 1) ∧ (l3 + 1) < M136 (-2) 0) ∧ ((0 ≤ (l3 + 2) ∧ (l3 + 2) < M136 (-2) 0) ∧ (zCt G h sl 0 0 y_Md_when [(2, 125), (0, (M136 (-1) (l3 + 1))), (0, (M136 (-1) (l3 + 2)))] M136 (fun r139 M140 => (r135 = r139 → (zI (l3 + 6)) ∧ (zX G (y_Law_law, h + 1, sl) u 18 [(0, (2, (-1))), (1, (2, 1)), (2, (2, 125)), (3, (0, (l3 + 6)))] [] M140 Q)) ∧ (¬ r135 = r139 → Q 0 M140)))))))))) ∧ ((zand (M (-1) l3) 31) = 13 → (zI (l3 + 1)) ∧ ((0 ≤ (l3 + 1) ∧ (l3 + 1) < M (-2) 0) ∧ ((zI (l3 + 2)) ∧ ((0 ≤ (l3 + 2) ∧ (l3 + 2) < M (-2) 0) ∧ (zCt G h sl 0 0 y_Zt_meet [(2, 1), (0, (M (-1) (l3 + 1))), (0, (M (-1) (l3 + 2)))] M (fun r146 M147 => (0 ≤ (l3 + 1) ∧ (l3 + 1) < M147 (-2) 0) ∧ ((0 ≤ (l3 + 2) ∧ (l3 + 2) < M147 (-2) 0) ∧ (zCt G h sl 0 0 y_Md_meet [(2, 125), (0, (M147 (-1) (l3 + 1))), (0, (M147 (-1) (l3 + 2)))] M147 (fun r150 M151 => (r146 = r150 → (zI (l3 + 6)) ∧ (zX G (y_Law_law, h + 1, sl) u 18 [(0, (2, (-1))), (1, (2, 1)), (2, (2, 125)), (3, (0, (l3 + 6)))] [] M151 Q)) ∧ (¬ r146 = r150 → Q 0 M151)))))))))) ∧ ((zand (M (-1) l3) 31) = 14 → (zI (l3 + 1)) ∧ ((0 ≤ (l3 + 1) ∧ (l3 + 1) < M (-2) 0) ∧ ((zI (l3 + 2)) ∧ ((0 ≤ (l3 + 2) ∧ (l3 + 2) < M (-2) 0) ∧ (zCt G h sl 0 0 y_Zt_marks [(2, 1), (0, (M (-1) (l3 + 1))), (0, (M (-1) (l3 + 2)))] M (fun r157 M158 => (0 ≤ (l3 + 1) ∧ (l3 + 1) < M158 (-2) 0) ∧ ((0 ≤ (l3 + 2) ∧ (l3 + 2) < M158 (-2) 0) ∧ (zCt G h sl 0 0 y_Md_marks [(2, 125), (0, (M158 (-1) (l3 + 1))), (0, (M158 (-1) (l3 + 2)))] M158 (fun r161 M162 => (r157 = r161 → (zI (l3 + 6)) ∧ (zX G (y_Law_law, h + 1, sl) u 18 [(0, (2, (-1))), (1, (2, 1)), (2, (2, 125)), (3, (0, (l3 + 6)))] [] M162 Q)) ∧ (¬ r157 = r161 → Q 0 M162)))))))))) ∧ ((zand (M (-1) l3) 31) = 15 → (zI (l3 + 1)) ∧ ((0 ≤ (l3 + 1) ∧ (l3 + 1) < M (-2) 0) ∧ (zCt G h sl 0 0 y_Zt_heal [(2, 1), (0, (M (-1) (l3 + 1)))] M (fun r166 M167 => (0 ≤ (l3 + 1) ∧ (l3 + 1) < M167 (-2) 0) ∧ (zCt G h sl 0 0 y_Md_heal [(2, 125), (0, (M167 (-1) (l3 + 1)))] M167 (fun r169 M170 => (r166 = r169 → (zI (l3 + 6)) ∧ (zX G (y_Law_law, h + 1, sl) u 18 [(0, (2, (-1))), (1, (2, 1)), (2, (2, 125)), (3, (0, (l3 + 6)))] [] M170 Q)) ∧ (¬ r166 = r169 → Q 0 M170))))))) ∧ ((zand (M (-1) l3) 31) = 16 → (zI (l3 + 1)) ∧ ((0 ≤ (l3 + 1) ∧ (l3 + 1) < M (-2) 0) ∧ (zCt G h sl 0 0 y_Zt_odds [(2, 1), (0, (M (-1) (l3 + 1)))] M (fun r174 M175 => (0 ≤ (l3 + 1) ∧ (l3 + 1) < M175 (-2) 0) ∧ (zCt G h sl 0 0 y_Md_odds [(2, 125), (0, (M175 (-1) (l3 + 1)))] M175 (fun r177 M178 => (r174 = r177 → (zI (l3 + 6)) ∧ (zX G (y_Law_law, h + 1, sl) u 18 [(0, (2, (-1))), (1, (2, 1)), (2, (2, 125)), (3, (0, (l3 + 6)))] [] M178 Q)) ∧ (¬ r174 = r177 → Q 0 M178))))))) ∧ ((zand (M (-1) l3) 31) = 17 → zCt G h sl 0 0 y_Zt_find [(2, 1)] M (fun r180 M181 => zCt G h sl 0 0 y_Md_find [(2, 125)] M181 (fun r182 M183 => (r180 = r182 → (zI (l3 + 6)) ∧ (zX G (y_Law_law, h + 1, sl) u 18 [(0, (2, (-1))), (1, (2, 1)), (2, (2, 125)), (3, (0, (l3 + 6)))] [] M183 Q)) ∧ (¬ r180 = r182 → Q 0 M183)))) ∧ ((zand (M (-1) l3) 31) = 18 → (zI (l3 + 1)) ∧ ((0 ≤ (l3 + 1) ∧ (l3 + 1) < M (-2) 0) ∧ (zCt G h sl 0 0 y_Zt_fits [(2, 1), (0, (M (-1) (l3 + 1)))] M (fun r187 M188 => (0 ≤ (l3 + 1) ∧ (l3 + 1) < M188 (-2) 0) ∧ (zCt G h sl 0 0 y_Md_fits [(2, 125), (0, (M188 (-1) (l3 + 1)))] M188 (fun r190 M191 => (r187 = r190 → (zI (l3 + 6)) ∧ (zX G (y_Law_law, h + 1, sl) u 18 [(0, (2, (-1))), (1, (2, 1)), (2, (2, 125)), (3, (0, (l3 + 6)))] [] M191 Q)) ∧ (¬ r187 = r190 → Q 0 M191))))))) ∧ ((zand (M (-1) l3) 31) = 19 → (zI (l3 + 1)) ∧ ((0 ≤ (l3 + 1) ∧ (l3 + 1) < M (-2) 0) ∧ ((zI (l3 + 2)) ∧ ((0 ≤ (l3 + 2) ∧ (l3 + 2) < M (-2) 0) ∧ (zCt G h sl 0 0 y_Zt_differences [(2, 1), (0, (M (-1) (l3 + 1))), (0, (M (-1) (l3 + 2)))] M (fun r197 M198 => (0 ≤ (l3 + 1) ∧ (l3 + 1) < M198 (-2) 0) ∧ ((0 ≤ (l3 + 2) ∧ (l3 + 2) < M198 (-2) 0) ∧ (zCt G h sl 0 0 y_Md_differences [(2, 125), (0, (M198 (-1) (l3 + 1))), (0, (M198 (-1) (l3 + 2)))] M198 (fun r201 M202 => (r197 = r201 → (zI (l3 + 6)) ∧ (zX G (y_Law_law, h + 1, sl) u 18 [(0, (2, (-1))), (1, (2, 1)), (2, (2, 125)), (3, (0, (l3 + 6)))] [] M202 Q)) ∧ (¬ r197 = r201 → Q 0 M202)))))))))) ∧ ((zand (M (-1) l3) 31) = 20 → (zI (l3 + 1)) ∧ ((0 ≤ (l3 + 1) ∧ (l3 + 1) < M (-2) 0) ∧ (zCt G h sl 0 0 y_Zt_tells [(2, 1), (0, (M (-1) (l3 + 1)))] M (fun r206 M207 => (0 ≤ (l3 + 1) ∧ (l3 + 1) < M207 (-2) 0) ∧ (zCt G h sl 0 0 y_Md_tells [(2, 125), (0, (M207 (-1) (l3 + 1)))] M207 (fun r209 M210 => (r206 = r209 → (zI (l3 + 6)) ∧ (zX G (y_Law_law, h + 1, sl) u 18 [(0, (2, (-1))), (1, (2, 1)), (2, (2, 125)), (3, (0, (l3 + 6)))] [] M210 Q)) ∧ (¬ r206 = r209 → Q 0 M210))))))) ∧ ((zand (M (-1) l3) 31) = 21 → (zI (l3 + 1)) ∧ ((0 ≤ (l3 + 1) ∧ (l3 + 1) < M (-2) 0) ∧ (zCt G h sl 0 0 y_Zt_write [(2, 1), (0, (M (-1) (l3 + 1)))] M (fun r214 M215 => (0 ≤ (l3 + 1) ∧ (l3 + 1) < M215 (-2) 0) ∧ (zCt G h sl 0 0 y_Md_write [(2, 125), (0, (M215 (-1) (l3 + 1)))] M215 (fun r217 M218 => (r214 = r217 → (zI (l3 + 6)) ∧ (zX G (y_Law_law, h + 1, sl) u 18 [(0, (2, (-1))), (1, (2, 1)), (2, (2, 125)), (3, (0, (l3 + 6)))] [] M218 Q)) ∧ (¬ r214 = r217 → Q 0 M218))))))) ∧ ((zand (M (-1) l3) 31) = 22 → (zI (l3 + 1)) ∧ ((0 ≤ (l3 + 1) ∧ (l3 + 1) < M (-2) 0) ∧ ((zI (l3 + 2)) ∧ ((0 ≤ (l3 + 2) ∧ (l3 + 2) < M (-2) 0) ∧ (zCt G h sl 0 0 y_Zt_put [(2, 1), (0, (M (-1) (l3 + 1))), (0, (M (-1) (l3 + 2)))] M (fun r224 M225 => (0 ≤ (l3 + 1) ∧ (l3 + 1) < M225 (-2) 0) ∧ ((0 ≤ (l3 + 2) ∧ (l3 + 2) < M225 (-2) 0) ∧ (zCt G h sl 0 0 y_Md_put [(2, 125), (0, (M225 (-1) (l3 + 1))), (0, (M225 (-1) (l3 + 2)))] M225 (fun r229 M230 => (r224 = r229 → (zI (l3 + 6)) ∧ (zX G (y_Law_law, h + 1, sl) u 18 [(0, (2, (-1))), (1, (2, 1)), (2, (2, 125)), (3, (0, (l3 + 6)))] [] M230 Q)) ∧ (¬ r224 = r229 → Q 0 M230)))))))))) ∧ ((zand (M (-1) l3) 31) = 23 → (zI (l3 + 1)) ∧ ((0 ≤ (l3 + 1) ∧ (l3 + 1) < M (-2) 0) ∧ (zCt G h sl 0 0 y_Zt_turn [(2, 1), (0, (M (-1) (l3 + 1)))] M (fun r235 M236 => (0 ≤ (l3 + 1) ∧ (l3 + 1) < M236 (-2) 0) ∧ (zCt G h sl 0 0 y_Md_turn [(2, 125), (0, (M236 (-1) (l3 + 1)))] M236 (fun r239 M240 => (r235 = r239 → (zI (l3 + 6)) ∧ (zX G (y_Law_law, h + 1, sl) u 18 [(0, (2, (-1))), (1, (2, 1)), (2, (2, 125)), (3, (0, (l3 + 6)))] [] M240 Q)) ∧ (¬ r235 = r239 → Q 0 M240))))))) ∧ ((zand (M (-1) l3) 31) = 24 → (zI (l3 + 1)) ∧ ((0 ≤ (l3 + 1) ∧ (l3 + 1) < M (-2) 0) ∧ (zCt G h sl 0 0 y_Zt_chance [(2, 1), (0, (M (-1) (l3 + 1)))] M (fun r245 M246 => (0 ≤ (l3 + 1) ∧ (l3 + 1) < M246 (-2) 0) ∧ (zCt G h sl 0 0 y_Md_chance [(2, 125), (0, (M246 (-1) (l3 + 1)))] M246 (fun r248 M249 => (r245 = r248 → (zI (l3 + 6)) ∧ (zX G (y_Law_law, h + 1, sl) u 18 [(0, (2, (-1))), (1, (2, 1)), (2, (2, 125)), (3, (0, (l3 + 6)))] [] M249 Q)) ∧ (¬ r245 = r248 → Q 0 M249))))))) ∧ ((zand (M (-1) l3) 31) = 25 → zCt G h sl 0 0 y_Zt_undo [(2, 1)] M (fun r251 M252 => zCt G h sl 0 0 y_Md_undo [(2, 125)] M252 (fun r254 M255 => (r251 = r254 → (zI (l3 + 6)) ∧ (zX G (y_Law_law, h + 1, sl) u 18 [(0, (2, (-1))), (1, (2, 1)), (2, (2, 125)), (3, (0, (l3 + 6)))] [] M255 Q)) ∧ (¬ r251 = r254 → Q 0 M255)))) ∧ ((zand (M (-1) l3) 31) = 26 → (zI (l3 + 1)) ∧ ((0 ≤ (l3 + 1) ∧ (l3 + 1) < M (-2) 0) ∧ (zCt G h sl 0 0 y_Zt_seed [(2, 1), (0, (M (-1) (l3 + 1)))] M (fun r260 M261 => (0 ≤ (l3 + 1) ∧ (l3 + 1) < M261 (-2) 0) ∧ (zCt G h sl 0 0 y_Md_seed [(2, 125), (0, (M261 (-1) (l3 + 1)))] M261 (fun r264 M265 => (r260 = r264 → (zI (l3 + 6)) ∧ (zX G (y_Law_law, h + 1, sl) u 18 [(0, (2, (-1))), (1, (2, 1)), (2, (2, 125)), (3, (0, (l3 + 6)))] [] M265 Q)) ∧ (¬ r260 = r264 → Q 0 M265))))))) ∧ ((zand (M (-1) l3) 31) = 27 → zCt G h sl 0 0 y_Zt_ask [(2, 1)] M (fun r268 M269 => zCt G h sl 0 0 y_Md_ask [(2, 125)] M269 (fun r270 M271 => (r268 = r270 → (zI (l3 + 6)) ∧ (zX G (y_Law_law, h + 1, sl) u 18 [(0, (2, (-1))), (1, (2, 1)), (2, (2, 125)), (3, (0, (l3 + 6)))] [] M271 Q)) ∧ (¬ r268 = r270 → Q 0 M271)))) ∧ ((zand (M (-1) l3) 31) = 28 → zCt G h sl 0 0 y_Zt_image [(2, 1)] M (fun r273 M274 => zCt G h sl 0 0 y_Md_image [(2, 125)] M274 (fun r275 M276 => (r273 = r275 → (zI (l3 + 6)) ∧ (zX G (y_Law_law, h + 1, sl) u 18 [(0, (2, (-1))), (1, (2, 1)), (2, (2, 125)), (3, (0, (l3 + 6)))] [] M276 Q)) ∧ (¬ r273 = r275 → Q 0 M276)))) ∧ ((zand (M (-1) l3) 31) = 29 → (zI (l3 + 1)) ∧ ((0 ≤ (l3 + 1) ∧ (l3 + 1) < M (-2) 0) ∧ (zCt G h sl 0 0 y_Zt_octet [(2, 1), (0, (M (-1) (l3 + 1)))] M (fun r280 M281 => (0 ≤ (l3 + 1) ∧ (l3 + 1) < M281 (-2) 0) ∧ (zCt G h sl 0 0 y_Md_octet [(2, 125), (0, (M281 (-1) (l3 + 1)))] M281 (fun r283 M284 => (r280 = r283 → (zI (l3 + 6)) ∧ (zX G (y_Law_law, h + 1, sl) u 18 [(0, (2, (-1))), (1, (2, 1)), (2, (2, 125)), (3, (0, (l3 + 6)))] [] M284 Q)) ∧ (¬ r280 = r283 → Q 0 M284))))))) ∧ ((zand (M (-1) l3) 31) = 30 → zCt G h sl 0 0 y_Zt_on [(2, 1)] M (fun r286 M287 => zCt G h sl 0 0 y_Md_on [(2, 125)] M287 (fun r289 M290 => (r286 = r289 → (zI (l3 + 6)) ∧ (zX G (y_Law_law, h + 1, sl) u 18 [(0, (2, (-1))), (1, (2, 1)), (2, (2, 125)), (3, (0, (l3 + 6)))] [] M290 Q)) ∧ (¬ r286 = r289 → Q 0 M290)))) ∧ ((zand (M (-1) l3) 31) = 31 → (zI (l3 + 1)) ∧ ((0 ≤ (l3 + 1) ∧ (l3 + 1) < M (-2) 0) ∧ (zCt G h sl 0 0 y_Zt_status [(2, 1), (0, (M (-1) (l3 + 1)))] M (fun r295 M296 => (0 ≤ (l3 + 1) ∧ (l3 + 1) < M296 (-2) 0) ∧ (zCt G h sl 0 0 y_Md_status [(2, 125), (0, (M296 (-1) (l3 + 1)))] M296 (fun r298 M299 => (r295 = r298 → (zI (l3 + 6)) ∧ (zX G (y_Law_law, h + 1, sl) u 18 [(0, (2, (-1))), (1, (2, 1)), (2, (2, 125)), (3, (0, (l3 + 6)))] [] M299 Q)) ∧ (¬ r295 = r298 → Q 0 M299))))))) ∧ (((zand (M (-1) l3) 31) < 0 ∨ 31 < (zand (M (-1) l3) 31)) → (zI (l3 + 6)) ∧ (zX G (y_Law_law, h + 1, sl) u 18 [(0, (2, (-1))), (1, (2, 1)), (2, (2, 125)), (3, (0, (l3 + 6)))] [] M Q)))))) : zX G (y_Law_law, h + 1, sl) u 18 [(0, (2, (-1))), (1, (2, 1)), (2, (2, 125)), (3, (0, l3))] [] M Q := by
  refine x_iload_n (zdm d_Law_law_0 10 rfl) rfl (n := 3) rfl ?_
  refine x_aload_n (zdm d_Law_law_0 11 rfl) rfl (n := 0) rfl ?_
  refine x_slen (zdm d_Law_law_0 12 rfl) ?_
  refine x_bipush (zdm d_Law_law_0 13 rfl) (by decide) ?_
  obtain ⟨g1, H⟩ := H
  refine x_isub (zdm d_Law_law_0 14 rfl) g1 ?_
  refine x_icmpgt (tgt := 1022) (zdm d_Law_law_0 15 rfl) (by decide) (fun c => ?_) (fun c => ?_)
  · have H := H.1 c
    refine x_iconst (zdm d_Law_law_11 12 rfl) (zIl rfl) ?_
    exact x_ireturn (zdm d_Law_law_11 13 rfl) (ty := .boolean) rfl (by decide) (Or.inr rfl) H
  · have H := H.2 c
    refine x_aload_n (zdm d_Law_law_0 16 rfl) rfl (n := 0) rfl ?_
    refine x_iload_n (zdm d_Law_law_0 17 rfl) rfl (n := 3) rfl ?_
    obtain ⟨g2, H⟩ := H
    refine x_sld (zdm d_Law_law_0 18 rfl) g2 ?_
    refine x_bipush (zdm d_Law_law_0 19 rfl) (by decide) ?_
    refine x_iand (zdm d_Law_law_0 20 rfl) ?_
    by_cases c0 : (zand (M (-1) l3) 31) = 0
    · refine x_tsw (tgt := 176) (zdm d_Law_law_0 21 rfl) c0 (by decide) rfl (by decide) ?_
      have H := H.1 c0
      refine x_aload_n (zdm d_Law_law_0 22 rfl) rfl (n := 1) rfl ?_
      refine x_aload_n (zdm d_Law_law_0 23 rfl) rfl (n := 0) rfl ?_
      refine x_iload_n (zdm d_Law_law_0 24 rfl) rfl (n := 3) rfl ?_
      refine x_iconst (zdm d_Law_law_0 25 rfl) (zIl rfl) ?_
      obtain ⟨g3, H⟩ := H
      refine x_iadd (zdm d_Law_law_0 26 rfl) g3 ?_
      obtain ⟨g4, H⟩ := H
      refine x_sld (zdm d_Law_law_0 27 rfl) g4 ?_
      refine x_aload_n (zdm d_Law_law_0 28 rfl) rfl (n := 0) rfl ?_
      refine x_iload_n (zdm d_Law_law_0 29 rfl) rfl (n := 3) rfl ?_
      refine x_iconst (zdm d_Law_law_0 30 rfl) (zIl rfl) ?_
      obtain ⟨g5, H⟩ := H
      refine x_iadd (zdm d_Law_law_0 31 rfl) g5 ?_
      obtain ⟨g6, H⟩ := H
      refine x_sld (zdm d_Law_law_0 32 rfl) g6 ?_
      refine x_aload_n (zdm d_Law_law_0 33 rfl) rfl (n := 0) rfl ?_
      refine x_iload_n (zdm d_Law_law_0 34 rfl) rfl (n := 3) rfl ?_
      refine x_iconst (zdm d_Law_law_0 35 rfl) (zIl rfl) ?_
      obtain ⟨g7, H⟩ := H
      refine x_iadd (zdm d_Law_law_0 36 rfl) g7 ?_
      obtain ⟨g8, H⟩ := H
      refine x_sld (zdm d_Law_law_0 37 rfl) g8 ?_
      refine x_aload_n (zdm d_Law_law_0 38 rfl) rfl (n := 0) rfl ?_
      refine x_iload_n (zdm d_Law_law_0 39 rfl) rfl (n := 3) rfl ?_
      refine x_iconst (zdm d_Law_law_0 40 rfl) (zIl rfl) ?_
      obtain ⟨g9, H⟩ := H
      refine x_iadd (zdm d_Law_law_0 41 rfl) g9 ?_
      obtain ⟨g10, H⟩ := H
      refine x_sld (zdm d_Law_law_0 42 rfl) g10 ?_
      refine x_aload_n (zdm d_Law_law_0 43 rfl) rfl (n := 0) rfl ?_
      refine x_iload_n (zdm d_Law_law_0 44 rfl) rfl (n := 3) rfl ?_
      refine x_iconst (zdm d_Law_law_0 45 rfl) (zIl rfl) ?_
      obtain ⟨g11, H⟩ := H
      refine x_iadd (zdm d_Law_law_0 46 rfl) g11 ?_
      obtain ⟨g12, H⟩ := H
      refine x_sld (zdm d_Law_law_0 47 rfl) g12 ?_
      refine x_callVi (n := 5) (ci := 10) (zdm d_Law_law_0 48 rfl) k_Law_13 (As := [(0, (M (-1) (l3 + 1))), (0, (M (-1) (l3 + 2))), (0, (M (-1) (l3 + 3))), (0, (M (-1) (l3 + 4))), (0, (M (-1) (l3 + 5)))]) rfl rfl rfl ⟨_, _, rfl⟩ (Nat.le_of_ble_eq_true rfl) trivial H (fun r13 M14 hr H => ?_)
      refine x_aload_n (zdm d_Law_law_0 49 rfl) rfl (n := 2) rfl ?_
      refine x_aload_n (zdm d_Law_law_0 50 rfl) rfl (n := 0) rfl ?_
      refine x_iload_n (zdm d_Law_law_0 51 rfl) rfl (n := 3) rfl ?_
      refine x_iconst (zdm d_Law_law_0 52 rfl) (zIl rfl) ?_
      refine x_iadd (zdm d_Law_law_0 53 rfl) g3 ?_
      obtain ⟨g15, H⟩ := H
      refine x_sld (zdm d_Law_law_0 54 rfl) g15 ?_
      refine x_aload_n (zdm d_Law_law_0 55 rfl) rfl (n := 0) rfl ?_
      refine x_iload_n (zdm d_Law_law_0 56 rfl) rfl (n := 3) rfl ?_
      refine x_iconst (zdm d_Law_law_0 57 rfl) (zIl rfl) ?_
      refine x_iadd (zdm d_Law_law_0 58 rfl) g5 ?_
      obtain ⟨g16, H⟩ := H
      refine x_sld (zdm d_Law_law_0 59 rfl) g16 ?_
      refine x_aload_n (zdm d_Law_law_1 0 rfl) rfl (n := 0) rfl ?_
      refine x_iload_n (zdm d_Law_law_1 1 rfl) rfl (n := 3) rfl ?_
      refine x_iconst (zdm d_Law_law_1 2 rfl) (zIl rfl) ?_
      refine x_iadd (zdm d_Law_law_1 3 rfl) g7 ?_
      obtain ⟨g17, H⟩ := H
      refine x_sld (zdm d_Law_law_1 4 rfl) g17 ?_
      refine x_aload_n (zdm d_Law_law_1 5 rfl) rfl (n := 0) rfl ?_
      refine x_iload_n (zdm d_Law_law_1 6 rfl) rfl (n := 3) rfl ?_
      refine x_iconst (zdm d_Law_law_1 7 rfl) (zIl rfl) ?_
      refine x_iadd (zdm d_Law_law_1 8 rfl) g9 ?_
      obtain ⟨g18, H⟩ := H
      refine x_sld (zdm d_Law_law_1 9 rfl) g18 ?_
      refine x_aload_n (zdm d_Law_law_1 10 rfl) rfl (n := 0) rfl ?_
      refine x_iload_n (zdm d_Law_law_1 11 rfl) rfl (n := 3) rfl ?_
      refine x_iconst (zdm d_Law_law_1 12 rfl) (zIl rfl) ?_
      refine x_iadd (zdm d_Law_law_1 13 rfl) g11 ?_
      obtain ⟨g19, H⟩ := H
      refine x_sld (zdm d_Law_law_1 14 rfl) g19 ?_
      refine x_callVi (n := 5) (ci := 11) (zdm d_Law_law_1 15 rfl) k_Law_17 (As := [(0, (M14 (-1) (l3 + 1))), (0, (M14 (-1) (l3 + 2))), (0, (M14 (-1) (l3 + 3))), (0, (M14 (-1) (l3 + 4))), (0, (M14 (-1) (l3 + 5)))]) rfl rfl rfl ⟨_, _, rfl⟩ (Nat.le_of_ble_eq_true rfl) trivial H (fun r20 M21 hr H => ?_)
      refine x_icmpeq (tgt := 1016) (zdm d_Law_law_1 16 rfl) (by decide) (fun c => ?_) (fun c => ?_)
      · have H := H.1 c
        obtain ⟨g22, H⟩ := H
        refine x_iinc (zdm d_Law_law_11 10 rfl) (n := 3) rfl g22 (zlt rfl) rfl ?_
        refine x_goto (tgt := 18) (zdm d_Law_law_11 11 rfl) (by decide) ?_
        exact zX.sub [1, 2, 3, 0] rfl H
      · have H := H.2 c
        refine x_iconst (zdm d_Law_law_1 17 rfl) (zIl rfl) ?_
        exact x_ireturn (zdm d_Law_law_1 18 rfl) (ty := .boolean) rfl (by decide) (Or.inl rfl) H
    · skip
      by_cases c1 : (zand (M (-1) l3) 31) = 1
      · refine x_tsw (tgt := 239) (zdm d_Law_law_0 21 rfl) c1 (by decide) rfl (by decide) ?_
        have H := H.2.1 c1
        refine x_aload_n (zdm d_Law_law_1 19 rfl) rfl (n := 1) rfl ?_
        refine x_aload_n (zdm d_Law_law_1 20 rfl) rfl (n := 0) rfl ?_
        refine x_iload_n (zdm d_Law_law_1 21 rfl) rfl (n := 3) rfl ?_
        refine x_iconst (zdm d_Law_law_1 22 rfl) (zIl rfl) ?_
        obtain ⟨g23, H⟩ := H
        refine x_iadd (zdm d_Law_law_1 23 rfl) g23 ?_
        obtain ⟨g24, H⟩ := H
        refine x_sld (zdm d_Law_law_1 24 rfl) g24 ?_
        refine x_callVi (n := 1) (ci := 10) (zdm d_Law_law_1 25 rfl) k_Law_18 (As := [(0, (M (-1) (l3 + 1)))]) rfl rfl rfl ⟨_, _, rfl⟩ (Nat.le_of_ble_eq_true rfl) trivial H (fun r25 M26 hr H => ?_)
        have b27 : r25 = 0 ∨ r25 = 1 := hr
        refine x_aload_n (zdm d_Law_law_1 26 rfl) rfl (n := 2) rfl ?_
        refine x_aload_n (zdm d_Law_law_1 27 rfl) rfl (n := 0) rfl ?_
        refine x_iload_n (zdm d_Law_law_1 28 rfl) rfl (n := 3) rfl ?_
        refine x_iconst (zdm d_Law_law_1 29 rfl) (zIl rfl) ?_
        refine x_iadd (zdm d_Law_law_1 30 rfl) g23 ?_
        obtain ⟨g28, H⟩ := H
        refine x_sld (zdm d_Law_law_1 31 rfl) g28 ?_
        refine x_callVi (n := 1) (ci := 11) (zdm d_Law_law_1 32 rfl) k_Law_22 (As := [(0, (M26 (-1) (l3 + 1)))]) rfl rfl rfl ⟨_, _, rfl⟩ (Nat.le_of_ble_eq_true rfl) trivial H (fun r29 M30 hr H => ?_)
        have b31 : r29 = 0 ∨ r29 = 1 := hr
        refine x_icmpeq (tgt := 1016) (zdm d_Law_law_1 33 rfl) (by decide) (fun c => ?_) (fun c => ?_)
        · have H := H.1 c
          obtain ⟨g32, H⟩ := H
          refine x_iinc (zdm d_Law_law_11 10 rfl) (n := 3) rfl g32 (zlt rfl) rfl ?_
          refine x_goto (tgt := 18) (zdm d_Law_law_11 11 rfl) (by decide) ?_
          exact zX.sub [1, 2, 3, 0] rfl H
        · have H := H.2 c
          refine x_iconst (zdm d_Law_law_1 34 rfl) (zIl rfl) ?_
          exact x_ireturn (zdm d_Law_law_1 35 rfl) (ty := .boolean) rfl (by decide) (Or.inl rfl) H
      · skip
        by_cases c2 : (zand (M (-1) l3) 31) = 2
        · refine x_tsw (tgt := 262) (zdm d_Law_law_0 21 rfl) c2 (by decide) rfl (by decide) ?_
          have H := H.2.2.1 c2
          refine x_aload_n (zdm d_Law_law_1 36 rfl) rfl (n := 1) rfl ?_
          refine x_callVi (n := 0) (ci := 10) (zdm d_Law_law_1 37 rfl) k_Law_23 (As := []) rfl rfl rfl ⟨_, _, rfl⟩ (Nat.le_of_ble_eq_true rfl) trivial H (fun r33 M34 hr H => ?_)
          refine x_aload_n (zdm d_Law_law_1 38 rfl) rfl (n := 2) rfl ?_
          refine x_callVi (n := 0) (ci := 11) (zdm d_Law_law_1 39 rfl) k_Law_27 (As := []) rfl rfl rfl ⟨_, _, rfl⟩ (Nat.le_of_ble_eq_true rfl) trivial H (fun r35 M36 hr H => ?_)
          refine x_icmpeq (tgt := 1016) (zdm d_Law_law_1 40 rfl) (by decide) (fun c => ?_) (fun c => ?_)
          · have H := H.1 c
            obtain ⟨g37, H⟩ := H
            refine x_iinc (zdm d_Law_law_11 10 rfl) (n := 3) rfl g37 (zlt rfl) rfl ?_
            refine x_goto (tgt := 18) (zdm d_Law_law_11 11 rfl) (by decide) ?_
            exact zX.sub [1, 2, 3, 0] rfl H
          · have H := H.2 c
            refine x_iconst (zdm d_Law_law_1 41 rfl) (zIl rfl) ?_
            exact x_ireturn (zdm d_Law_law_1 42 rfl) (ty := .boolean) rfl (by decide) (Or.inl rfl) H
        · skip
          by_cases c3 : (zand (M (-1) l3) 31) = 3
          · refine x_tsw (tgt := 275) (zdm d_Law_law_0 21 rfl) c3 (by decide) rfl (by decide) ?_
            have H := H.2.2.2.1 c3
            refine x_aload_n (zdm d_Law_law_1 43 rfl) rfl (n := 1) rfl ?_
            refine x_aload_n (zdm d_Law_law_1 44 rfl) rfl (n := 0) rfl ?_
            refine x_iload_n (zdm d_Law_law_1 45 rfl) rfl (n := 3) rfl ?_
            refine x_iconst (zdm d_Law_law_1 46 rfl) (zIl rfl) ?_
            obtain ⟨g38, H⟩ := H
            refine x_iadd (zdm d_Law_law_1 47 rfl) g38 ?_
            obtain ⟨g39, H⟩ := H
            refine x_sld (zdm d_Law_law_1 48 rfl) g39 ?_
            refine x_callVi (n := 1) (ci := 10) (zdm d_Law_law_1 49 rfl) k_Law_28 (As := [(0, (M (-1) (l3 + 1)))]) rfl rfl rfl ⟨_, _, rfl⟩ (Nat.le_of_ble_eq_true rfl) trivial H (fun r40 M41 hr H => ?_)
            refine x_aload_n (zdm d_Law_law_1 50 rfl) rfl (n := 2) rfl ?_
            refine x_aload_n (zdm d_Law_law_1 51 rfl) rfl (n := 0) rfl ?_
            refine x_iload_n (zdm d_Law_law_1 52 rfl) rfl (n := 3) rfl ?_
            refine x_iconst (zdm d_Law_law_1 53 rfl) (zIl rfl) ?_
            refine x_iadd (zdm d_Law_law_1 54 rfl) g38 ?_
            obtain ⟨g42, H⟩ := H
            refine x_sld (zdm d_Law_law_1 55 rfl) g42 ?_
            refine x_callVi (n := 1) (ci := 11) (zdm d_Law_law_1 56 rfl) k_Law_32 (As := [(0, (M41 (-1) (l3 + 1)))]) rfl rfl rfl ⟨_, _, rfl⟩ (Nat.le_of_ble_eq_true rfl) trivial H (fun r43 M44 hr H => ?_)
            refine x_icmpeq (tgt := 1016) (zdm d_Law_law_1 57 rfl) (by decide) (fun c => ?_) (fun c => ?_)
            · have H := H.1 c
              obtain ⟨g45, H⟩ := H
              refine x_iinc (zdm d_Law_law_11 10 rfl) (n := 3) rfl g45 (zlt rfl) rfl ?_
              refine x_goto (tgt := 18) (zdm d_Law_law_11 11 rfl) (by decide) ?_
              exact zX.sub [1, 2, 3, 0] rfl H
            · have H := H.2 c
              refine x_iconst (zdm d_Law_law_1 58 rfl) (zIl rfl) ?_
              exact x_ireturn (zdm d_Law_law_1 59 rfl) (ty := .boolean) rfl (by decide) (Or.inl rfl) H
          · skip
            by_cases c4 : (zand (M (-1) l3) 31) = 4
            · refine x_tsw (tgt := 298) (zdm d_Law_law_0 21 rfl) c4 (by decide) rfl (by decide) ?_
              have H := H.2.2.2.2.1 c4
              refine x_aload_n (zdm d_Law_law_2 0 rfl) rfl (n := 1) rfl ?_
              refine x_aload_n (zdm d_Law_law_2 1 rfl) rfl (n := 0) rfl ?_
              refine x_iload_n (zdm d_Law_law_2 2 rfl) rfl (n := 3) rfl ?_
              refine x_iconst (zdm d_Law_law_2 3 rfl) (zIl rfl) ?_
              obtain ⟨g46, H⟩ := H
              refine x_iadd (zdm d_Law_law_2 4 rfl) g46 ?_
              obtain ⟨g47, H⟩ := H
              refine x_sld (zdm d_Law_law_2 5 rfl) g47 ?_
              refine x_callVi (n := 1) (ci := 10) (zdm d_Law_law_2 6 rfl) k_Law_33 (As := [(0, (M (-1) (l3 + 1)))]) rfl rfl rfl ⟨_, _, rfl⟩ (Nat.le_of_ble_eq_true rfl) trivial H (fun r48 M49 hr H => ?_)
              refine x_aload_n (zdm d_Law_law_2 7 rfl) rfl (n := 2) rfl ?_
              refine x_aload_n (zdm d_Law_law_2 8 rfl) rfl (n := 0) rfl ?_
              refine x_iload_n (zdm d_Law_law_2 9 rfl) rfl (n := 3) rfl ?_
              refine x_iconst (zdm d_Law_law_2 10 rfl) (zIl rfl) ?_
              refine x_iadd (zdm d_Law_law_2 11 rfl) g46 ?_
              obtain ⟨g50, H⟩ := H
              refine x_sld (zdm d_Law_law_2 12 rfl) g50 ?_
              refine x_callVi (n := 1) (ci := 11) (zdm d_Law_law_2 13 rfl) k_Law_36 (As := [(0, (M49 (-1) (l3 + 1)))]) rfl rfl rfl ⟨_, _, rfl⟩ (Nat.le_of_ble_eq_true rfl) trivial H (fun r51 M52 hr H => ?_)
              refine x_icmpeq (tgt := 1016) (zdm d_Law_law_2 14 rfl) (by decide) (fun c => ?_) (fun c => ?_)
              · have H := H.1 c
                obtain ⟨g53, H⟩ := H
                refine x_iinc (zdm d_Law_law_11 10 rfl) (n := 3) rfl g53 (zlt rfl) rfl ?_
                refine x_goto (tgt := 18) (zdm d_Law_law_11 11 rfl) (by decide) ?_
                exact zX.sub [1, 2, 3, 0] rfl H
              · have H := H.2 c
                refine x_iconst (zdm d_Law_law_2 15 rfl) (zIl rfl) ?_
                exact x_ireturn (zdm d_Law_law_2 16 rfl) (ty := .boolean) rfl (by decide) (Or.inl rfl) H
            · skip
              by_cases c5 : (zand (M (-1) l3) 31) = 5
              · refine x_tsw (tgt := 321) (zdm d_Law_law_0 21 rfl) c5 (by decide) rfl (by decide) ?_
                have H := H.2.2.2.2.2.1 c5
                refine x_aload_n (zdm d_Law_law_2 17 rfl) rfl (n := 1) rfl ?_
                refine x_aload_n (zdm d_Law_law_2 18 rfl) rfl (n := 0) rfl ?_
                refine x_iload_n (zdm d_Law_law_2 19 rfl) rfl (n := 3) rfl ?_
                refine x_iconst (zdm d_Law_law_2 20 rfl) (zIl rfl) ?_
                obtain ⟨g54, H⟩ := H
                refine x_iadd (zdm d_Law_law_2 21 rfl) g54 ?_
                obtain ⟨g55, H⟩ := H
                refine x_sld (zdm d_Law_law_2 22 rfl) g55 ?_
                refine x_aload_n (zdm d_Law_law_2 23 rfl) rfl (n := 0) rfl ?_
                refine x_iload_n (zdm d_Law_law_2 24 rfl) rfl (n := 3) rfl ?_
                refine x_iconst (zdm d_Law_law_2 25 rfl) (zIl rfl) ?_
                obtain ⟨g56, H⟩ := H
                refine x_iadd (zdm d_Law_law_2 26 rfl) g56 ?_
                obtain ⟨g57, H⟩ := H
                refine x_sld (zdm d_Law_law_2 27 rfl) g57 ?_
                refine x_callVi (n := 2) (ci := 10) (zdm d_Law_law_2 28 rfl) k_Law_37 (As := [(0, (M (-1) (l3 + 1))), (0, (M (-1) (l3 + 2)))]) rfl rfl rfl ⟨_, _, rfl⟩ (Nat.le_of_ble_eq_true rfl) trivial H (fun r58 M59 hr H => ?_)
                refine x_aload_n (zdm d_Law_law_2 29 rfl) rfl (n := 2) rfl ?_
                refine x_aload_n (zdm d_Law_law_2 30 rfl) rfl (n := 0) rfl ?_
                refine x_iload_n (zdm d_Law_law_2 31 rfl) rfl (n := 3) rfl ?_
                refine x_iconst (zdm d_Law_law_2 32 rfl) (zIl rfl) ?_
                refine x_iadd (zdm d_Law_law_2 33 rfl) g54 ?_
                obtain ⟨g60, H⟩ := H
                refine x_sld (zdm d_Law_law_2 34 rfl) g60 ?_
                refine x_aload_n (zdm d_Law_law_2 35 rfl) rfl (n := 0) rfl ?_
                refine x_iload_n (zdm d_Law_law_2 36 rfl) rfl (n := 3) rfl ?_
                refine x_iconst (zdm d_Law_law_2 37 rfl) (zIl rfl) ?_
                refine x_iadd (zdm d_Law_law_2 38 rfl) g56 ?_
                obtain ⟨g61, H⟩ := H
                refine x_sld (zdm d_Law_law_2 39 rfl) g61 ?_
                refine x_callVi (n := 2) (ci := 11) (zdm d_Law_law_2 40 rfl) k_Law_41 (As := [(0, (M59 (-1) (l3 + 1))), (0, (M59 (-1) (l3 + 2)))]) rfl rfl rfl ⟨_, _, rfl⟩ (Nat.le_of_ble_eq_true rfl) trivial H (fun r62 M63 hr H => ?_)
                refine x_icmpeq (tgt := 1016) (zdm d_Law_law_2 41 rfl) (by decide) (fun c => ?_) (fun c => ?_)
                · have H := H.1 c
                  obtain ⟨g64, H⟩ := H
                  refine x_iinc (zdm d_Law_law_11 10 rfl) (n := 3) rfl g64 (zlt rfl) rfl ?_
                  refine x_goto (tgt := 18) (zdm d_Law_law_11 11 rfl) (by decide) ?_
                  exact zX.sub [1, 2, 3, 0] rfl H
                · have H := H.2 c
                  refine x_iconst (zdm d_Law_law_2 42 rfl) (zIl rfl) ?_
                  exact x_ireturn (zdm d_Law_law_2 43 rfl) (ty := .boolean) rfl (by decide) (Or.inl rfl) H
              · skip
                by_cases c6 : (zand (M (-1) l3) 31) = 6
                · refine x_tsw (tgt := 354) (zdm d_Law_law_0 21 rfl) c6 (by decide) rfl (by decide) ?_
                  have H := H.2.2.2.2.2.2.1 c6
                  refine x_aload_n (zdm d_Law_law_2 44 rfl) rfl (n := 1) rfl ?_
                  refine x_aload_n (zdm d_Law_law_2 45 rfl) rfl (n := 0) rfl ?_
                  refine x_iload_n (zdm d_Law_law_2 46 rfl) rfl (n := 3) rfl ?_
                  refine x_iconst (zdm d_Law_law_2 47 rfl) (zIl rfl) ?_
                  obtain ⟨g65, H⟩ := H
                  refine x_iadd (zdm d_Law_law_2 48 rfl) g65 ?_
                  obtain ⟨g66, H⟩ := H
                  refine x_sld (zdm d_Law_law_2 49 rfl) g66 ?_
                  refine x_aload_n (zdm d_Law_law_2 50 rfl) rfl (n := 0) rfl ?_
                  refine x_iload_n (zdm d_Law_law_2 51 rfl) rfl (n := 3) rfl ?_
                  refine x_iconst (zdm d_Law_law_2 52 rfl) (zIl rfl) ?_
                  obtain ⟨g67, H⟩ := H
                  refine x_iadd (zdm d_Law_law_2 53 rfl) g67 ?_
                  obtain ⟨g68, H⟩ := H
                  refine x_sld (zdm d_Law_law_2 54 rfl) g68 ?_
                  refine x_callVi (n := 2) (ci := 10) (zdm d_Law_law_2 55 rfl) k_Law_42 (As := [(0, (M (-1) (l3 + 1))), (0, (M (-1) (l3 + 2)))]) rfl rfl rfl ⟨_, _, rfl⟩ (Nat.le_of_ble_eq_true rfl) trivial H (fun r69 M70 hr H => ?_)
                  refine x_aload_n (zdm d_Law_law_2 56 rfl) rfl (n := 2) rfl ?_
                  refine x_aload_n (zdm d_Law_law_2 57 rfl) rfl (n := 0) rfl ?_
                  refine x_iload_n (zdm d_Law_law_2 58 rfl) rfl (n := 3) rfl ?_
                  refine x_iconst (zdm d_Law_law_2 59 rfl) (zIl rfl) ?_
                  refine x_iadd (zdm d_Law_law_3 0 rfl) g65 ?_
                  obtain ⟨g71, H⟩ := H
                  refine x_sld (zdm d_Law_law_3 1 rfl) g71 ?_
                  refine x_aload_n (zdm d_Law_law_3 2 rfl) rfl (n := 0) rfl ?_
                  refine x_iload_n (zdm d_Law_law_3 3 rfl) rfl (n := 3) rfl ?_
                  refine x_iconst (zdm d_Law_law_3 4 rfl) (zIl rfl) ?_
                  refine x_iadd (zdm d_Law_law_3 5 rfl) g67 ?_
                  obtain ⟨g72, H⟩ := H
                  refine x_sld (zdm d_Law_law_3 6 rfl) g72 ?_
                  refine x_callVi (n := 2) (ci := 11) (zdm d_Law_law_3 7 rfl) k_Law_45 (As := [(0, (M70 (-1) (l3 + 1))), (0, (M70 (-1) (l3 + 2)))]) rfl rfl rfl ⟨_, _, rfl⟩ (Nat.le_of_ble_eq_true rfl) trivial H (fun r73 M74 hr H => ?_)
                  refine x_icmpeq (tgt := 1016) (zdm d_Law_law_3 8 rfl) (by decide) (fun c => ?_) (fun c => ?_)
                  · have H := H.1 c
                    obtain ⟨g75, H⟩ := H
                    refine x_iinc (zdm d_Law_law_11 10 rfl) (n := 3) rfl g75 (zlt rfl) rfl ?_
                    refine x_goto (tgt := 18) (zdm d_Law_law_11 11 rfl) (by decide) ?_
                    exact zX.sub [1, 2, 3, 0] rfl H
                  · have H := H.2 c
                    refine x_iconst (zdm d_Law_law_3 9 rfl) (zIl rfl) ?_
                    exact x_ireturn (zdm d_Law_law_3 10 rfl) (ty := .boolean) rfl (by decide) (Or.inl rfl) H
                · skip
                  by_cases c7 : (zand (M (-1) l3) 31) = 7
                  · refine x_tsw (tgt := 387) (zdm d_Law_law_0 21 rfl) c7 (by decide) rfl (by decide) ?_
                    have H := H.2.2.2.2.2.2.2.1 c7
                    refine x_aload_n (zdm d_Law_law_3 11 rfl) rfl (n := 1) rfl ?_
                    refine x_aload_n (zdm d_Law_law_3 12 rfl) rfl (n := 0) rfl ?_
                    refine x_iload_n (zdm d_Law_law_3 13 rfl) rfl (n := 3) rfl ?_
                    refine x_iconst (zdm d_Law_law_3 14 rfl) (zIl rfl) ?_
                    obtain ⟨g76, H⟩ := H
                    refine x_iadd (zdm d_Law_law_3 15 rfl) g76 ?_
                    obtain ⟨g77, H⟩ := H
                    refine x_sld (zdm d_Law_law_3 16 rfl) g77 ?_
                    refine x_aload_n (zdm d_Law_law_3 17 rfl) rfl (n := 0) rfl ?_
                    refine x_iload_n (zdm d_Law_law_3 18 rfl) rfl (n := 3) rfl ?_
                    refine x_iconst (zdm d_Law_law_3 19 rfl) (zIl rfl) ?_
                    obtain ⟨g78, H⟩ := H
                    refine x_iadd (zdm d_Law_law_3 20 rfl) g78 ?_
                    obtain ⟨g79, H⟩ := H
                    refine x_sld (zdm d_Law_law_3 21 rfl) g79 ?_
                    refine x_callVl (n := 2) (ci := 10) (zdm d_Law_law_3 22 rfl) k_Law_46 (As := [(0, (M (-1) (l3 + 1))), (0, (M (-1) (l3 + 2)))]) rfl rfl rfl ⟨_, _, rfl⟩ (Nat.le_of_ble_eq_true rfl) rfl H (fun r80 M81 hr H => ?_)
                    refine x_aload_n (zdm d_Law_law_3 23 rfl) rfl (n := 2) rfl ?_
                    refine x_aload_n (zdm d_Law_law_3 24 rfl) rfl (n := 0) rfl ?_
                    refine x_iload_n (zdm d_Law_law_3 25 rfl) rfl (n := 3) rfl ?_
                    refine x_iconst (zdm d_Law_law_3 26 rfl) (zIl rfl) ?_
                    refine x_iadd (zdm d_Law_law_3 27 rfl) g76 ?_
                    obtain ⟨g82, H⟩ := H
                    refine x_sld (zdm d_Law_law_3 28 rfl) g82 ?_
                    refine x_aload_n (zdm d_Law_law_3 29 rfl) rfl (n := 0) rfl ?_
                    refine x_iload_n (zdm d_Law_law_3 30 rfl) rfl (n := 3) rfl ?_
                    refine x_iconst (zdm d_Law_law_3 31 rfl) (zIl rfl) ?_
                    refine x_iadd (zdm d_Law_law_3 32 rfl) g78 ?_
                    obtain ⟨g83, H⟩ := H
                    refine x_sld (zdm d_Law_law_3 33 rfl) g83 ?_
                    refine x_callVl (n := 2) (ci := 11) (zdm d_Law_law_3 34 rfl) k_Law_50 (As := [(0, (M81 (-1) (l3 + 1))), (0, (M81 (-1) (l3 + 2)))]) rfl rfl rfl ⟨_, _, rfl⟩ (Nat.le_of_ble_eq_true rfl) rfl H (fun r84 M85 hr H => ?_)
                    refine x_lcmp_eq (tgt := 1016) (zdm d_Law_law_3 35 rfl) (zdm d_Law_law_3 36 rfl) (by decide) (fun c => ?_) (fun c => ?_)
                    · have H := H.1 c
                      obtain ⟨g86, H⟩ := H
                      refine x_iinc (zdm d_Law_law_11 10 rfl) (n := 3) rfl g86 (zlt rfl) rfl ?_
                      refine x_goto (tgt := 18) (zdm d_Law_law_11 11 rfl) (by decide) ?_
                      exact zX.sub [1, 2, 3, 0] rfl H
                    · have H := H.2 c
                      refine x_iconst (zdm d_Law_law_3 37 rfl) (zIl rfl) ?_
                      exact x_ireturn (zdm d_Law_law_3 38 rfl) (ty := .boolean) rfl (by decide) (Or.inl rfl) H
                  · skip
                    by_cases c8 : (zand (M (-1) l3) 31) = 8
                    · refine x_tsw (tgt := 421) (zdm d_Law_law_0 21 rfl) c8 (by decide) rfl (by decide) ?_
                      have H := H.2.2.2.2.2.2.2.2.1 c8
                      refine x_aload_n (zdm d_Law_law_3 39 rfl) rfl (n := 1) rfl ?_
                      refine x_aload_n (zdm d_Law_law_3 40 rfl) rfl (n := 0) rfl ?_
                      refine x_iload_n (zdm d_Law_law_3 41 rfl) rfl (n := 3) rfl ?_
                      refine x_iconst (zdm d_Law_law_3 42 rfl) (zIl rfl) ?_
                      obtain ⟨g87, H⟩ := H
                      refine x_iadd (zdm d_Law_law_3 43 rfl) g87 ?_
                      obtain ⟨g88, H⟩ := H
                      refine x_sld (zdm d_Law_law_3 44 rfl) g88 ?_
                      refine x_aload_n (zdm d_Law_law_3 45 rfl) rfl (n := 0) rfl ?_
                      refine x_iload_n (zdm d_Law_law_3 46 rfl) rfl (n := 3) rfl ?_
                      refine x_iconst (zdm d_Law_law_3 47 rfl) (zIl rfl) ?_
                      obtain ⟨g89, H⟩ := H
                      refine x_iadd (zdm d_Law_law_3 48 rfl) g89 ?_
                      obtain ⟨g90, H⟩ := H
                      refine x_sld (zdm d_Law_law_3 49 rfl) g90 ?_
                      refine x_callVi (n := 2) (ci := 10) (zdm d_Law_law_3 50 rfl) k_Law_51 (As := [(0, (M (-1) (l3 + 1))), (0, (M (-1) (l3 + 2)))]) rfl rfl rfl ⟨_, _, rfl⟩ (Nat.le_of_ble_eq_true rfl) trivial H (fun r91 M92 hr H => ?_)
                      refine x_aload_n (zdm d_Law_law_3 51 rfl) rfl (n := 2) rfl ?_
                      refine x_aload_n (zdm d_Law_law_3 52 rfl) rfl (n := 0) rfl ?_
                      refine x_iload_n (zdm d_Law_law_3 53 rfl) rfl (n := 3) rfl ?_
                      refine x_iconst (zdm d_Law_law_3 54 rfl) (zIl rfl) ?_
                      refine x_iadd (zdm d_Law_law_3 55 rfl) g87 ?_
                      obtain ⟨g93, H⟩ := H
                      refine x_sld (zdm d_Law_law_3 56 rfl) g93 ?_
                      refine x_aload_n (zdm d_Law_law_3 57 rfl) rfl (n := 0) rfl ?_
                      refine x_iload_n (zdm d_Law_law_3 58 rfl) rfl (n := 3) rfl ?_
                      refine x_iconst (zdm d_Law_law_3 59 rfl) (zIl rfl) ?_
                      refine x_iadd (zdm d_Law_law_4 0 rfl) g89 ?_
                      obtain ⟨g94, H⟩ := H
                      refine x_sld (zdm d_Law_law_4 1 rfl) g94 ?_
                      refine x_callVi (n := 2) (ci := 11) (zdm d_Law_law_4 2 rfl) k_Law_54 (As := [(0, (M92 (-1) (l3 + 1))), (0, (M92 (-1) (l3 + 2)))]) rfl rfl rfl ⟨_, _, rfl⟩ (Nat.le_of_ble_eq_true rfl) trivial H (fun r95 M96 hr H => ?_)
                      refine x_icmpeq (tgt := 1016) (zdm d_Law_law_4 3 rfl) (by decide) (fun c => ?_) (fun c => ?_)
                      · have H := H.1 c
                        obtain ⟨g97, H⟩ := H
                        refine x_iinc (zdm d_Law_law_11 10 rfl) (n := 3) rfl g97 (zlt rfl) rfl ?_
                        refine x_goto (tgt := 18) (zdm d_Law_law_11 11 rfl) (by decide) ?_
                        exact zX.sub [1, 2, 3, 0] rfl H
                      · have H := H.2 c
                        refine x_iconst (zdm d_Law_law_4 4 rfl) (zIl rfl) ?_
                        exact x_ireturn (zdm d_Law_law_4 5 rfl) (ty := .boolean) rfl (by decide) (Or.inl rfl) H
                    · skip
                      by_cases c9 : (zand (M (-1) l3) 31) = 9
                      · refine x_tsw (tgt := 454) (zdm d_Law_law_0 21 rfl) c9 (by decide) rfl (by decide) ?_
                        have H := H.2.2.2.2.2.2.2.2.2.1 c9
                        refine x_aload_n (zdm d_Law_law_4 6 rfl) rfl (n := 1) rfl ?_
                        refine x_aload_n (zdm d_Law_law_4 7 rfl) rfl (n := 0) rfl ?_
                        refine x_iload_n (zdm d_Law_law_4 8 rfl) rfl (n := 3) rfl ?_
                        refine x_iconst (zdm d_Law_law_4 9 rfl) (zIl rfl) ?_
                        obtain ⟨g98, H⟩ := H
                        refine x_iadd (zdm d_Law_law_4 10 rfl) g98 ?_
                        obtain ⟨g99, H⟩ := H
                        refine x_sld (zdm d_Law_law_4 11 rfl) g99 ?_
                        refine x_aload_n (zdm d_Law_law_4 12 rfl) rfl (n := 0) rfl ?_
                        refine x_iload_n (zdm d_Law_law_4 13 rfl) rfl (n := 3) rfl ?_
                        refine x_iconst (zdm d_Law_law_4 14 rfl) (zIl rfl) ?_
                        obtain ⟨g100, H⟩ := H
                        refine x_iadd (zdm d_Law_law_4 15 rfl) g100 ?_
                        obtain ⟨g101, H⟩ := H
                        refine x_sld (zdm d_Law_law_4 16 rfl) g101 ?_
                        refine x_callVl (n := 2) (ci := 10) (zdm d_Law_law_4 17 rfl) k_Law_55 (As := [(0, (M (-1) (l3 + 1))), (0, (M (-1) (l3 + 2)))]) rfl rfl rfl ⟨_, _, rfl⟩ (Nat.le_of_ble_eq_true rfl) rfl H (fun r102 M103 hr H => ?_)
                        refine x_aload_n (zdm d_Law_law_4 18 rfl) rfl (n := 2) rfl ?_
                        refine x_aload_n (zdm d_Law_law_4 19 rfl) rfl (n := 0) rfl ?_
                        refine x_iload_n (zdm d_Law_law_4 20 rfl) rfl (n := 3) rfl ?_
                        refine x_iconst (zdm d_Law_law_4 21 rfl) (zIl rfl) ?_
                        refine x_iadd (zdm d_Law_law_4 22 rfl) g98 ?_
                        obtain ⟨g104, H⟩ := H
                        refine x_sld (zdm d_Law_law_4 23 rfl) g104 ?_
                        refine x_aload_n (zdm d_Law_law_4 24 rfl) rfl (n := 0) rfl ?_
                        refine x_iload_n (zdm d_Law_law_4 25 rfl) rfl (n := 3) rfl ?_
                        refine x_iconst (zdm d_Law_law_4 26 rfl) (zIl rfl) ?_
                        refine x_iadd (zdm d_Law_law_4 27 rfl) g100 ?_
                        obtain ⟨g105, H⟩ := H
                        refine x_sld (zdm d_Law_law_4 28 rfl) g105 ?_
                        refine x_callVl (n := 2) (ci := 11) (zdm d_Law_law_4 29 rfl) k_Law_58 (As := [(0, (M103 (-1) (l3 + 1))), (0, (M103 (-1) (l3 + 2)))]) rfl rfl rfl ⟨_, _, rfl⟩ (Nat.le_of_ble_eq_true rfl) rfl H (fun r106 M107 hr H => ?_)
                        refine x_lcmp_eq (tgt := 1016) (zdm d_Law_law_4 30 rfl) (zdm d_Law_law_4 31 rfl) (by decide) (fun c => ?_) (fun c => ?_)
                        · have H := H.1 c
                          obtain ⟨g108, H⟩ := H
                          refine x_iinc (zdm d_Law_law_11 10 rfl) (n := 3) rfl g108 (zlt rfl) rfl ?_
                          refine x_goto (tgt := 18) (zdm d_Law_law_11 11 rfl) (by decide) ?_
                          exact zX.sub [1, 2, 3, 0] rfl H
                        · have H := H.2 c
                          refine x_iconst (zdm d_Law_law_4 32 rfl) (zIl rfl) ?_
                          exact x_ireturn (zdm d_Law_law_4 33 rfl) (ty := .boolean) rfl (by decide) (Or.inl rfl) H
                      · skip
                        by_cases c10 : (zand (M (-1) l3) 31) = 10
                        · refine x_tsw (tgt := 488) (zdm d_Law_law_0 21 rfl) c10 (by decide) rfl (by decide) ?_
                          have H := H.2.2.2.2.2.2.2.2.2.2.1 c10
                          refine x_aload_n (zdm d_Law_law_4 34 rfl) rfl (n := 1) rfl ?_
                          refine x_aload_n (zdm d_Law_law_4 35 rfl) rfl (n := 0) rfl ?_
                          refine x_iload_n (zdm d_Law_law_4 36 rfl) rfl (n := 3) rfl ?_
                          refine x_iconst (zdm d_Law_law_4 37 rfl) (zIl rfl) ?_
                          obtain ⟨g109, H⟩ := H
                          refine x_iadd (zdm d_Law_law_4 38 rfl) g109 ?_
                          obtain ⟨g110, H⟩ := H
                          refine x_sld (zdm d_Law_law_4 39 rfl) g110 ?_
                          refine x_aload_n (zdm d_Law_law_4 40 rfl) rfl (n := 0) rfl ?_
                          refine x_iload_n (zdm d_Law_law_4 41 rfl) rfl (n := 3) rfl ?_
                          refine x_iconst (zdm d_Law_law_4 42 rfl) (zIl rfl) ?_
                          obtain ⟨g111, H⟩ := H
                          refine x_iadd (zdm d_Law_law_4 43 rfl) g111 ?_
                          obtain ⟨g112, H⟩ := H
                          refine x_sld (zdm d_Law_law_4 44 rfl) g112 ?_
                          refine x_aload_n (zdm d_Law_law_4 45 rfl) rfl (n := 0) rfl ?_
                          refine x_iload_n (zdm d_Law_law_4 46 rfl) rfl (n := 3) rfl ?_
                          refine x_iconst (zdm d_Law_law_4 47 rfl) (zIl rfl) ?_
                          obtain ⟨g113, H⟩ := H
                          refine x_iadd (zdm d_Law_law_4 48 rfl) g113 ?_
                          obtain ⟨g114, H⟩ := H
                          refine x_sld (zdm d_Law_law_4 49 rfl) g114 ?_
                          refine x_callVl (n := 3) (ci := 10) (zdm d_Law_law_4 50 rfl) k_Law_59 (As := [(0, (M (-1) (l3 + 1))), (0, (M (-1) (l3 + 2))), (0, (M (-1) (l3 + 3)))]) rfl rfl rfl ⟨_, _, rfl⟩ (Nat.le_of_ble_eq_true rfl) rfl H (fun r115 M116 hr H => ?_)
                          refine x_aload_n (zdm d_Law_law_4 51 rfl) rfl (n := 2) rfl ?_
                          refine x_aload_n (zdm d_Law_law_4 52 rfl) rfl (n := 0) rfl ?_
                          refine x_iload_n (zdm d_Law_law_4 53 rfl) rfl (n := 3) rfl ?_
                          refine x_iconst (zdm d_Law_law_4 54 rfl) (zIl rfl) ?_
                          refine x_iadd (zdm d_Law_law_4 55 rfl) g109 ?_
                          obtain ⟨g117, H⟩ := H
                          refine x_sld (zdm d_Law_law_4 56 rfl) g117 ?_
                          refine x_aload_n (zdm d_Law_law_4 57 rfl) rfl (n := 0) rfl ?_
                          refine x_iload_n (zdm d_Law_law_4 58 rfl) rfl (n := 3) rfl ?_
                          refine x_iconst (zdm d_Law_law_4 59 rfl) (zIl rfl) ?_
                          refine x_iadd (zdm d_Law_law_5 0 rfl) g111 ?_
                          obtain ⟨g118, H⟩ := H
                          refine x_sld (zdm d_Law_law_5 1 rfl) g118 ?_
                          refine x_aload_n (zdm d_Law_law_5 2 rfl) rfl (n := 0) rfl ?_
                          refine x_iload_n (zdm d_Law_law_5 3 rfl) rfl (n := 3) rfl ?_
                          refine x_iconst (zdm d_Law_law_5 4 rfl) (zIl rfl) ?_
                          refine x_iadd (zdm d_Law_law_5 5 rfl) g113 ?_
                          obtain ⟨g119, H⟩ := H
                          refine x_sld (zdm d_Law_law_5 6 rfl) g119 ?_
                          refine x_callVl (n := 3) (ci := 11) (zdm d_Law_law_5 7 rfl) k_Law_63 (As := [(0, (M116 (-1) (l3 + 1))), (0, (M116 (-1) (l3 + 2))), (0, (M116 (-1) (l3 + 3)))]) rfl rfl rfl ⟨_, _, rfl⟩ (Nat.le_of_ble_eq_true rfl) rfl H (fun r120 M121 hr H => ?_)
                          refine x_lcmp_eq (tgt := 1016) (zdm d_Law_law_5 8 rfl) (zdm d_Law_law_5 9 rfl) (by decide) (fun c => ?_) (fun c => ?_)
                          · have H := H.1 c
                            obtain ⟨g122, H⟩ := H
                            refine x_iinc (zdm d_Law_law_11 10 rfl) (n := 3) rfl g122 (zlt rfl) rfl ?_
                            refine x_goto (tgt := 18) (zdm d_Law_law_11 11 rfl) (by decide) ?_
                            exact zX.sub [1, 2, 3, 0] rfl H
                          · have H := H.2 c
                            refine x_iconst (zdm d_Law_law_5 10 rfl) (zIl rfl) ?_
                            exact x_ireturn (zdm d_Law_law_5 11 rfl) (ty := .boolean) rfl (by decide) (Or.inl rfl) H
                        · skip
                          by_cases c11 : (zand (M (-1) l3) 31) = 11
                          · refine x_tsw (tgt := 532) (zdm d_Law_law_0 21 rfl) c11 (by decide) rfl (by decide) ?_
                            have H := H.2.2.2.2.2.2.2.2.2.2.2.1 c11
                            refine x_aload_n (zdm d_Law_law_5 12 rfl) rfl (n := 1) rfl ?_
                            refine x_aload_n (zdm d_Law_law_5 13 rfl) rfl (n := 0) rfl ?_
                            refine x_iload_n (zdm d_Law_law_5 14 rfl) rfl (n := 3) rfl ?_
                            refine x_iconst (zdm d_Law_law_5 15 rfl) (zIl rfl) ?_
                            obtain ⟨g123, H⟩ := H
                            refine x_iadd (zdm d_Law_law_5 16 rfl) g123 ?_
                            obtain ⟨g124, H⟩ := H
                            refine x_sld (zdm d_Law_law_5 17 rfl) g124 ?_
                            refine x_callVi (n := 1) (ci := 10) (zdm d_Law_law_5 18 rfl) k_Law_64 (As := [(0, (M (-1) (l3 + 1)))]) rfl rfl rfl ⟨_, _, rfl⟩ (Nat.le_of_ble_eq_true rfl) trivial H (fun r125 M126 hr H => ?_)
                            refine x_aload_n (zdm d_Law_law_5 19 rfl) rfl (n := 2) rfl ?_
                            refine x_aload_n (zdm d_Law_law_5 20 rfl) rfl (n := 0) rfl ?_
                            refine x_iload_n (zdm d_Law_law_5 21 rfl) rfl (n := 3) rfl ?_
                            refine x_iconst (zdm d_Law_law_5 22 rfl) (zIl rfl) ?_
                            refine x_iadd (zdm d_Law_law_5 23 rfl) g123 ?_
                            obtain ⟨g127, H⟩ := H
                            refine x_sld (zdm d_Law_law_5 24 rfl) g127 ?_
                            refine x_callVi (n := 1) (ci := 11) (zdm d_Law_law_5 25 rfl) k_Law_67 (As := [(0, (M126 (-1) (l3 + 1)))]) rfl rfl rfl ⟨_, _, rfl⟩ (Nat.le_of_ble_eq_true rfl) trivial H (fun r128 M129 hr H => ?_)
                            refine x_icmpeq (tgt := 1016) (zdm d_Law_law_5 26 rfl) (by decide) (fun c => ?_) (fun c => ?_)
                            · have H := H.1 c
                              obtain ⟨g130, H⟩ := H
                              refine x_iinc (zdm d_Law_law_11 10 rfl) (n := 3) rfl g130 (zlt rfl) rfl ?_
                              refine x_goto (tgt := 18) (zdm d_Law_law_11 11 rfl) (by decide) ?_
                              exact zX.sub [1, 2, 3, 0] rfl H
                            · have H := H.2 c
                              refine x_iconst (zdm d_Law_law_5 27 rfl) (zIl rfl) ?_
                              exact x_ireturn (zdm d_Law_law_5 28 rfl) (ty := .boolean) rfl (by decide) (Or.inl rfl) H
                          · skip
                            by_cases c12 : (zand (M (-1) l3) 31) = 12
                            · refine x_tsw (tgt := 555) (zdm d_Law_law_0 21 rfl) c12 (by decide) rfl (by decide) ?_
                              have H := H.2.2.2.2.2.2.2.2.2.2.2.2.1 c12
                              refine x_aload_n (zdm d_Law_law_5 29 rfl) rfl (n := 1) rfl ?_
                              refine x_aload_n (zdm d_Law_law_5 30 rfl) rfl (n := 0) rfl ?_
                              refine x_iload_n (zdm d_Law_law_5 31 rfl) rfl (n := 3) rfl ?_
                              refine x_iconst (zdm d_Law_law_5 32 rfl) (zIl rfl) ?_
                              obtain ⟨g131, H⟩ := H
                              refine x_iadd (zdm d_Law_law_5 33 rfl) g131 ?_
                              obtain ⟨g132, H⟩ := H
                              refine x_sld (zdm d_Law_law_5 34 rfl) g132 ?_
                              refine x_aload_n (zdm d_Law_law_5 35 rfl) rfl (n := 0) rfl ?_
                              refine x_iload_n (zdm d_Law_law_5 36 rfl) rfl (n := 3) rfl ?_
                              refine x_iconst (zdm d_Law_law_5 37 rfl) (zIl rfl) ?_
                              obtain ⟨g133, H⟩ := H
                              refine x_iadd (zdm d_Law_law_5 38 rfl) g133 ?_
                              obtain ⟨g134, H⟩ := H
                              refine x_sld (zdm d_Law_law_5 39 rfl) g134 ?_
                              refine x_callVi (n := 2) (ci := 10) (zdm d_Law_law_5 40 rfl) k_Law_68 (As := [(0, (M (-1) (l3 + 1))), (0, (M (-1) (l3 + 2)))]) rfl rfl rfl ⟨_, _, rfl⟩ (Nat.le_of_ble_eq_true rfl) trivial H (fun r135 M136 hr H => ?_)
                              refine x_aload_n (zdm d_Law_law_5 41 rfl) rfl (n := 2) rfl ?_
                              refine x_aload_n (zdm d_Law_law_5 42 rfl) rfl (n := 0) rfl ?_
                              refine x_iload_n (zdm d_Law_law_5 43 rfl) rfl (n := 3) rfl ?_
                              refine x_iconst (zdm d_Law_law_5 44 rfl) (zIl rfl) ?_
                              refine x_iadd (zdm d_Law_law_5 45 rfl) g131 ?_
                              obtain ⟨g137, H⟩ := H
                              refine x_sld (zdm d_Law_law_5 46 rfl) g137 ?_
                              refine x_aload_n (zdm d_Law_law_5 47 rfl) rfl (n := 0) rfl ?_
                              refine x_iload_n (zdm d_Law_law_5 48 rfl) rfl (n := 3) rfl ?_
                              refine x_iconst (zdm d_Law_law_5 49 rfl) (zIl rfl) ?_
                              refine x_iadd (zdm d_Law_law_5 50 rfl) g133 ?_
                              obtain ⟨g138, H⟩ := H
                              refine x_sld (zdm d_Law_law_5 51 rfl) g138 ?_
                              refine x_callVi (n := 2) (ci := 11) (zdm d_Law_law_5 52 rfl) k_Law_71 (As := [(0, (M136 (-1) (l3 + 1))), (0, (M136 (-1) (l3 + 2)))]) rfl rfl rfl ⟨_, _, rfl⟩ (Nat.le_of_ble_eq_true rfl) trivial H (fun r139 M140 hr H => ?_)
                              refine x_icmpeq (tgt := 1016) (zdm d_Law_law_5 53 rfl) (by decide) (fun c => ?_) (fun c => ?_)
                              · have H := H.1 c
                                obtain ⟨g141, H⟩ := H
                                refine x_iinc (zdm d_Law_law_11 10 rfl) (n := 3) rfl g141 (zlt rfl) rfl ?_
                                refine x_goto (tgt := 18) (zdm d_Law_law_11 11 rfl) (by decide) ?_
                                exact zX.sub [1, 2, 3, 0] rfl H
                              · have H := H.2 c
                                refine x_iconst (zdm d_Law_law_5 54 rfl) (zIl rfl) ?_
                                exact x_ireturn (zdm d_Law_law_5 55 rfl) (ty := .boolean) rfl (by decide) (Or.inl rfl) H
                            · skip
                              by_cases c13 : (zand (M (-1) l3) 31) = 13
                              · refine x_tsw (tgt := 588) (zdm d_Law_law_0 21 rfl) c13 (by decide) rfl (by decide) ?_
                                have H := H.2.2.2.2.2.2.2.2.2.2.2.2.2.1 c13
                                refine x_aload_n (zdm d_Law_law_5 56 rfl) rfl (n := 1) rfl ?_
                                refine x_aload_n (zdm d_Law_law_5 57 rfl) rfl (n := 0) rfl ?_
                                refine x_iload_n (zdm d_Law_law_5 58 rfl) rfl (n := 3) rfl ?_
                                refine x_iconst (zdm d_Law_law_5 59 rfl) (zIl rfl) ?_
                                obtain ⟨g142, H⟩ := H
                                refine x_iadd (zdm d_Law_law_6 0 rfl) g142 ?_
                                obtain ⟨g143, H⟩ := H
                                refine x_sld (zdm d_Law_law_6 1 rfl) g143 ?_
                                refine x_aload_n (zdm d_Law_law_6 2 rfl) rfl (n := 0) rfl ?_
                                refine x_iload_n (zdm d_Law_law_6 3 rfl) rfl (n := 3) rfl ?_
                                refine x_iconst (zdm d_Law_law_6 4 rfl) (zIl rfl) ?_
                                obtain ⟨g144, H⟩ := H
                                refine x_iadd (zdm d_Law_law_6 5 rfl) g144 ?_
                                obtain ⟨g145, H⟩ := H
                                refine x_sld (zdm d_Law_law_6 6 rfl) g145 ?_
                                refine x_callVi (n := 2) (ci := 10) (zdm d_Law_law_6 7 rfl) k_Law_72 (As := [(0, (M (-1) (l3 + 1))), (0, (M (-1) (l3 + 2)))]) rfl rfl rfl ⟨_, _, rfl⟩ (Nat.le_of_ble_eq_true rfl) trivial H (fun r146 M147 hr H => ?_)
                                refine x_aload_n (zdm d_Law_law_6 8 rfl) rfl (n := 2) rfl ?_
                                refine x_aload_n (zdm d_Law_law_6 9 rfl) rfl (n := 0) rfl ?_
                                refine x_iload_n (zdm d_Law_law_6 10 rfl) rfl (n := 3) rfl ?_
                                refine x_iconst (zdm d_Law_law_6 11 rfl) (zIl rfl) ?_
                                refine x_iadd (zdm d_Law_law_6 12 rfl) g142 ?_
                                obtain ⟨g148, H⟩ := H
                                refine x_sld (zdm d_Law_law_6 13 rfl) g148 ?_
                                refine x_aload_n (zdm d_Law_law_6 14 rfl) rfl (n := 0) rfl ?_
                                refine x_iload_n (zdm d_Law_law_6 15 rfl) rfl (n := 3) rfl ?_
                                refine x_iconst (zdm d_Law_law_6 16 rfl) (zIl rfl) ?_
                                refine x_iadd (zdm d_Law_law_6 17 rfl) g144 ?_
                                obtain ⟨g149, H⟩ := H
                                refine x_sld (zdm d_Law_law_6 18 rfl) g149 ?_
                                refine x_callVi (n := 2) (ci := 11) (zdm d_Law_law_6 19 rfl) k_Law_75 (As := [(0, (M147 (-1) (l3 + 1))), (0, (M147 (-1) (l3 + 2)))]) rfl rfl rfl ⟨_, _, rfl⟩ (Nat.le_of_ble_eq_true rfl) trivial H (fun r150 M151 hr H => ?_)
                                refine x_icmpeq (tgt := 1016) (zdm d_Law_law_6 20 rfl) (by decide) (fun c => ?_) (fun c => ?_)
                                · have H := H.1 c
                                  obtain ⟨g152, H⟩ := H
                                  refine x_iinc (zdm d_Law_law_11 10 rfl) (n := 3) rfl g152 (zlt rfl) rfl ?_
                                  refine x_goto (tgt := 18) (zdm d_Law_law_11 11 rfl) (by decide) ?_
                                  exact zX.sub [1, 2, 3, 0] rfl H
                                · have H := H.2 c
                                  refine x_iconst (zdm d_Law_law_6 21 rfl) (zIl rfl) ?_
                                  exact x_ireturn (zdm d_Law_law_6 22 rfl) (ty := .boolean) rfl (by decide) (Or.inl rfl) H
                              · skip
                                by_cases c14 : (zand (M (-1) l3) 31) = 14
                                · refine x_tsw (tgt := 621) (zdm d_Law_law_0 21 rfl) c14 (by decide) rfl (by decide) ?_
                                  have H := H.2.2.2.2.2.2.2.2.2.2.2.2.2.2.1 c14
                                  refine x_aload_n (zdm d_Law_law_6 23 rfl) rfl (n := 1) rfl ?_
                                  refine x_aload_n (zdm d_Law_law_6 24 rfl) rfl (n := 0) rfl ?_
                                  refine x_iload_n (zdm d_Law_law_6 25 rfl) rfl (n := 3) rfl ?_
                                  refine x_iconst (zdm d_Law_law_6 26 rfl) (zIl rfl) ?_
                                  obtain ⟨g153, H⟩ := H
                                  refine x_iadd (zdm d_Law_law_6 27 rfl) g153 ?_
                                  obtain ⟨g154, H⟩ := H
                                  refine x_sld (zdm d_Law_law_6 28 rfl) g154 ?_
                                  refine x_aload_n (zdm d_Law_law_6 29 rfl) rfl (n := 0) rfl ?_
                                  refine x_iload_n (zdm d_Law_law_6 30 rfl) rfl (n := 3) rfl ?_
                                  refine x_iconst (zdm d_Law_law_6 31 rfl) (zIl rfl) ?_
                                  obtain ⟨g155, H⟩ := H
                                  refine x_iadd (zdm d_Law_law_6 32 rfl) g155 ?_
                                  obtain ⟨g156, H⟩ := H
                                  refine x_sld (zdm d_Law_law_6 33 rfl) g156 ?_
                                  refine x_callVi (n := 2) (ci := 10) (zdm d_Law_law_6 34 rfl) k_Law_76 (As := [(0, (M (-1) (l3 + 1))), (0, (M (-1) (l3 + 2)))]) rfl rfl rfl ⟨_, _, rfl⟩ (Nat.le_of_ble_eq_true rfl) trivial H (fun r157 M158 hr H => ?_)
                                  refine x_aload_n (zdm d_Law_law_6 35 rfl) rfl (n := 2) rfl ?_
                                  refine x_aload_n (zdm d_Law_law_6 36 rfl) rfl (n := 0) rfl ?_
                                  refine x_iload_n (zdm d_Law_law_6 37 rfl) rfl (n := 3) rfl ?_
                                  refine x_iconst (zdm d_Law_law_6 38 rfl) (zIl rfl) ?_
                                  refine x_iadd (zdm d_Law_law_6 39 rfl) g153 ?_
                                  obtain ⟨g159, H⟩ := H
                                  refine x_sld (zdm d_Law_law_6 40 rfl) g159 ?_
                                  refine x_aload_n (zdm d_Law_law_6 41 rfl) rfl (n := 0) rfl ?_
                                  refine x_iload_n (zdm d_Law_law_6 42 rfl) rfl (n := 3) rfl ?_
                                  refine x_iconst (zdm d_Law_law_6 43 rfl) (zIl rfl) ?_
                                  refine x_iadd (zdm d_Law_law_6 44 rfl) g155 ?_
                                  obtain ⟨g160, H⟩ := H
                                  refine x_sld (zdm d_Law_law_6 45 rfl) g160 ?_
                                  refine x_callVi (n := 2) (ci := 11) (zdm d_Law_law_6 46 rfl) k_Law_79 (As := [(0, (M158 (-1) (l3 + 1))), (0, (M158 (-1) (l3 + 2)))]) rfl rfl rfl ⟨_, _, rfl⟩ (Nat.le_of_ble_eq_true rfl) trivial H (fun r161 M162 hr H => ?_)
                                  refine x_icmpeq (tgt := 1016) (zdm d_Law_law_6 47 rfl) (by decide) (fun c => ?_) (fun c => ?_)
                                  · have H := H.1 c
                                    obtain ⟨g163, H⟩ := H
                                    refine x_iinc (zdm d_Law_law_11 10 rfl) (n := 3) rfl g163 (zlt rfl) rfl ?_
                                    refine x_goto (tgt := 18) (zdm d_Law_law_11 11 rfl) (by decide) ?_
                                    exact zX.sub [1, 2, 3, 0] rfl H
                                  · have H := H.2 c
                                    refine x_iconst (zdm d_Law_law_6 48 rfl) (zIl rfl) ?_
                                    exact x_ireturn (zdm d_Law_law_6 49 rfl) (ty := .boolean) rfl (by decide) (Or.inl rfl) H
                                · skip
                                  by_cases c15 : (zand (M (-1) l3) 31) = 15
                                  · refine x_tsw (tgt := 654) (zdm d_Law_law_0 21 rfl) c15 (by decide) rfl (by decide) ?_
                                    have H := H.2.2.2.2.2.2.2.2.2.2.2.2.2.2.2.1 c15
                                    refine x_aload_n (zdm d_Law_law_6 50 rfl) rfl (n := 1) rfl ?_
                                    refine x_aload_n (zdm d_Law_law_6 51 rfl) rfl (n := 0) rfl ?_
                                    refine x_iload_n (zdm d_Law_law_6 52 rfl) rfl (n := 3) rfl ?_
                                    refine x_iconst (zdm d_Law_law_6 53 rfl) (zIl rfl) ?_
                                    obtain ⟨g164, H⟩ := H
                                    refine x_iadd (zdm d_Law_law_6 54 rfl) g164 ?_
                                    obtain ⟨g165, H⟩ := H
                                    refine x_sld (zdm d_Law_law_6 55 rfl) g165 ?_
                                    refine x_callVi (n := 1) (ci := 10) (zdm d_Law_law_6 56 rfl) k_Law_80 (As := [(0, (M (-1) (l3 + 1)))]) rfl rfl rfl ⟨_, _, rfl⟩ (Nat.le_of_ble_eq_true rfl) trivial H (fun r166 M167 hr H => ?_)
                                    refine x_aload_n (zdm d_Law_law_6 57 rfl) rfl (n := 2) rfl ?_
                                    refine x_aload_n (zdm d_Law_law_6 58 rfl) rfl (n := 0) rfl ?_
                                    refine x_iload_n (zdm d_Law_law_6 59 rfl) rfl (n := 3) rfl ?_
                                    refine x_iconst (zdm d_Law_law_7 0 rfl) (zIl rfl) ?_
                                    refine x_iadd (zdm d_Law_law_7 1 rfl) g164 ?_
                                    obtain ⟨g168, H⟩ := H
                                    refine x_sld (zdm d_Law_law_7 2 rfl) g168 ?_
                                    refine x_callVi (n := 1) (ci := 11) (zdm d_Law_law_7 3 rfl) k_Law_83 (As := [(0, (M167 (-1) (l3 + 1)))]) rfl rfl rfl ⟨_, _, rfl⟩ (Nat.le_of_ble_eq_true rfl) trivial H (fun r169 M170 hr H => ?_)
                                    refine x_icmpeq (tgt := 1016) (zdm d_Law_law_7 4 rfl) (by decide) (fun c => ?_) (fun c => ?_)
                                    · have H := H.1 c
                                      obtain ⟨g171, H⟩ := H
                                      refine x_iinc (zdm d_Law_law_11 10 rfl) (n := 3) rfl g171 (zlt rfl) rfl ?_
                                      refine x_goto (tgt := 18) (zdm d_Law_law_11 11 rfl) (by decide) ?_
                                      exact zX.sub [1, 2, 3, 0] rfl H
                                    · have H := H.2 c
                                      refine x_iconst (zdm d_Law_law_7 5 rfl) (zIl rfl) ?_
                                      exact x_ireturn (zdm d_Law_law_7 6 rfl) (ty := .boolean) rfl (by decide) (Or.inl rfl) H
                                  · skip
                                    by_cases c16 : (zand (M (-1) l3) 31) = 16
                                    · refine x_tsw (tgt := 677) (zdm d_Law_law_0 21 rfl) c16 (by decide) rfl (by decide) ?_
                                      have H := H.2.2.2.2.2.2.2.2.2.2.2.2.2.2.2.2.1 c16
                                      refine x_aload_n (zdm d_Law_law_7 7 rfl) rfl (n := 1) rfl ?_
                                      refine x_aload_n (zdm d_Law_law_7 8 rfl) rfl (n := 0) rfl ?_
                                      refine x_iload_n (zdm d_Law_law_7 9 rfl) rfl (n := 3) rfl ?_
                                      refine x_iconst (zdm d_Law_law_7 10 rfl) (zIl rfl) ?_
                                      obtain ⟨g172, H⟩ := H
                                      refine x_iadd (zdm d_Law_law_7 11 rfl) g172 ?_
                                      obtain ⟨g173, H⟩ := H
                                      refine x_sld (zdm d_Law_law_7 12 rfl) g173 ?_
                                      refine x_callVi (n := 1) (ci := 10) (zdm d_Law_law_7 13 rfl) k_Law_84 (As := [(0, (M (-1) (l3 + 1)))]) rfl rfl rfl ⟨_, _, rfl⟩ (Nat.le_of_ble_eq_true rfl) trivial H (fun r174 M175 hr H => ?_)
                                      refine x_aload_n (zdm d_Law_law_7 14 rfl) rfl (n := 2) rfl ?_
                                      refine x_aload_n (zdm d_Law_law_7 15 rfl) rfl (n := 0) rfl ?_
                                      refine x_iload_n (zdm d_Law_law_7 16 rfl) rfl (n := 3) rfl ?_
                                      refine x_iconst (zdm d_Law_law_7 17 rfl) (zIl rfl) ?_
                                      refine x_iadd (zdm d_Law_law_7 18 rfl) g172 ?_
                                      obtain ⟨g176, H⟩ := H
                                      refine x_sld (zdm d_Law_law_7 19 rfl) g176 ?_
                                      refine x_callVi (n := 1) (ci := 11) (zdm d_Law_law_7 20 rfl) k_Law_87 (As := [(0, (M175 (-1) (l3 + 1)))]) rfl rfl rfl ⟨_, _, rfl⟩ (Nat.le_of_ble_eq_true rfl) trivial H (fun r177 M178 hr H => ?_)
                                      refine x_icmpeq (tgt := 1016) (zdm d_Law_law_7 21 rfl) (by decide) (fun c => ?_) (fun c => ?_)
                                      · have H := H.1 c
                                        obtain ⟨g179, H⟩ := H
                                        refine x_iinc (zdm d_Law_law_11 10 rfl) (n := 3) rfl g179 (zlt rfl) rfl ?_
                                        refine x_goto (tgt := 18) (zdm d_Law_law_11 11 rfl) (by decide) ?_
                                        exact zX.sub [1, 2, 3, 0] rfl H
                                      · have H := H.2 c
                                        refine x_iconst (zdm d_Law_law_7 22 rfl) (zIl rfl) ?_
                                        exact x_ireturn (zdm d_Law_law_7 23 rfl) (ty := .boolean) rfl (by decide) (Or.inl rfl) H
                                    · skip
                                      by_cases c17 : (zand (M (-1) l3) 31) = 17
                                      · refine x_tsw (tgt := 700) (zdm d_Law_law_0 21 rfl) c17 (by decide) rfl (by decide) ?_
                                        have H := H.2.2.2.2.2.2.2.2.2.2.2.2.2.2.2.2.2.1 c17
                                        refine x_aload_n (zdm d_Law_law_7 24 rfl) rfl (n := 1) rfl ?_
                                        refine x_callVi (n := 0) (ci := 10) (zdm d_Law_law_7 25 rfl) k_Law_88 (As := []) rfl rfl rfl ⟨_, _, rfl⟩ (Nat.le_of_ble_eq_true rfl) trivial H (fun r180 M181 hr H => ?_)
                                        refine x_aload_n (zdm d_Law_law_7 26 rfl) rfl (n := 2) rfl ?_
                                        refine x_callVi (n := 0) (ci := 11) (zdm d_Law_law_7 27 rfl) k_Law_91 (As := []) rfl rfl rfl ⟨_, _, rfl⟩ (Nat.le_of_ble_eq_true rfl) trivial H (fun r182 M183 hr H => ?_)
                                        refine x_icmpeq (tgt := 1016) (zdm d_Law_law_7 28 rfl) (by decide) (fun c => ?_) (fun c => ?_)
                                        · have H := H.1 c
                                          obtain ⟨g184, H⟩ := H
                                          refine x_iinc (zdm d_Law_law_11 10 rfl) (n := 3) rfl g184 (zlt rfl) rfl ?_
                                          refine x_goto (tgt := 18) (zdm d_Law_law_11 11 rfl) (by decide) ?_
                                          exact zX.sub [1, 2, 3, 0] rfl H
                                        · have H := H.2 c
                                          refine x_iconst (zdm d_Law_law_7 29 rfl) (zIl rfl) ?_
                                          exact x_ireturn (zdm d_Law_law_7 30 rfl) (ty := .boolean) rfl (by decide) (Or.inl rfl) H
                                      · skip
                                        by_cases c18 : (zand (M (-1) l3) 31) = 18
                                        · refine x_tsw (tgt := 713) (zdm d_Law_law_0 21 rfl) c18 (by decide) rfl (by decide) ?_
                                          have H := H.2.2.2.2.2.2.2.2.2.2.2.2.2.2.2.2.2.2.1 c18
                                          refine x_aload_n (zdm d_Law_law_7 31 rfl) rfl (n := 1) rfl ?_
                                          refine x_aload_n (zdm d_Law_law_7 32 rfl) rfl (n := 0) rfl ?_
                                          refine x_iload_n (zdm d_Law_law_7 33 rfl) rfl (n := 3) rfl ?_
                                          refine x_iconst (zdm d_Law_law_7 34 rfl) (zIl rfl) ?_
                                          obtain ⟨g185, H⟩ := H
                                          refine x_iadd (zdm d_Law_law_7 35 rfl) g185 ?_
                                          obtain ⟨g186, H⟩ := H
                                          refine x_sld (zdm d_Law_law_7 36 rfl) g186 ?_
                                          refine x_callVi (n := 1) (ci := 10) (zdm d_Law_law_7 37 rfl) k_Law_92 (As := [(0, (M (-1) (l3 + 1)))]) rfl rfl rfl ⟨_, _, rfl⟩ (Nat.le_of_ble_eq_true rfl) trivial H (fun r187 M188 hr H => ?_)
                                          refine x_aload_n (zdm d_Law_law_7 38 rfl) rfl (n := 2) rfl ?_
                                          refine x_aload_n (zdm d_Law_law_7 39 rfl) rfl (n := 0) rfl ?_
                                          refine x_iload_n (zdm d_Law_law_7 40 rfl) rfl (n := 3) rfl ?_
                                          refine x_iconst (zdm d_Law_law_7 41 rfl) (zIl rfl) ?_
                                          refine x_iadd (zdm d_Law_law_7 42 rfl) g185 ?_
                                          obtain ⟨g189, H⟩ := H
                                          refine x_sld (zdm d_Law_law_7 43 rfl) g189 ?_
                                          refine x_callVi (n := 1) (ci := 11) (zdm d_Law_law_7 44 rfl) k_Law_95 (As := [(0, (M188 (-1) (l3 + 1)))]) rfl rfl rfl ⟨_, _, rfl⟩ (Nat.le_of_ble_eq_true rfl) trivial H (fun r190 M191 hr H => ?_)
                                          refine x_icmpeq (tgt := 1016) (zdm d_Law_law_7 45 rfl) (by decide) (fun c => ?_) (fun c => ?_)
                                          · have H := H.1 c
                                            obtain ⟨g192, H⟩ := H
                                            refine x_iinc (zdm d_Law_law_11 10 rfl) (n := 3) rfl g192 (zlt rfl) rfl ?_
                                            refine x_goto (tgt := 18) (zdm d_Law_law_11 11 rfl) (by decide) ?_
                                            exact zX.sub [1, 2, 3, 0] rfl H
                                          · have H := H.2 c
                                            refine x_iconst (zdm d_Law_law_7 46 rfl) (zIl rfl) ?_
                                            exact x_ireturn (zdm d_Law_law_7 47 rfl) (ty := .boolean) rfl (by decide) (Or.inl rfl) H
                                        · skip
                                          by_cases c19 : (zand (M (-1) l3) 31) = 19
                                          · refine x_tsw (tgt := 736) (zdm d_Law_law_0 21 rfl) c19 (by decide) rfl (by decide) ?_
                                            have H := H.2.2.2.2.2.2.2.2.2.2.2.2.2.2.2.2.2.2.2.1 c19
                                            refine x_aload_n (zdm d_Law_law_7 48 rfl) rfl (n := 1) rfl ?_
                                            refine x_aload_n (zdm d_Law_law_7 49 rfl) rfl (n := 0) rfl ?_
                                            refine x_iload_n (zdm d_Law_law_7 50 rfl) rfl (n := 3) rfl ?_
                                            refine x_iconst (zdm d_Law_law_7 51 rfl) (zIl rfl) ?_
                                            obtain ⟨g193, H⟩ := H
                                            refine x_iadd (zdm d_Law_law_7 52 rfl) g193 ?_
                                            obtain ⟨g194, H⟩ := H
                                            refine x_sld (zdm d_Law_law_7 53 rfl) g194 ?_
                                            refine x_aload_n (zdm d_Law_law_7 54 rfl) rfl (n := 0) rfl ?_
                                            refine x_iload_n (zdm d_Law_law_7 55 rfl) rfl (n := 3) rfl ?_
                                            refine x_iconst (zdm d_Law_law_7 56 rfl) (zIl rfl) ?_
                                            obtain ⟨g195, H⟩ := H
                                            refine x_iadd (zdm d_Law_law_7 57 rfl) g195 ?_
                                            obtain ⟨g196, H⟩ := H
                                            refine x_sld (zdm d_Law_law_7 58 rfl) g196 ?_
                                            refine x_callVi (n := 2) (ci := 10) (zdm d_Law_law_7 59 rfl) k_Law_96 (As := [(0, (M (-1) (l3 + 1))), (0, (M (-1) (l3 + 2)))]) rfl rfl rfl ⟨_, _, rfl⟩ (Nat.le_of_ble_eq_true rfl) trivial H (fun r197 M198 hr H => ?_)
                                            refine x_aload_n (zdm d_Law_law_8 0 rfl) rfl (n := 2) rfl ?_
                                            refine x_aload_n (zdm d_Law_law_8 1 rfl) rfl (n := 0) rfl ?_
                                            refine x_iload_n (zdm d_Law_law_8 2 rfl) rfl (n := 3) rfl ?_
                                            refine x_iconst (zdm d_Law_law_8 3 rfl) (zIl rfl) ?_
                                            refine x_iadd (zdm d_Law_law_8 4 rfl) g193 ?_
                                            obtain ⟨g199, H⟩ := H
                                            refine x_sld (zdm d_Law_law_8 5 rfl) g199 ?_
                                            refine x_aload_n (zdm d_Law_law_8 6 rfl) rfl (n := 0) rfl ?_
                                            refine x_iload_n (zdm d_Law_law_8 7 rfl) rfl (n := 3) rfl ?_
                                            refine x_iconst (zdm d_Law_law_8 8 rfl) (zIl rfl) ?_
                                            refine x_iadd (zdm d_Law_law_8 9 rfl) g195 ?_
                                            obtain ⟨g200, H⟩ := H
                                            refine x_sld (zdm d_Law_law_8 10 rfl) g200 ?_
                                            refine x_callVi (n := 2) (ci := 11) (zdm d_Law_law_8 11 rfl) k_Law_99 (As := [(0, (M198 (-1) (l3 + 1))), (0, (M198 (-1) (l3 + 2)))]) rfl rfl rfl ⟨_, _, rfl⟩ (Nat.le_of_ble_eq_true rfl) trivial H (fun r201 M202 hr H => ?_)
                                            refine x_icmpeq (tgt := 1016) (zdm d_Law_law_8 12 rfl) (by decide) (fun c => ?_) (fun c => ?_)
                                            · have H := H.1 c
                                              obtain ⟨g203, H⟩ := H
                                              refine x_iinc (zdm d_Law_law_11 10 rfl) (n := 3) rfl g203 (zlt rfl) rfl ?_
                                              refine x_goto (tgt := 18) (zdm d_Law_law_11 11 rfl) (by decide) ?_
                                              exact zX.sub [1, 2, 3, 0] rfl H
                                            · have H := H.2 c
                                              refine x_iconst (zdm d_Law_law_8 13 rfl) (zIl rfl) ?_
                                              exact x_ireturn (zdm d_Law_law_8 14 rfl) (ty := .boolean) rfl (by decide) (Or.inl rfl) H
                                          · skip
                                            by_cases c20 : (zand (M (-1) l3) 31) = 20
                                            · refine x_tsw (tgt := 769) (zdm d_Law_law_0 21 rfl) c20 (by decide) rfl (by decide) ?_
                                              have H := H.2.2.2.2.2.2.2.2.2.2.2.2.2.2.2.2.2.2.2.2.1 c20
                                              refine x_aload_n (zdm d_Law_law_8 15 rfl) rfl (n := 1) rfl ?_
                                              refine x_aload_n (zdm d_Law_law_8 16 rfl) rfl (n := 0) rfl ?_
                                              refine x_iload_n (zdm d_Law_law_8 17 rfl) rfl (n := 3) rfl ?_
                                              refine x_iconst (zdm d_Law_law_8 18 rfl) (zIl rfl) ?_
                                              obtain ⟨g204, H⟩ := H
                                              refine x_iadd (zdm d_Law_law_8 19 rfl) g204 ?_
                                              obtain ⟨g205, H⟩ := H
                                              refine x_sld (zdm d_Law_law_8 20 rfl) g205 ?_
                                              refine x_callVi (n := 1) (ci := 10) (zdm d_Law_law_8 21 rfl) k_Law_100 (As := [(0, (M (-1) (l3 + 1)))]) rfl rfl rfl ⟨_, _, rfl⟩ (Nat.le_of_ble_eq_true rfl) trivial H (fun r206 M207 hr H => ?_)
                                              refine x_aload_n (zdm d_Law_law_8 22 rfl) rfl (n := 2) rfl ?_
                                              refine x_aload_n (zdm d_Law_law_8 23 rfl) rfl (n := 0) rfl ?_
                                              refine x_iload_n (zdm d_Law_law_8 24 rfl) rfl (n := 3) rfl ?_
                                              refine x_iconst (zdm d_Law_law_8 25 rfl) (zIl rfl) ?_
                                              refine x_iadd (zdm d_Law_law_8 26 rfl) g204 ?_
                                              obtain ⟨g208, H⟩ := H
                                              refine x_sld (zdm d_Law_law_8 27 rfl) g208 ?_
                                              refine x_callVi (n := 1) (ci := 11) (zdm d_Law_law_8 28 rfl) k_Law_103 (As := [(0, (M207 (-1) (l3 + 1)))]) rfl rfl rfl ⟨_, _, rfl⟩ (Nat.le_of_ble_eq_true rfl) trivial H (fun r209 M210 hr H => ?_)
                                              refine x_icmpeq (tgt := 1016) (zdm d_Law_law_8 29 rfl) (by decide) (fun c => ?_) (fun c => ?_)
                                              · have H := H.1 c
                                                obtain ⟨g211, H⟩ := H
                                                refine x_iinc (zdm d_Law_law_11 10 rfl) (n := 3) rfl g211 (zlt rfl) rfl ?_
                                                refine x_goto (tgt := 18) (zdm d_Law_law_11 11 rfl) (by decide) ?_
                                                exact zX.sub [1, 2, 3, 0] rfl H
                                              · have H := H.2 c
                                                refine x_iconst (zdm d_Law_law_8 30 rfl) (zIl rfl) ?_
                                                exact x_ireturn (zdm d_Law_law_8 31 rfl) (ty := .boolean) rfl (by decide) (Or.inl rfl) H
                                            · skip
                                              by_cases c21 : (zand (M (-1) l3) 31) = 21
                                              · refine x_tsw (tgt := 792) (zdm d_Law_law_0 21 rfl) c21 (by decide) rfl (by decide) ?_
                                                have H := H.2.2.2.2.2.2.2.2.2.2.2.2.2.2.2.2.2.2.2.2.2.1 c21
                                                refine x_aload_n (zdm d_Law_law_8 32 rfl) rfl (n := 1) rfl ?_
                                                refine x_aload_n (zdm d_Law_law_8 33 rfl) rfl (n := 0) rfl ?_
                                                refine x_iload_n (zdm d_Law_law_8 34 rfl) rfl (n := 3) rfl ?_
                                                refine x_iconst (zdm d_Law_law_8 35 rfl) (zIl rfl) ?_
                                                obtain ⟨g212, H⟩ := H
                                                refine x_iadd (zdm d_Law_law_8 36 rfl) g212 ?_
                                                obtain ⟨g213, H⟩ := H
                                                refine x_sld (zdm d_Law_law_8 37 rfl) g213 ?_
                                                refine x_callVi (n := 1) (ci := 10) (zdm d_Law_law_8 38 rfl) k_Law_104 (As := [(0, (M (-1) (l3 + 1)))]) rfl rfl rfl ⟨_, _, rfl⟩ (Nat.le_of_ble_eq_true rfl) trivial H (fun r214 M215 hr H => ?_)
                                                refine x_aload_n (zdm d_Law_law_8 39 rfl) rfl (n := 2) rfl ?_
                                                refine x_aload_n (zdm d_Law_law_8 40 rfl) rfl (n := 0) rfl ?_
                                                refine x_iload_n (zdm d_Law_law_8 41 rfl) rfl (n := 3) rfl ?_
                                                refine x_iconst (zdm d_Law_law_8 42 rfl) (zIl rfl) ?_
                                                refine x_iadd (zdm d_Law_law_8 43 rfl) g212 ?_
                                                obtain ⟨g216, H⟩ := H
                                                refine x_sld (zdm d_Law_law_8 44 rfl) g216 ?_
                                                refine x_callVi (n := 1) (ci := 11) (zdm d_Law_law_8 45 rfl) k_Law_107 (As := [(0, (M215 (-1) (l3 + 1)))]) rfl rfl rfl ⟨_, _, rfl⟩ (Nat.le_of_ble_eq_true rfl) trivial H (fun r217 M218 hr H => ?_)
                                                refine x_icmpeq (tgt := 1016) (zdm d_Law_law_8 46 rfl) (by decide) (fun c => ?_) (fun c => ?_)
                                                · have H := H.1 c
                                                  obtain ⟨g219, H⟩ := H
                                                  refine x_iinc (zdm d_Law_law_11 10 rfl) (n := 3) rfl g219 (zlt rfl) rfl ?_
                                                  refine x_goto (tgt := 18) (zdm d_Law_law_11 11 rfl) (by decide) ?_
                                                  exact zX.sub [1, 2, 3, 0] rfl H
                                                · have H := H.2 c
                                                  refine x_iconst (zdm d_Law_law_8 47 rfl) (zIl rfl) ?_
                                                  exact x_ireturn (zdm d_Law_law_8 48 rfl) (ty := .boolean) rfl (by decide) (Or.inl rfl) H
                                              · skip
                                                by_cases c22 : (zand (M (-1) l3) 31) = 22
                                                · refine x_tsw (tgt := 815) (zdm d_Law_law_0 21 rfl) c22 (by decide) rfl (by decide) ?_
                                                  have H := H.2.2.2.2.2.2.2.2.2.2.2.2.2.2.2.2.2.2.2.2.2.2.1 c22
                                                  refine x_aload_n (zdm d_Law_law_8 49 rfl) rfl (n := 1) rfl ?_
                                                  refine x_aload_n (zdm d_Law_law_8 50 rfl) rfl (n := 0) rfl ?_
                                                  refine x_iload_n (zdm d_Law_law_8 51 rfl) rfl (n := 3) rfl ?_
                                                  refine x_iconst (zdm d_Law_law_8 52 rfl) (zIl rfl) ?_
                                                  obtain ⟨g220, H⟩ := H
                                                  refine x_iadd (zdm d_Law_law_8 53 rfl) g220 ?_
                                                  obtain ⟨g221, H⟩ := H
                                                  refine x_sld (zdm d_Law_law_8 54 rfl) g221 ?_
                                                  refine x_aload_n (zdm d_Law_law_8 55 rfl) rfl (n := 0) rfl ?_
                                                  refine x_iload_n (zdm d_Law_law_8 56 rfl) rfl (n := 3) rfl ?_
                                                  refine x_iconst (zdm d_Law_law_8 57 rfl) (zIl rfl) ?_
                                                  obtain ⟨g222, H⟩ := H
                                                  refine x_iadd (zdm d_Law_law_8 58 rfl) g222 ?_
                                                  obtain ⟨g223, H⟩ := H
                                                  refine x_sld (zdm d_Law_law_8 59 rfl) g223 ?_
                                                  refine x_callVi (n := 2) (ci := 10) (zdm d_Law_law_9 0 rfl) k_Law_108 (As := [(0, (M (-1) (l3 + 1))), (0, (M (-1) (l3 + 2)))]) rfl rfl rfl ⟨_, _, rfl⟩ (Nat.le_of_ble_eq_true rfl) trivial H (fun r224 M225 hr H => ?_)
                                                  have b226 : r224 = 0 ∨ r224 = 1 := hr
                                                  refine x_aload_n (zdm d_Law_law_9 1 rfl) rfl (n := 2) rfl ?_
                                                  refine x_aload_n (zdm d_Law_law_9 2 rfl) rfl (n := 0) rfl ?_
                                                  refine x_iload_n (zdm d_Law_law_9 3 rfl) rfl (n := 3) rfl ?_
                                                  refine x_iconst (zdm d_Law_law_9 4 rfl) (zIl rfl) ?_
                                                  refine x_iadd (zdm d_Law_law_9 5 rfl) g220 ?_
                                                  obtain ⟨g227, H⟩ := H
                                                  refine x_sld (zdm d_Law_law_9 6 rfl) g227 ?_
                                                  refine x_aload_n (zdm d_Law_law_9 7 rfl) rfl (n := 0) rfl ?_
                                                  refine x_iload_n (zdm d_Law_law_9 8 rfl) rfl (n := 3) rfl ?_
                                                  refine x_iconst (zdm d_Law_law_9 9 rfl) (zIl rfl) ?_
                                                  refine x_iadd (zdm d_Law_law_9 10 rfl) g222 ?_
                                                  obtain ⟨g228, H⟩ := H
                                                  refine x_sld (zdm d_Law_law_9 11 rfl) g228 ?_
                                                  refine x_callVi (n := 2) (ci := 11) (zdm d_Law_law_9 12 rfl) k_Law_112 (As := [(0, (M225 (-1) (l3 + 1))), (0, (M225 (-1) (l3 + 2)))]) rfl rfl rfl ⟨_, _, rfl⟩ (Nat.le_of_ble_eq_true rfl) trivial H (fun r229 M230 hr H => ?_)
                                                  have b231 : r229 = 0 ∨ r229 = 1 := hr
                                                  refine x_icmpeq (tgt := 1016) (zdm d_Law_law_9 13 rfl) (by decide) (fun c => ?_) (fun c => ?_)
                                                  · have H := H.1 c
                                                    obtain ⟨g232, H⟩ := H
                                                    refine x_iinc (zdm d_Law_law_11 10 rfl) (n := 3) rfl g232 (zlt rfl) rfl ?_
                                                    refine x_goto (tgt := 18) (zdm d_Law_law_11 11 rfl) (by decide) ?_
                                                    exact zX.sub [1, 2, 3, 0] rfl H
                                                  · have H := H.2 c
                                                    refine x_iconst (zdm d_Law_law_9 14 rfl) (zIl rfl) ?_
                                                    exact x_ireturn (zdm d_Law_law_9 15 rfl) (ty := .boolean) rfl (by decide) (Or.inl rfl) H
                                                · skip
                                                  by_cases c23 : (zand (M (-1) l3) 31) = 23
                                                  · refine x_tsw (tgt := 848) (zdm d_Law_law_0 21 rfl) c23 (by decide) rfl (by decide) ?_
                                                    have H := H.2.2.2.2.2.2.2.2.2.2.2.2.2.2.2.2.2.2.2.2.2.2.2.1 c23
                                                    refine x_aload_n (zdm d_Law_law_9 16 rfl) rfl (n := 1) rfl ?_
                                                    refine x_aload_n (zdm d_Law_law_9 17 rfl) rfl (n := 0) rfl ?_
                                                    refine x_iload_n (zdm d_Law_law_9 18 rfl) rfl (n := 3) rfl ?_
                                                    refine x_iconst (zdm d_Law_law_9 19 rfl) (zIl rfl) ?_
                                                    obtain ⟨g233, H⟩ := H
                                                    refine x_iadd (zdm d_Law_law_9 20 rfl) g233 ?_
                                                    obtain ⟨g234, H⟩ := H
                                                    refine x_sld (zdm d_Law_law_9 21 rfl) g234 ?_
                                                    refine x_callVi (n := 1) (ci := 10) (zdm d_Law_law_9 22 rfl) k_Law_113 (As := [(0, (M (-1) (l3 + 1)))]) rfl rfl rfl ⟨_, _, rfl⟩ (Nat.le_of_ble_eq_true rfl) trivial H (fun r235 M236 hr H => ?_)
                                                    have b237 : r235 = 0 ∨ r235 = 1 := hr
                                                    refine x_aload_n (zdm d_Law_law_9 23 rfl) rfl (n := 2) rfl ?_
                                                    refine x_aload_n (zdm d_Law_law_9 24 rfl) rfl (n := 0) rfl ?_
                                                    refine x_iload_n (zdm d_Law_law_9 25 rfl) rfl (n := 3) rfl ?_
                                                    refine x_iconst (zdm d_Law_law_9 26 rfl) (zIl rfl) ?_
                                                    refine x_iadd (zdm d_Law_law_9 27 rfl) g233 ?_
                                                    obtain ⟨g238, H⟩ := H
                                                    refine x_sld (zdm d_Law_law_9 28 rfl) g238 ?_
                                                    refine x_callVi (n := 1) (ci := 11) (zdm d_Law_law_9 29 rfl) k_Law_116 (As := [(0, (M236 (-1) (l3 + 1)))]) rfl rfl rfl ⟨_, _, rfl⟩ (Nat.le_of_ble_eq_true rfl) trivial H (fun r239 M240 hr H => ?_)
                                                    have b241 : r239 = 0 ∨ r239 = 1 := hr
                                                    refine x_icmpeq (tgt := 1016) (zdm d_Law_law_9 30 rfl) (by decide) (fun c => ?_) (fun c => ?_)
                                                    · have H := H.1 c
                                                      obtain ⟨g242, H⟩ := H
                                                      refine x_iinc (zdm d_Law_law_11 10 rfl) (n := 3) rfl g242 (zlt rfl) rfl ?_
                                                      refine x_goto (tgt := 18) (zdm d_Law_law_11 11 rfl) (by decide) ?_
                                                      exact zX.sub [1, 2, 3, 0] rfl H
                                                    · have H := H.2 c
                                                      refine x_iconst (zdm d_Law_law_9 31 rfl) (zIl rfl) ?_
                                                      exact x_ireturn (zdm d_Law_law_9 32 rfl) (ty := .boolean) rfl (by decide) (Or.inl rfl) H
                                                  · skip
                                                    by_cases c24 : (zand (M (-1) l3) 31) = 24
                                                    · refine x_tsw (tgt := 871) (zdm d_Law_law_0 21 rfl) c24 (by decide) rfl (by decide) ?_
                                                      have H := H.2.2.2.2.2.2.2.2.2.2.2.2.2.2.2.2.2.2.2.2.2.2.2.2.1 c24
                                                      refine x_aload_n (zdm d_Law_law_9 33 rfl) rfl (n := 1) rfl ?_
                                                      refine x_aload_n (zdm d_Law_law_9 34 rfl) rfl (n := 0) rfl ?_
                                                      refine x_iload_n (zdm d_Law_law_9 35 rfl) rfl (n := 3) rfl ?_
                                                      refine x_iconst (zdm d_Law_law_9 36 rfl) (zIl rfl) ?_
                                                      obtain ⟨g243, H⟩ := H
                                                      refine x_iadd (zdm d_Law_law_9 37 rfl) g243 ?_
                                                      obtain ⟨g244, H⟩ := H
                                                      refine x_sld (zdm d_Law_law_9 38 rfl) g244 ?_
                                                      refine x_callVi (n := 1) (ci := 10) (zdm d_Law_law_9 39 rfl) k_Law_117 (As := [(0, (M (-1) (l3 + 1)))]) rfl rfl rfl ⟨_, _, rfl⟩ (Nat.le_of_ble_eq_true rfl) trivial H (fun r245 M246 hr H => ?_)
                                                      refine x_aload_n (zdm d_Law_law_9 40 rfl) rfl (n := 2) rfl ?_
                                                      refine x_aload_n (zdm d_Law_law_9 41 rfl) rfl (n := 0) rfl ?_
                                                      refine x_iload_n (zdm d_Law_law_9 42 rfl) rfl (n := 3) rfl ?_
                                                      refine x_iconst (zdm d_Law_law_9 43 rfl) (zIl rfl) ?_
                                                      refine x_iadd (zdm d_Law_law_9 44 rfl) g243 ?_
                                                      obtain ⟨g247, H⟩ := H
                                                      refine x_sld (zdm d_Law_law_9 45 rfl) g247 ?_
                                                      refine x_callVi (n := 1) (ci := 11) (zdm d_Law_law_9 46 rfl) k_Law_120 (As := [(0, (M246 (-1) (l3 + 1)))]) rfl rfl rfl ⟨_, _, rfl⟩ (Nat.le_of_ble_eq_true rfl) trivial H (fun r248 M249 hr H => ?_)
                                                      refine x_icmpeq (tgt := 1016) (zdm d_Law_law_9 47 rfl) (by decide) (fun c => ?_) (fun c => ?_)
                                                      · have H := H.1 c
                                                        obtain ⟨g250, H⟩ := H
                                                        refine x_iinc (zdm d_Law_law_11 10 rfl) (n := 3) rfl g250 (zlt rfl) rfl ?_
                                                        refine x_goto (tgt := 18) (zdm d_Law_law_11 11 rfl) (by decide) ?_
                                                        exact zX.sub [1, 2, 3, 0] rfl H
                                                      · have H := H.2 c
                                                        refine x_iconst (zdm d_Law_law_9 48 rfl) (zIl rfl) ?_
                                                        exact x_ireturn (zdm d_Law_law_9 49 rfl) (ty := .boolean) rfl (by decide) (Or.inl rfl) H
                                                    · skip
                                                      by_cases c25 : (zand (M (-1) l3) 31) = 25
                                                      · refine x_tsw (tgt := 894) (zdm d_Law_law_0 21 rfl) c25 (by decide) rfl (by decide) ?_
                                                        have H := H.2.2.2.2.2.2.2.2.2.2.2.2.2.2.2.2.2.2.2.2.2.2.2.2.2.1 c25
                                                        refine x_aload_n (zdm d_Law_law_9 50 rfl) rfl (n := 1) rfl ?_
                                                        refine x_callVi (n := 0) (ci := 10) (zdm d_Law_law_9 51 rfl) k_Law_121 (As := []) rfl rfl rfl ⟨_, _, rfl⟩ (Nat.le_of_ble_eq_true rfl) trivial H (fun r251 M252 hr H => ?_)
                                                        have b253 : r251 = 0 ∨ r251 = 1 := hr
                                                        refine x_aload_n (zdm d_Law_law_9 52 rfl) rfl (n := 2) rfl ?_
                                                        refine x_callVi (n := 0) (ci := 11) (zdm d_Law_law_9 53 rfl) k_Law_125 (As := []) rfl rfl rfl ⟨_, _, rfl⟩ (Nat.le_of_ble_eq_true rfl) trivial H (fun r254 M255 hr H => ?_)
                                                        have b256 : r254 = 0 ∨ r254 = 1 := hr
                                                        refine x_icmpeq (tgt := 1016) (zdm d_Law_law_9 54 rfl) (by decide) (fun c => ?_) (fun c => ?_)
                                                        · have H := H.1 c
                                                          obtain ⟨g257, H⟩ := H
                                                          refine x_iinc (zdm d_Law_law_11 10 rfl) (n := 3) rfl g257 (zlt rfl) rfl ?_
                                                          refine x_goto (tgt := 18) (zdm d_Law_law_11 11 rfl) (by decide) ?_
                                                          exact zX.sub [1, 2, 3, 0] rfl H
                                                        · have H := H.2 c
                                                          refine x_iconst (zdm d_Law_law_9 55 rfl) (zIl rfl) ?_
                                                          exact x_ireturn (zdm d_Law_law_9 56 rfl) (ty := .boolean) rfl (by decide) (Or.inl rfl) H
                                                      · skip
                                                        by_cases c26 : (zand (M (-1) l3) 31) = 26
                                                        · refine x_tsw (tgt := 907) (zdm d_Law_law_0 21 rfl) c26 (by decide) rfl (by decide) ?_
                                                          have H := H.2.2.2.2.2.2.2.2.2.2.2.2.2.2.2.2.2.2.2.2.2.2.2.2.2.2.1 c26
                                                          refine x_aload_n (zdm d_Law_law_9 57 rfl) rfl (n := 1) rfl ?_
                                                          refine x_aload_n (zdm d_Law_law_9 58 rfl) rfl (n := 0) rfl ?_
                                                          refine x_iload_n (zdm d_Law_law_9 59 rfl) rfl (n := 3) rfl ?_
                                                          refine x_iconst (zdm d_Law_law_10 0 rfl) (zIl rfl) ?_
                                                          obtain ⟨g258, H⟩ := H
                                                          refine x_iadd (zdm d_Law_law_10 1 rfl) g258 ?_
                                                          obtain ⟨g259, H⟩ := H
                                                          refine x_sld (zdm d_Law_law_10 2 rfl) g259 ?_
                                                          refine x_callVi (n := 1) (ci := 10) (zdm d_Law_law_10 3 rfl) k_Law_126 (As := [(0, (M (-1) (l3 + 1)))]) rfl rfl rfl ⟨_, _, rfl⟩ (Nat.le_of_ble_eq_true rfl) trivial H (fun r260 M261 hr H => ?_)
                                                          have b262 : r260 = 0 ∨ r260 = 1 := hr
                                                          refine x_aload_n (zdm d_Law_law_10 4 rfl) rfl (n := 2) rfl ?_
                                                          refine x_aload_n (zdm d_Law_law_10 5 rfl) rfl (n := 0) rfl ?_
                                                          refine x_iload_n (zdm d_Law_law_10 6 rfl) rfl (n := 3) rfl ?_
                                                          refine x_iconst (zdm d_Law_law_10 7 rfl) (zIl rfl) ?_
                                                          refine x_iadd (zdm d_Law_law_10 8 rfl) g258 ?_
                                                          obtain ⟨g263, H⟩ := H
                                                          refine x_sld (zdm d_Law_law_10 9 rfl) g263 ?_
                                                          refine x_callVi (n := 1) (ci := 11) (zdm d_Law_law_10 10 rfl) k_Law_129 (As := [(0, (M261 (-1) (l3 + 1)))]) rfl rfl rfl ⟨_, _, rfl⟩ (Nat.le_of_ble_eq_true rfl) trivial H (fun r264 M265 hr H => ?_)
                                                          have b266 : r264 = 0 ∨ r264 = 1 := hr
                                                          refine x_icmpeq (tgt := 1016) (zdm d_Law_law_10 11 rfl) (by decide) (fun c => ?_) (fun c => ?_)
                                                          · have H := H.1 c
                                                            obtain ⟨g267, H⟩ := H
                                                            refine x_iinc (zdm d_Law_law_11 10 rfl) (n := 3) rfl g267 (zlt rfl) rfl ?_
                                                            refine x_goto (tgt := 18) (zdm d_Law_law_11 11 rfl) (by decide) ?_
                                                            exact zX.sub [1, 2, 3, 0] rfl H
                                                          · have H := H.2 c
                                                            refine x_iconst (zdm d_Law_law_10 12 rfl) (zIl rfl) ?_
                                                            exact x_ireturn (zdm d_Law_law_10 13 rfl) (ty := .boolean) rfl (by decide) (Or.inl rfl) H
                                                        · skip
                                                          by_cases c27 : (zand (M (-1) l3) 31) = 27
                                                          · refine x_tsw (tgt := 930) (zdm d_Law_law_0 21 rfl) c27 (by decide) rfl (by decide) ?_
                                                            have H := H.2.2.2.2.2.2.2.2.2.2.2.2.2.2.2.2.2.2.2.2.2.2.2.2.2.2.2.1 c27
                                                            refine x_aload_n (zdm d_Law_law_10 14 rfl) rfl (n := 1) rfl ?_
                                                            refine x_callVl (n := 0) (ci := 10) (zdm d_Law_law_10 15 rfl) k_Law_130 (As := []) rfl rfl rfl ⟨_, _, rfl⟩ (Nat.le_of_ble_eq_true rfl) rfl H (fun r268 M269 hr H => ?_)
                                                            refine x_aload_n (zdm d_Law_law_10 16 rfl) rfl (n := 2) rfl ?_
                                                            refine x_callVl (n := 0) (ci := 11) (zdm d_Law_law_10 17 rfl) k_Law_134 (As := []) rfl rfl rfl ⟨_, _, rfl⟩ (Nat.le_of_ble_eq_true rfl) rfl H (fun r270 M271 hr H => ?_)
                                                            refine x_lcmp_eq (tgt := 1016) (zdm d_Law_law_10 18 rfl) (zdm d_Law_law_10 19 rfl) (by decide) (fun c => ?_) (fun c => ?_)
                                                            · have H := H.1 c
                                                              obtain ⟨g272, H⟩ := H
                                                              refine x_iinc (zdm d_Law_law_11 10 rfl) (n := 3) rfl g272 (zlt rfl) rfl ?_
                                                              refine x_goto (tgt := 18) (zdm d_Law_law_11 11 rfl) (by decide) ?_
                                                              exact zX.sub [1, 2, 3, 0] rfl H
                                                            · have H := H.2 c
                                                              refine x_iconst (zdm d_Law_law_10 20 rfl) (zIl rfl) ?_
                                                              exact x_ireturn (zdm d_Law_law_10 21 rfl) (ty := .boolean) rfl (by decide) (Or.inl rfl) H
                                                          · skip
                                                            by_cases c28 : (zand (M (-1) l3) 31) = 28
                                                            · refine x_tsw (tgt := 944) (zdm d_Law_law_0 21 rfl) c28 (by decide) rfl (by decide) ?_
                                                              have H := H.2.2.2.2.2.2.2.2.2.2.2.2.2.2.2.2.2.2.2.2.2.2.2.2.2.2.2.2.1 c28
                                                              refine x_aload_n (zdm d_Law_law_10 22 rfl) rfl (n := 1) rfl ?_
                                                              refine x_callVi (n := 0) (ci := 10) (zdm d_Law_law_10 23 rfl) k_Law_135 (As := []) rfl rfl rfl ⟨_, _, rfl⟩ (Nat.le_of_ble_eq_true rfl) trivial H (fun r273 M274 hr H => ?_)
                                                              refine x_aload_n (zdm d_Law_law_10 24 rfl) rfl (n := 2) rfl ?_
                                                              refine x_callVi (n := 0) (ci := 11) (zdm d_Law_law_10 25 rfl) k_Law_138 (As := []) rfl rfl rfl ⟨_, _, rfl⟩ (Nat.le_of_ble_eq_true rfl) trivial H (fun r275 M276 hr H => ?_)
                                                              refine x_icmpeq (tgt := 1016) (zdm d_Law_law_10 26 rfl) (by decide) (fun c => ?_) (fun c => ?_)
                                                              · have H := H.1 c
                                                                obtain ⟨g277, H⟩ := H
                                                                refine x_iinc (zdm d_Law_law_11 10 rfl) (n := 3) rfl g277 (zlt rfl) rfl ?_
                                                                refine x_goto (tgt := 18) (zdm d_Law_law_11 11 rfl) (by decide) ?_
                                                                exact zX.sub [1, 2, 3, 0] rfl H
                                                              · have H := H.2 c
                                                                refine x_iconst (zdm d_Law_law_10 27 rfl) (zIl rfl) ?_
                                                                exact x_ireturn (zdm d_Law_law_10 28 rfl) (ty := .boolean) rfl (by decide) (Or.inl rfl) H
                                                            · skip
                                                              by_cases c29 : (zand (M (-1) l3) 31) = 29
                                                              · refine x_tsw (tgt := 957) (zdm d_Law_law_0 21 rfl) c29 (by decide) rfl (by decide) ?_
                                                                have H := H.2.2.2.2.2.2.2.2.2.2.2.2.2.2.2.2.2.2.2.2.2.2.2.2.2.2.2.2.2.1 c29
                                                                refine x_aload_n (zdm d_Law_law_10 29 rfl) rfl (n := 1) rfl ?_
                                                                refine x_aload_n (zdm d_Law_law_10 30 rfl) rfl (n := 0) rfl ?_
                                                                refine x_iload_n (zdm d_Law_law_10 31 rfl) rfl (n := 3) rfl ?_
                                                                refine x_iconst (zdm d_Law_law_10 32 rfl) (zIl rfl) ?_
                                                                obtain ⟨g278, H⟩ := H
                                                                refine x_iadd (zdm d_Law_law_10 33 rfl) g278 ?_
                                                                obtain ⟨g279, H⟩ := H
                                                                refine x_sld (zdm d_Law_law_10 34 rfl) g279 ?_
                                                                refine x_callVi (n := 1) (ci := 10) (zdm d_Law_law_10 35 rfl) k_Law_139 (As := [(0, (M (-1) (l3 + 1)))]) rfl rfl rfl ⟨_, _, rfl⟩ (Nat.le_of_ble_eq_true rfl) trivial H (fun r280 M281 hr H => ?_)
                                                                refine x_aload_n (zdm d_Law_law_10 36 rfl) rfl (n := 2) rfl ?_
                                                                refine x_aload_n (zdm d_Law_law_10 37 rfl) rfl (n := 0) rfl ?_
                                                                refine x_iload_n (zdm d_Law_law_10 38 rfl) rfl (n := 3) rfl ?_
                                                                refine x_iconst (zdm d_Law_law_10 39 rfl) (zIl rfl) ?_
                                                                refine x_iadd (zdm d_Law_law_10 40 rfl) g278 ?_
                                                                obtain ⟨g282, H⟩ := H
                                                                refine x_sld (zdm d_Law_law_10 41 rfl) g282 ?_
                                                                refine x_callVi (n := 1) (ci := 11) (zdm d_Law_law_10 42 rfl) k_Law_142 (As := [(0, (M281 (-1) (l3 + 1)))]) rfl rfl rfl ⟨_, _, rfl⟩ (Nat.le_of_ble_eq_true rfl) trivial H (fun r283 M284 hr H => ?_)
                                                                refine x_icmpeq (tgt := 1016) (zdm d_Law_law_10 43 rfl) (by decide) (fun c => ?_) (fun c => ?_)
                                                                · have H := H.1 c
                                                                  obtain ⟨g285, H⟩ := H
                                                                  refine x_iinc (zdm d_Law_law_11 10 rfl) (n := 3) rfl g285 (zlt rfl) rfl ?_
                                                                  refine x_goto (tgt := 18) (zdm d_Law_law_11 11 rfl) (by decide) ?_
                                                                  exact zX.sub [1, 2, 3, 0] rfl H
                                                                · have H := H.2 c
                                                                  refine x_iconst (zdm d_Law_law_10 44 rfl) (zIl rfl) ?_
                                                                  exact x_ireturn (zdm d_Law_law_10 45 rfl) (ty := .boolean) rfl (by decide) (Or.inl rfl) H
                                                              · skip
                                                                by_cases c30 : (zand (M (-1) l3) 31) = 30
                                                                · refine x_tsw (tgt := 980) (zdm d_Law_law_0 21 rfl) c30 (by decide) rfl (by decide) ?_
                                                                  have H := H.2.2.2.2.2.2.2.2.2.2.2.2.2.2.2.2.2.2.2.2.2.2.2.2.2.2.2.2.2.2.1 c30
                                                                  refine x_aload_n (zdm d_Law_law_10 46 rfl) rfl (n := 1) rfl ?_
                                                                  refine x_callVi (n := 0) (ci := 10) (zdm d_Law_law_10 47 rfl) k_Law_143 (As := []) rfl rfl rfl ⟨_, _, rfl⟩ (Nat.le_of_ble_eq_true rfl) trivial H (fun r286 M287 hr H => ?_)
                                                                  have b288 : r286 = 0 ∨ r286 = 1 := hr
                                                                  refine x_aload_n (zdm d_Law_law_10 48 rfl) rfl (n := 2) rfl ?_
                                                                  refine x_callVi (n := 0) (ci := 11) (zdm d_Law_law_10 49 rfl) k_Law_146 (As := []) rfl rfl rfl ⟨_, _, rfl⟩ (Nat.le_of_ble_eq_true rfl) trivial H (fun r289 M290 hr H => ?_)
                                                                  have b291 : r289 = 0 ∨ r289 = 1 := hr
                                                                  refine x_icmpeq (tgt := 1016) (zdm d_Law_law_10 50 rfl) (by decide) (fun c => ?_) (fun c => ?_)
                                                                  · have H := H.1 c
                                                                    obtain ⟨g292, H⟩ := H
                                                                    refine x_iinc (zdm d_Law_law_11 10 rfl) (n := 3) rfl g292 (zlt rfl) rfl ?_
                                                                    refine x_goto (tgt := 18) (zdm d_Law_law_11 11 rfl) (by decide) ?_
                                                                    exact zX.sub [1, 2, 3, 0] rfl H
                                                                  · have H := H.2 c
                                                                    refine x_iconst (zdm d_Law_law_10 51 rfl) (zIl rfl) ?_
                                                                    exact x_ireturn (zdm d_Law_law_10 52 rfl) (ty := .boolean) rfl (by decide) (Or.inl rfl) H
                                                                · skip
                                                                  by_cases c31 : (zand (M (-1) l3) 31) = 31
                                                                  · refine x_tsw (tgt := 993) (zdm d_Law_law_0 21 rfl) c31 (by decide) rfl (by decide) ?_
                                                                    have H := H.2.2.2.2.2.2.2.2.2.2.2.2.2.2.2.2.2.2.2.2.2.2.2.2.2.2.2.2.2.2.2.1 c31
                                                                    refine x_aload_n (zdm d_Law_law_10 53 rfl) rfl (n := 1) rfl ?_
                                                                    refine x_aload_n (zdm d_Law_law_10 54 rfl) rfl (n := 0) rfl ?_
                                                                    refine x_iload_n (zdm d_Law_law_10 55 rfl) rfl (n := 3) rfl ?_
                                                                    refine x_iconst (zdm d_Law_law_10 56 rfl) (zIl rfl) ?_
                                                                    obtain ⟨g293, H⟩ := H
                                                                    refine x_iadd (zdm d_Law_law_10 57 rfl) g293 ?_
                                                                    obtain ⟨g294, H⟩ := H
                                                                    refine x_sld (zdm d_Law_law_10 58 rfl) g294 ?_
                                                                    refine x_callVi (n := 1) (ci := 10) (zdm d_Law_law_10 59 rfl) k_Law_147 (As := [(0, (M (-1) (l3 + 1)))]) rfl rfl rfl ⟨_, _, rfl⟩ (Nat.le_of_ble_eq_true rfl) trivial H (fun r295 M296 hr H => ?_)
                                                                    refine x_aload_n (zdm d_Law_law_11 0 rfl) rfl (n := 2) rfl ?_
                                                                    refine x_aload_n (zdm d_Law_law_11 1 rfl) rfl (n := 0) rfl ?_
                                                                    refine x_iload_n (zdm d_Law_law_11 2 rfl) rfl (n := 3) rfl ?_
                                                                    refine x_iconst (zdm d_Law_law_11 3 rfl) (zIl rfl) ?_
                                                                    refine x_iadd (zdm d_Law_law_11 4 rfl) g293 ?_
                                                                    obtain ⟨g297, H⟩ := H
                                                                    refine x_sld (zdm d_Law_law_11 5 rfl) g297 ?_
                                                                    refine x_callVi (n := 1) (ci := 11) (zdm d_Law_law_11 6 rfl) k_Law_150 (As := [(0, (M296 (-1) (l3 + 1)))]) rfl rfl rfl ⟨_, _, rfl⟩ (Nat.le_of_ble_eq_true rfl) trivial H (fun r298 M299 hr H => ?_)
                                                                    refine x_icmpeq (tgt := 1016) (zdm d_Law_law_11 7 rfl) (by decide) (fun c => ?_) (fun c => ?_)
                                                                    · have H := H.1 c
                                                                      obtain ⟨g300, H⟩ := H
                                                                      refine x_iinc (zdm d_Law_law_11 10 rfl) (n := 3) rfl g300 (zlt rfl) rfl ?_
                                                                      refine x_goto (tgt := 18) (zdm d_Law_law_11 11 rfl) (by decide) ?_
                                                                      exact zX.sub [1, 2, 3, 0] rfl H
                                                                    · have H := H.2 c
                                                                      refine x_iconst (zdm d_Law_law_11 8 rfl) (zIl rfl) ?_
                                                                      exact x_ireturn (zdm d_Law_law_11 9 rfl) (ty := .boolean) rfl (by decide) (Or.inl rfl) H
                                                                  · skip
                                                                    have cd : ((zand (M (-1) l3) 31) < 0 ∨ 31 < (zand (M (-1) l3) 31)) := by omega
                                                                    refine x_tswd (tgt := 1016) (zdm d_Law_law_0 21 rfl) cd (by decide) ?_
                                                                    have H := H.2.2.2.2.2.2.2.2.2.2.2.2.2.2.2.2.2.2.2.2.2.2.2.2.2.2.2.2.2.2.2.2 cd
                                                                    obtain ⟨g301, H⟩ := H
                                                                    refine x_iinc (zdm d_Law_law_11 10 rfl) (n := 3) rfl g301 (zlt rfl) rfl ?_
                                                                    refine x_goto (tgt := 18) (zdm d_Law_law_11 11 rfl) (by decide) ?_
                                                                    exact zX.sub [1, 2, 3, 0] rfl H
