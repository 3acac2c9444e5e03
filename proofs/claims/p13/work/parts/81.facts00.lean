theorem am_co0_0 : am_allT (am_ckc code) 5 am_c0_0 = true := by decide +kernel
theorem am_tc0_0 : am_allT (am_tck (am_at am_c0) 14) 5 am_c0_0 = true := by decide +kernel
theorem am_co0_1 : am_allT (am_ckc code) 5 am_c0_1 = true := by decide +kernel
theorem am_tc0_1 : am_allT (am_tck (am_at am_c0) 14) 5 am_c0_1 = true := by decide +kernel
theorem am_co0_2 : am_allT (am_ckc code) 5 am_c0_2 = true := by decide +kernel
theorem am_tc0_2 : am_allT (am_tck (am_at am_c0) 14) 5 am_c0_2 = true := by decide +kernel
theorem am_co0_3 : am_allT (am_ckc code) 5 am_c0_3 = true := by decide +kernel
theorem am_tc0_3 : am_allT (am_tck (am_at am_c0) 14) 5 am_c0_3 = true := by decide +kernel
theorem am_co0_4 : am_allT (am_ckc code) 5 am_c0_4 = true := by decide +kernel
theorem am_tc0_4 : am_allT (am_tck (am_at am_c0) 14) 5 am_c0_4 = true := by decide +kernel
theorem am_co0_5 : am_allT (am_ckc code) 5 am_c0_5 = true := by decide +kernel
theorem am_tc0_5 : am_allT (am_tck (am_at am_c0) 14) 5 am_c0_5 = true := by decide +kernel
theorem am_co0_6 : am_allT (am_ckc code) 5 am_c0_6 = true := by decide +kernel
theorem am_tc0_6 : am_allT (am_tck (am_at am_c0) 14) 5 am_c0_6 = true := by decide +kernel
theorem am_co0_7 : am_allT (am_ckc code) 5 am_c0_7 = true := by decide +kernel
theorem am_tc0_7 : am_allT (am_tck (am_at am_c0) 14) 5 am_c0_7 = true := by decide +kernel
theorem am_co0_8 : am_allT (am_ckc code) 5 am_c0_8 = true := by decide +kernel
theorem am_tc0_8 : am_allT (am_tck (am_at am_c0) 14) 5 am_c0_8 = true := by decide +kernel
theorem am_co0_9 : am_allT (am_ckc code) 5 am_c0_9 = true := by decide +kernel
theorem am_tc0_9 : am_allT (am_tck (am_at am_c0) 14) 5 am_c0_9 = true := by decide +kernel
theorem am_co0_10 : am_allT (am_ckc code) 5 am_c0_10 = true := by decide +kernel
theorem am_tc0_10 : am_allT (am_tck (am_at am_c0) 14) 5 am_c0_10 = true := by decide +kernel
theorem am_co0_11 : am_allT (am_ckc code) 5 am_c0_11 = true := by decide +kernel
theorem am_tc0_11 : am_allT (am_tck (am_at am_c0) 14) 5 am_c0_11 = true := by decide +kernel
theorem am_co0_12 : am_allT (am_ckc code) 5 am_c0_12 = true := by decide +kernel
theorem am_tc0_12 : am_allT (am_tck (am_at am_c0) 14) 5 am_c0_12 = true := by decide +kernel
theorem am_co0_13 : am_allT (am_ckc code) 5 am_c0_13 = true := by decide +kernel
theorem am_tc0_13 : am_allT (am_tck (am_at am_c0) 14) 5 am_c0_13 = true := by decide +kernel
theorem am_co0_14 : am_allT (am_ckc code) 5 am_c0_14 = true := by decide +kernel
theorem am_tc0_14 : am_allT (am_tck (am_at am_c0) 14) 5 am_c0_14 = true := by decide +kernel
theorem am_co0_15 : am_allT (am_ckc code) 5 am_c0_15 = true := by decide +kernel
theorem am_tc0_15 : am_allT (am_tck (am_at am_c0) 14) 5 am_c0_15 = true := by decide +kernel
theorem am_co0 : am_allT (am_ckc code) 9 am_c0 = true := (am_allT_nd (am_allT_nd (am_allT_nd (am_allT_nd am_co0_0 am_co0_1) (am_allT_nd am_co0_2 am_co0_3)) (am_allT_nd (am_allT_nd am_co0_4 am_co0_5) (am_allT_nd am_co0_6 am_co0_7))) (am_allT_nd (am_allT_nd (am_allT_nd am_co0_8 am_co0_9) (am_allT_nd am_co0_10 am_co0_11)) (am_allT_nd (am_allT_nd am_co0_12 am_co0_13) (am_allT_nd am_co0_14 am_co0_15))))
theorem am_tc0 : am_allT (am_tck (am_at am_c0) 14) 9 am_c0 = true := (am_allT_nd (am_allT_nd (am_allT_nd (am_allT_nd am_tc0_0 am_tc0_1) (am_allT_nd am_tc0_2 am_tc0_3)) (am_allT_nd (am_allT_nd am_tc0_4 am_tc0_5) (am_allT_nd am_tc0_6 am_tc0_7))) (am_allT_nd (am_allT_nd (am_allT_nd am_tc0_8 am_tc0_9) (am_allT_nd am_tc0_10 am_tc0_11)) (am_allT_nd (am_allT_nd am_tc0_12 am_tc0_13) (am_allT_nd am_tc0_14 am_tc0_15))))
set_option maxRecDepth 100000 in
theorem am_p0 : am_PI am_i0 := ⟨am_pc_of am_co0, ⟨Or.inl ⟨(List.mem_of_getElem? (i := 1354) rfl), rfl⟩, by decide +kernel, ⟨by decide +kernel, by decide +kernel⟩, (List.mem_of_getElem? (i := 71) (by decide +kernel)), by decide +kernel⟩, (fun h => absurd h (by decide)), am_ts_of am_tc0⟩
theorem am_co1_0 : am_allT (am_ckc prog_1_method_1_code) 5 am_c1_0 = true := by decide +kernel
theorem am_tc1_0 : am_allT (am_tck (am_at am_c1) 0) 5 am_c1_0 = true := by decide +kernel
theorem am_co1_1 : am_allT (am_ckc prog_1_method_1_code) 5 am_c1_1 = true := by decide +kernel
theorem am_tc1_1 : am_allT (am_tck (am_at am_c1) 0) 5 am_c1_1 = true := by decide +kernel
theorem am_co1 : am_allT (am_ckc prog_1_method_1_code) 6 am_c1 = true := (am_allT_nd am_co1_0 am_co1_1)
theorem am_tc1 : am_allT (am_tck (am_at am_c1) 0) 6 am_c1 = true := (am_allT_nd am_tc1_0 am_tc1_1)
set_option maxRecDepth 100000 in
theorem am_p1 : am_PI am_i1 := ⟨am_pc_of am_co1, ⟨Or.inl ⟨(List.mem_of_getElem? (i := 96) rfl), rfl⟩, by decide +kernel, ⟨by decide +kernel, by decide +kernel⟩, (List.mem_of_getElem? (i := 72) (by decide +kernel)), by decide +kernel⟩, (fun _ => rfl), am_ts_of am_tc1⟩
theorem am_co2 : am_allT (am_ckc prog_7_method_1_code) 5 am_c2 = true := by decide +kernel
theorem am_tc2 : am_allT (am_tck (am_at am_c2) 1) 5 am_c2 = true := by decide +kernel
set_option maxRecDepth 100000 in
theorem am_p2 : am_PI am_i2 := ⟨am_pc_of am_co2, ⟨Or.inl ⟨(List.mem_of_getElem? (i := 104) rfl), rfl⟩, by decide +kernel, ⟨by decide +kernel, by decide +kernel⟩, (List.mem_of_getElem? (i := 73) (by decide +kernel)), by decide +kernel⟩, (fun _ => rfl), am_ts_of am_tc2⟩
theorem am_co3 : am_allT (am_ckc prog_3_method_1_code) 4 am_c3 = true := by decide +kernel
theorem am_tc3 : am_allT (am_tck (am_at am_c3) 2) 4 am_c3 = true := by decide +kernel
set_option maxRecDepth 100000 in
theorem am_p3 : am_PI am_i3 := ⟨am_pc_of am_co3, ⟨Or.inl ⟨(List.mem_of_getElem? (i := 124) rfl), rfl⟩, by decide +kernel, ⟨by decide +kernel, by decide +kernel⟩, (List.mem_of_getElem? (i := 74) (by decide +kernel)), by decide +kernel⟩, (fun _ => rfl), am_ts_of am_tc3⟩
theorem am_co4 : am_allT (am_ckc prog_8_method_1_code) 2 am_c4 = true := by decide +kernel
theorem am_tc4 : am_allT (am_tck (am_at am_c4) 3) 2 am_c4 = true := by decide +kernel
set_option maxRecDepth 100000 in
theorem am_p4 : am_PI am_i4 := ⟨am_pc_of am_co4, ⟨Or.inl ⟨(List.mem_of_getElem? (i := 138) rfl), rfl⟩, by decide +kernel, ⟨by decide +kernel, by decide +kernel⟩, (List.mem_of_getElem? (i := 75) (by decide +kernel)), by decide +kernel⟩, (fun _ => rfl), am_ts_of am_tc4⟩
theorem am_co5 : am_allT (am_ckc prog_5_method_1_code) 4 am_c5 = true := by decide +kernel
theorem am_tc5 : am_allT (am_tck (am_at am_c5) 4) 4 am_c5 = true := by decide +kernel
set_option maxRecDepth 100000 in
theorem am_p5 : am_PI am_i5 := ⟨am_pc_of am_co5, ⟨Or.inl ⟨(List.mem_of_getElem? (i := 145) rfl), rfl⟩, by decide +kernel, ⟨by decide +kernel, by decide +kernel⟩, (List.mem_of_getElem? (i := 76) (by decide +kernel)), by decide +kernel⟩, (fun _ => rfl), am_ts_of am_tc5⟩
theorem am_co6_0 : am_allT (am_ckc prog_2_method_1_code) 5 am_c6_0 = true := by decide +kernel
theorem am_tc6_0 : am_allT (am_tck (am_at am_c6) 5) 5 am_c6_0 = true := by decide +kernel
theorem am_co6_1 : am_allT (am_ckc prog_2_method_1_code) 5 am_c6_1 = true := by decide +kernel
theorem am_tc6_1 : am_allT (am_tck (am_at am_c6) 5) 5 am_c6_1 = true := by decide +kernel
theorem am_co6 : am_allT (am_ckc prog_2_method_1_code) 6 am_c6 = true := (am_allT_nd am_co6_0 am_co6_1)
theorem am_tc6 : am_allT (am_tck (am_at am_c6) 5) 6 am_c6 = true := (am_allT_nd am_tc6_0 am_tc6_1)
set_option maxRecDepth 100000 in
theorem am_p6 : am_PI am_i6 := ⟨am_pc_of am_co6, ⟨Or.inl ⟨(List.mem_of_getElem? (i := 158) rfl), rfl⟩, by decide +kernel, ⟨by decide +kernel, by decide +kernel⟩, (List.mem_of_getElem? (i := 77) (by decide +kernel)), by decide +kernel⟩, (fun _ => rfl), am_ts_of am_tc6⟩
theorem am_co7_0 : am_allT (am_ckc prog_9_method_1_code) 5 am_c7_0 = true := by decide +kernel
theorem am_tc7_0 : am_allT (am_tck (am_at am_c7) 6) 5 am_c7_0 = true := by decide +kernel
theorem am_co7_1 : am_allT (am_ckc prog_9_method_1_code) 5 am_c7_1 = true := by decide +kernel
theorem am_tc7_1 : am_allT (am_tck (am_at am_c7) 6) 5 am_c7_1 = true := by decide +kernel
theorem am_co7 : am_allT (am_ckc prog_9_method_1_code) 6 am_c7 = true := (am_allT_nd am_co7_0 am_co7_1)
theorem am_tc7 : am_allT (am_tck (am_at am_c7) 6) 6 am_c7 = true := (am_allT_nd am_tc7_0 am_tc7_1)
set_option maxRecDepth 100000 in
theorem am_p7 : am_PI am_i7 := ⟨am_pc_of am_co7, ⟨Or.inl ⟨(List.mem_of_getElem? (i := 164) rfl), rfl⟩, by decide +kernel, ⟨by decide +kernel, by decide +kernel⟩, (List.mem_of_getElem? (i := 78) (by decide +kernel)), by decide +kernel⟩, (fun _ => rfl), am_ts_of am_tc7⟩
theorem am_co8_0 : am_allT (am_ckc prog_6_method_1_code) 5 am_c8_0 = true := by decide +kernel
theorem am_tc8_0 : am_allT (am_tck (am_at am_c8) 7) 5 am_c8_0 = true := by decide +kernel
theorem am_co8_1 : am_allT (am_ckc prog_6_method_1_code) 5 am_c8_1 = true := by decide +kernel
theorem am_tc8_1 : am_allT (am_tck (am_at am_c8) 7) 5 am_c8_1 = true := by decide +kernel
theorem am_co8 : am_allT (am_ckc prog_6_method_1_code) 6 am_c8 = true := (am_allT_nd am_co8_0 am_co8_1)
theorem am_tc8 : am_allT (am_tck (am_at am_c8) 7) 6 am_c8 = true := (am_allT_nd am_tc8_0 am_tc8_1)
set_option maxRecDepth 100000 in
theorem am_p8 : am_PI am_i8 := ⟨am_pc_of am_co8, ⟨Or.inl ⟨(List.mem_of_getElem? (i := 200) rfl), rfl⟩, by decide +kernel, ⟨by decide +kernel, by decide +kernel⟩, (List.mem_of_getElem? (i := 79) (by decide +kernel)), by decide +kernel⟩, (fun _ => rfl), am_ts_of am_tc8⟩
theorem am_co9 : am_allT (am_ckc prog_4_method_1_code) 5 am_c9 = true := by decide +kernel
theorem am_tc9 : am_allT (am_tck (am_at am_c9) 8) 5 am_c9 = true := by decide +kernel
set_option maxRecDepth 100000 in
theorem am_p9 : am_PI am_i9 := ⟨am_pc_of am_co9, ⟨Or.inl ⟨(List.mem_of_getElem? (i := 265) rfl), rfl⟩, by decide +kernel, ⟨by decide +kernel, by decide +kernel⟩, (List.mem_of_getElem? (i := 80) (by decide +kernel)), by decide +kernel⟩, (fun _ => rfl), am_ts_of am_tc9⟩
theorem am_co10 : am_allT (am_ckc prog_1_method_7_code) 4 am_c10 = true := by decide +kernel
theorem am_tc10 : am_allT (am_tck (am_at am_c10) 0) 4 am_c10 = true := by decide +kernel
set_option maxRecDepth 100000 in
theorem am_p10 : am_PI am_i10 := ⟨am_pc_of am_co10, ⟨Or.inl ⟨(List.mem_of_getElem? (i := 314) rfl), rfl⟩, by decide +kernel, ⟨by decide +kernel, by decide +kernel⟩, (List.mem_of_getElem? (i := 72) (by decide +kernel)), by decide +kernel⟩, (fun h => absurd h (by decide)), am_ts_of am_tc10⟩
theorem am_co11 : am_allT (am_ckc prog_7_method_16_code) 5 am_c11 = true := by decide +kernel
theorem am_tc11 : am_allT (am_tck (am_at am_c11) 1) 5 am_c11 = true := by decide +kernel
set_option maxRecDepth 100000 in
theorem am_p11 : am_PI am_i11 := ⟨am_pc_of am_co11, ⟨Or.inl ⟨(List.mem_of_getElem? (i := 318) rfl), rfl⟩, by decide +kernel, ⟨by decide +kernel, by decide +kernel⟩, (List.mem_of_getElem? (i := 73) (by decide +kernel)), by decide +kernel⟩, (fun h => absurd h (by decide)), am_ts_of am_tc11⟩
theorem am_co12 : am_allT (am_ckc prog_1_method_15_code) 2 am_c12 = true := by decide +kernel
theorem am_tc12 : am_allT (am_tck (am_at am_c12) 0) 2 am_c12 = true := by decide +kernel
set_option maxRecDepth 100000 in
theorem am_p12 : am_PI am_i12 := ⟨am_pc_of am_co12, ⟨Or.inl ⟨(List.mem_of_getElem? (i := 325) rfl), rfl⟩, by decide +kernel, ⟨by decide +kernel, by decide +kernel⟩, (List.mem_of_getElem? (i := 72) (by decide +kernel)), by decide +kernel⟩, (fun h => absurd h (by decide)), am_ts_of am_tc12⟩
theorem am_co13 : am_allT (am_ckc prog_4_method_3_code) 2 am_c13 = true := by decide +kernel
theorem am_tc13 : am_allT (am_tck (am_at am_c13) 8) 2 am_c13 = true := by decide +kernel
set_option maxRecDepth 100000 in
theorem am_p13 : am_PI am_i13 := ⟨am_pc_of am_co13, ⟨Or.inl ⟨(List.mem_of_getElem? (i := 329) rfl), rfl⟩, by decide +kernel, ⟨by decide +kernel, by decide +kernel⟩, (List.mem_of_getElem? (i := 80) (by decide +kernel)), by decide +kernel⟩, (fun h => absurd h (by decide)), am_ts_of am_tc13⟩
theorem am_co14 : am_allT (am_ckc prog_1_method_17_code) 2 am_c14 = true := by decide +kernel
theorem am_tc14 : am_allT (am_tck (am_at am_c14) 0) 2 am_c14 = true := by decide +kernel
set_option maxRecDepth 100000 in
theorem am_p14 : am_PI am_i14 := ⟨am_pc_of am_co14, ⟨Or.inl ⟨(List.mem_of_getElem? (i := 333) rfl), rfl⟩, by decide +kernel, ⟨by decide +kernel, by decide +kernel⟩, (List.mem_of_getElem? (i := 72) (by decide +kernel)), by decide +kernel⟩, (fun h => absurd h (by decide)), am_ts_of am_tc14⟩
theorem am_co15 : am_allT (am_ckc prog_4_method_4_code) 2 am_c15 = true := by decide +kernel
theorem am_tc15 : am_allT (am_tck (am_at am_c15) 8) 2 am_c15 = true := by decide +kernel
set_option maxRecDepth 100000 in
theorem am_p15 : am_PI am_i15 := ⟨am_pc_of am_co15, ⟨Or.inl ⟨(List.mem_of_getElem? (i := 337) rfl), rfl⟩, by decide +kernel, ⟨by decide +kernel, by decide +kernel⟩, (List.mem_of_getElem? (i := 80) (by decide +kernel)), by decide +kernel⟩, (fun h => absurd h (by decide)), am_ts_of am_tc15⟩
theorem am_co16 : am_allT (am_ckc method_3_code) 4 am_c16 = true := by decide +kernel
theorem am_tc16 : am_allT (am_tck (am_at am_c16) 14) 4 am_c16 = true := by decide +kernel
set_option maxRecDepth 100000 in
theorem am_p16 : am_PI am_i16 := ⟨am_pc_of am_co16, ⟨Or.inr ⟨[(0, 9, 12, 13), (0, 9, 15, 15)], (List.mem_of_getElem? (i := 340) rfl), ⟨⟨rfl, rfl, rfl, by decide, by decide, _, rfl, (List.mem_of_getElem? (i := 341) (by decide +kernel))⟩, ⟨⟨rfl, rfl, rfl, by decide, by decide, _, rfl, (List.mem_of_getElem? (i := 342) (by decide +kernel))⟩, trivial⟩⟩⟩, by decide +kernel, ⟨by decide +kernel, by decide +kernel⟩, (List.mem_of_getElem? (i := 71) (by decide +kernel)), by decide +kernel⟩, (fun h => absurd h (by decide)), am_ts_of am_tc16⟩
theorem am_co17 : am_allT (am_ckc prog_1_method_2_code) 5 am_c17 = true := by decide +kernel
theorem am_tc17 : am_allT (am_tck (am_at am_c17) 0) 5 am_c17 = true := by decide +kernel
set_option maxRecDepth 100000 in
theorem am_p17 : am_PI am_i17 := ⟨am_pc_of am_co17, ⟨Or.inl ⟨(List.mem_of_getElem? (i := 346) rfl), rfl⟩, by decide +kernel, ⟨by decide +kernel, by decide +kernel⟩, (List.mem_of_getElem? (i := 72) (by decide +kernel)), by decide +kernel⟩, (fun h => absurd h (by decide)), am_ts_of am_tc17⟩
theorem am_co18 : am_allT (am_ckc prog_1_method_18_code) 5 am_c18 = true := by decide +kernel
theorem am_tc18 : am_allT (am_tck (am_at am_c18) 0) 5 am_c18 = true := by decide +kernel
set_option maxRecDepth 100000 in
theorem am_p18 : am_PI am_i18 := ⟨am_pc_of am_co18, ⟨Or.inl ⟨(List.mem_of_getElem? (i := 350) rfl), rfl⟩, by decide +kernel, ⟨by decide +kernel, by decide +kernel⟩, (List.mem_of_getElem? (i := 72) (by decide +kernel)), by decide +kernel⟩, (fun h => absurd h (by decide)), am_ts_of am_tc18⟩
theorem am_co19 : am_allT (am_ckc prog_7_method_3_code) 3 am_c19 = true := by decide +kernel
theorem am_tc19 : am_allT (am_tck (am_at am_c19) 1) 3 am_c19 = true := by decide +kernel
set_option maxRecDepth 100000 in
theorem am_p19 : am_PI am_i19 := ⟨am_pc_of am_co19, ⟨Or.inl ⟨(List.mem_of_getElem? (i := 423) rfl), rfl⟩, by decide +kernel, ⟨by decide +kernel, by decide +kernel⟩, (List.mem_of_getElem? (i := 73) (by decide +kernel)), by decide +kernel⟩, (fun h => absurd h (by decide)), am_ts_of am_tc19⟩
theorem am_co20 : am_allT (am_ckc prog_7_method_12_code) 5 am_c20 = true := by decide +kernel
theorem am_tc20 : am_allT (am_tck (am_at am_c20) 1) 5 am_c20 = true := by decide +kernel
set_option maxRecDepth 100000 in
theorem am_p20 : am_PI am_i20 := ⟨am_pc_of am_co20, ⟨Or.inl ⟨(List.mem_of_getElem? (i := 443) rfl), rfl⟩, by decide +kernel, ⟨by decide +kernel, by decide +kernel⟩, (List.mem_of_getElem? (i := 73) (by decide +kernel)), by decide +kernel⟩, (fun h => absurd h (by decide)), am_ts_of am_tc20⟩
theorem am_co21_0 : am_allT (am_ckc prog_7_method_15_code) 5 am_c21_0 = true := by decide +kernel
theorem am_tc21_0 : am_allT (am_tck (am_at am_c21) 1) 5 am_c21_0 = true := by decide +kernel
theorem am_co21_1 : am_allT (am_ckc prog_7_method_15_code) 5 am_c21_1 = true := by decide +kernel
theorem am_tc21_1 : am_allT (am_tck (am_at am_c21) 1) 5 am_c21_1 = true := by decide +kernel
theorem am_co21 : am_allT (am_ckc prog_7_method_15_code) 6 am_c21 = true := (am_allT_nd am_co21_0 am_co21_1)
theorem am_tc21 : am_allT (am_tck (am_at am_c21) 1) 6 am_c21 = true := (am_allT_nd am_tc21_0 am_tc21_1)
set_option maxRecDepth 100000 in
theorem am_p21 : am_PI am_i21 := ⟨am_pc_of am_co21, ⟨Or.inl ⟨(List.mem_of_getElem? (i := 447) rfl), rfl⟩, by decide +kernel, ⟨by decide +kernel, by decide +kernel⟩, (List.mem_of_getElem? (i := 73) (by decide +kernel)), by decide +kernel⟩, (fun h => absurd h (by decide)), am_ts_of am_tc21⟩
theorem am_co22 : am_allT (am_ckc prog_7_method_4_code) 4 am_c22 = true := by decide +kernel
theorem am_tc22 : am_allT (am_tck (am_at am_c22) 1) 4 am_c22 = true := by decide +kernel
set_option maxRecDepth 100000 in
theorem am_p22 : am_PI am_i22 := ⟨am_pc_of am_co22, ⟨Or.inl ⟨(List.mem_of_getElem? (i := 451) rfl), rfl⟩, by decide +kernel, ⟨by decide +kernel, by decide +kernel⟩, (List.mem_of_getElem? (i := 73) (by decide +kernel)), by decide +kernel⟩, (fun h => absurd h (by decide)), am_ts_of am_tc22⟩
theorem am_co23 : am_allT (am_ckc method_4_code) 5 am_c23 = true := by decide +kernel
theorem am_tc23 : am_allT (am_tck (am_at am_c23) 14) 5 am_c23 = true := by decide +kernel
set_option maxRecDepth 100000 in
theorem am_p23 : am_PI am_i23 := ⟨am_pc_of am_co23, ⟨Or.inr ⟨[(0, 18, 21, 13), (0, 18, 25, 21), (0, 18, 29, 15)], (List.mem_of_getElem? (i := 454) rfl), ⟨⟨rfl, rfl, rfl, by decide, by decide, _, rfl, (List.mem_of_getElem? (i := 341) (by decide +kernel))⟩, ⟨⟨rfl, rfl, rfl, by decide, by decide, _, rfl, (List.mem_of_getElem? (i := 455) (by decide +kernel))⟩, ⟨⟨rfl, rfl, rfl, by decide, by decide, _, rfl, (List.mem_of_getElem? (i := 342) (by decide +kernel))⟩, trivial⟩⟩⟩⟩, by decide +kernel, ⟨by decide +kernel, by decide +kernel⟩, (List.mem_of_getElem? (i := 71) (by decide +kernel)), by decide +kernel⟩, (fun h => absurd h (by decide)), am_ts_of am_tc23⟩
theorem am_co24_0 : am_allT (am_ckc prog_1_method_3_code) 5 am_c24_0 = true := by decide +kernel
theorem am_tc24_0 : am_allT (am_tck (am_at am_c24) 0) 5 am_c24_0 = true := by decide +kernel
theorem am_co24_1 : am_allT (am_ckc prog_1_method_3_code) 5 am_c24_1 = true := by decide +kernel
theorem am_tc24_1 : am_allT (am_tck (am_at am_c24) 0) 5 am_c24_1 = true := by decide +kernel
theorem am_co24_2 : am_allT (am_ckc prog_1_method_3_code) 5 am_c24_2 = true := by decide +kernel
theorem am_tc24_2 : am_allT (am_tck (am_at am_c24) 0) 5 am_c24_2 = true := by decide +kernel
theorem am_co24_3 : am_allT (am_ckc prog_1_method_3_code) 5 am_c24_3 = true := by decide +kernel
theorem am_tc24_3 : am_allT (am_tck (am_at am_c24) 0) 5 am_c24_3 = true := by decide +kernel
theorem am_co24 : am_allT (am_ckc prog_1_method_3_code) 7 am_c24 = true := (am_allT_nd (am_allT_nd am_co24_0 am_co24_1) (am_allT_nd am_co24_2 am_co24_3))
theorem am_tc24 : am_allT (am_tck (am_at am_c24) 0) 7 am_c24 = true := (am_allT_nd (am_allT_nd am_tc24_0 am_tc24_1) (am_allT_nd am_tc24_2 am_tc24_3))
set_option maxRecDepth 100000 in
theorem am_p24 : am_PI am_i24 := ⟨am_pc_of am_co24, ⟨Or.inl ⟨(List.mem_of_getElem? (i := 459) rfl), rfl⟩, by decide +kernel, ⟨by decide +kernel, by decide +kernel⟩, (List.mem_of_getElem? (i := 72) (by decide +kernel)), by decide +kernel⟩, (fun h => absurd h (by decide)), am_ts_of am_tc24⟩
theorem am_co25 : am_allT (am_ckc prog_1_method_19_code) 4 am_c25 = true := by decide +kernel
theorem am_tc25 : am_allT (am_tck (am_at am_c25) 0) 4 am_c25 = true := by decide +kernel
set_option maxRecDepth 100000 in
theorem am_p25 : am_PI am_i25 := ⟨am_pc_of am_co25, ⟨Or.inl ⟨(List.mem_of_getElem? (i := 462) rfl), rfl⟩, by decide +kernel, ⟨by decide +kernel, by decide +kernel⟩, (List.mem_of_getElem? (i := 72) (by decide +kernel)), by decide +kernel⟩, (fun h => absurd h (by decide)), am_ts_of am_tc25⟩
theorem am_co26 : am_allT (am_ckc prog_1_method_24_code) 3 am_c26 = true := by decide +kernel
theorem am_tc26 : am_allT (am_tck (am_at am_c26) 0) 3 am_c26 = true := by decide +kernel
set_option maxRecDepth 100000 in
theorem am_p26 : am_PI am_i26 := ⟨am_pc_of am_co26, ⟨Or.inl ⟨(List.mem_of_getElem? (i := 483) rfl), rfl⟩, by decide +kernel, ⟨by decide +kernel, by decide +kernel⟩, (List.mem_of_getElem? (i := 72) (by decide +kernel)), by decide +kernel⟩, (fun h => absurd h (by decide)), am_ts_of am_tc26⟩
theorem am_co27 : am_allT (am_ckc prog_1_method_20_code) 4 am_c27 = true := by decide +kernel
theorem am_tc27 : am_allT (am_tck (am_at am_c27) 0) 4 am_c27 = true := by decide +kernel
set_option maxRecDepth 100000 in
theorem am_p27 : am_PI am_i27 := ⟨am_pc_of am_co27, ⟨Or.inl ⟨(List.mem_of_getElem? (i := 486) rfl), rfl⟩, by decide +kernel, ⟨by decide +kernel, by decide +kernel⟩, (List.mem_of_getElem? (i := 72) (by decide +kernel)), by decide +kernel⟩, (fun h => absurd h (by decide)), am_ts_of am_tc27⟩
theorem am_co28 : am_allT (am_ckc prog_1_method_22_code) 4 am_c28 = true := by decide +kernel
theorem am_tc28 : am_allT (am_tck (am_at am_c28) 0) 4 am_c28 = true := by decide +kernel
set_option maxRecDepth 100000 in
theorem am_p28 : am_PI am_i28 := ⟨am_pc_of am_co28, ⟨Or.inl ⟨(List.mem_of_getElem? (i := 489) rfl), rfl⟩, by decide +kernel, ⟨by decide +kernel, by decide +kernel⟩, (List.mem_of_getElem? (i := 72) (by decide +kernel)), by decide +kernel⟩, (fun h => absurd h (by decide)), am_ts_of am_tc28⟩
theorem am_co29 : am_allT (am_ckc prog_1_method_25_code) 3 am_c29 = true := by decide +kernel
theorem am_tc29 : am_allT (am_tck (am_at am_c29) 0) 3 am_c29 = true := by decide +kernel
set_option maxRecDepth 100000 in
theorem am_p29 : am_PI am_i29 := ⟨am_pc_of am_co29, ⟨Or.inl ⟨(List.mem_of_getElem? (i := 493) rfl), rfl⟩, by decide +kernel, ⟨by decide +kernel, by decide +kernel⟩, (List.mem_of_getElem? (i := 72) (by decide +kernel)), by decide +kernel⟩, (fun h => absurd h (by decide)), am_ts_of am_tc29⟩
theorem am_co30 : am_allT (am_ckc prog_1_method_26_code) 4 am_c30 = true := by decide +kernel
theorem am_tc30 : am_allT (am_tck (am_at am_c30) 0) 4 am_c30 = true := by decide +kernel
set_option maxRecDepth 100000 in
theorem am_p30 : am_PI am_i30 := ⟨am_pc_of am_co30, ⟨Or.inl ⟨(List.mem_of_getElem? (i := 496) rfl), rfl⟩, by decide +kernel, ⟨by decide +kernel, by decide +kernel⟩, (List.mem_of_getElem? (i := 72) (by decide +kernel)), by decide +kernel⟩, (fun h => absurd h (by decide)), am_ts_of am_tc30⟩
theorem am_co31 : am_allT (am_ckc prog_7_method_6_code) 4 am_c31 = true := by decide +kernel
theorem am_tc31 : am_allT (am_tck (am_at am_c31) 1) 4 am_c31 = true := by decide +kernel
set_option maxRecDepth 100000 in
theorem am_p31 : am_PI am_i31 := ⟨am_pc_of am_co31, ⟨Or.inl ⟨(List.mem_of_getElem? (i := 500) rfl), rfl⟩, by decide +kernel, ⟨by decide +kernel, by decide +kernel⟩, (List.mem_of_getElem? (i := 73) (by decide +kernel)), by decide +kernel⟩, (fun h => absurd h (by decide)), am_ts_of am_tc31⟩
theorem am_co32 : am_allT (am_ckc prog_7_method_13_code) 5 am_c32 = true := by decide +kernel
theorem am_tc32 : am_allT (am_tck (am_at am_c32) 1) 5 am_c32 = true := by decide +kernel
set_option maxRecDepth 100000 in
theorem am_p32 : am_PI am_i32 := ⟨am_pc_of am_co32, ⟨Or.inl ⟨(List.mem_of_getElem? (i := 505) rfl), rfl⟩, by decide +kernel, ⟨by decide +kernel, by decide +kernel⟩, (List.mem_of_getElem? (i := 73) (by decide +kernel)), by decide +kernel⟩, (fun h => absurd h (by decide)), am_ts_of am_tc32⟩
theorem am_co33_0 : am_allT (am_ckc prog_7_method_14_code) 5 am_c33_0 = true := by decide +kernel
theorem am_tc33_0 : am_allT (am_tck (am_at am_c33) 1) 5 am_c33_0 = true := by decide +kernel
theorem am_co33_1 : am_allT (am_ckc prog_7_method_14_code) 5 am_c33_1 = true := by decide +kernel
theorem am_tc33_1 : am_allT (am_tck (am_at am_c33) 1) 5 am_c33_1 = true := by decide +kernel
theorem am_co33 : am_allT (am_ckc prog_7_method_14_code) 6 am_c33 = true := (am_allT_nd am_co33_0 am_co33_1)
theorem am_tc33 : am_allT (am_tck (am_at am_c33) 1) 6 am_c33 = true := (am_allT_nd am_tc33_0 am_tc33_1)
set_option maxRecDepth 100000 in
theorem am_p33 : am_PI am_i33 := ⟨am_pc_of am_co33, ⟨Or.inl ⟨(List.mem_of_getElem? (i := 510) rfl), rfl⟩, by decide +kernel, ⟨by decide +kernel, by decide +kernel⟩, (List.mem_of_getElem? (i := 73) (by decide +kernel)), by decide +kernel⟩, (fun h => absurd h (by decide)), am_ts_of am_tc33⟩
