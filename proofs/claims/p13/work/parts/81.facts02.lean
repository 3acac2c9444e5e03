theorem am_co68_0 : am_allT (am_ckc prog_5_method_4_code) 5 am_c68_0 = true := by decide +kernel
theorem am_tc68_0 : am_allT (am_tck (am_at am_c68) 4) 5 am_c68_0 = true := by decide +kernel
theorem am_co68_1 : am_allT (am_ckc prog_5_method_4_code) 5 am_c68_1 = true := by decide +kernel
theorem am_tc68_1 : am_allT (am_tck (am_at am_c68) 4) 5 am_c68_1 = true := by decide +kernel
theorem am_co68 : am_allT (am_ckc prog_5_method_4_code) 6 am_c68 = true := (am_allT_nd am_co68_0 am_co68_1)
theorem am_tc68 : am_allT (am_tck (am_at am_c68) 4) 6 am_c68 = true := (am_allT_nd am_tc68_0 am_tc68_1)
set_option maxRecDepth 100000 in
theorem am_p68 : am_PI am_i68 := ⟨am_pc_of am_co68, ⟨Or.inl ⟨(List.mem_of_getElem? (i := 664) rfl), rfl⟩, by decide +kernel, ⟨by decide +kernel, by decide +kernel⟩, (List.mem_of_getElem? (i := 76) (by decide +kernel)), by decide +kernel⟩, (fun h => absurd h (by decide)), am_ts_of am_tc68⟩
theorem am_co69 : am_allT (am_ckc prog_5_method_5_code) 5 am_c69 = true := by decide +kernel
theorem am_tc69 : am_allT (am_tck (am_at am_c69) 4) 5 am_c69 = true := by decide +kernel
set_option maxRecDepth 100000 in
theorem am_p69 : am_PI am_i69 := ⟨am_pc_of am_co69, ⟨Or.inl ⟨(List.mem_of_getElem? (i := 668) rfl), rfl⟩, by decide +kernel, ⟨by decide +kernel, by decide +kernel⟩, (List.mem_of_getElem? (i := 76) (by decide +kernel)), by decide +kernel⟩, (fun h => absurd h (by decide)), am_ts_of am_tc69⟩
theorem am_co70_0 : am_allT (am_ckc prog_7_method_17_code) 5 am_c70_0 = true := by decide +kernel
theorem am_tc70_0 : am_allT (am_tck (am_at am_c70) 1) 5 am_c70_0 = true := by decide +kernel
theorem am_co70_1 : am_allT (am_ckc prog_7_method_17_code) 5 am_c70_1 = true := by decide +kernel
theorem am_tc70_1 : am_allT (am_tck (am_at am_c70) 1) 5 am_c70_1 = true := by decide +kernel
theorem am_co70 : am_allT (am_ckc prog_7_method_17_code) 6 am_c70 = true := (am_allT_nd am_co70_0 am_co70_1)
theorem am_tc70 : am_allT (am_tck (am_at am_c70) 1) 6 am_c70 = true := (am_allT_nd am_tc70_0 am_tc70_1)
set_option maxRecDepth 100000 in
theorem am_p70 : am_PI am_i70 := ⟨am_pc_of am_co70, ⟨Or.inl ⟨(List.mem_of_getElem? (i := 673) rfl), rfl⟩, by decide +kernel, ⟨by decide +kernel, by decide +kernel⟩, (List.mem_of_getElem? (i := 73) (by decide +kernel)), by decide +kernel⟩, (fun h => absurd h (by decide)), am_ts_of am_tc70⟩
theorem am_co71 : am_allT (am_ckc prog_7_method_18_code) 5 am_c71 = true := by decide +kernel
theorem am_tc71 : am_allT (am_tck (am_at am_c71) 1) 5 am_c71 = true := by decide +kernel
set_option maxRecDepth 100000 in
theorem am_p71 : am_PI am_i71 := ⟨am_pc_of am_co71, ⟨Or.inl ⟨(List.mem_of_getElem? (i := 677) rfl), rfl⟩, by decide +kernel, ⟨by decide +kernel, by decide +kernel⟩, (List.mem_of_getElem? (i := 73) (by decide +kernel)), by decide +kernel⟩, (fun h => absurd h (by decide)), am_ts_of am_tc71⟩
theorem am_co72 : am_allT (am_ckc prog_7_method_19_code) 5 am_c72 = true := by decide +kernel
theorem am_tc72 : am_allT (am_tck (am_at am_c72) 1) 5 am_c72 = true := by decide +kernel
set_option maxRecDepth 100000 in
theorem am_p72 : am_PI am_i72 := ⟨am_pc_of am_co72, ⟨Or.inl ⟨(List.mem_of_getElem? (i := 681) rfl), rfl⟩, by decide +kernel, ⟨by decide +kernel, by decide +kernel⟩, (List.mem_of_getElem? (i := 73) (by decide +kernel)), by decide +kernel⟩, (fun h => absurd h (by decide)), am_ts_of am_tc72⟩
theorem am_co73 : am_allT (am_ckc method_8_code) 5 am_c73 = true := by decide +kernel
theorem am_tc73 : am_allT (am_tck (am_at am_c73) 14) 5 am_c73 = true := by decide +kernel
set_option maxRecDepth 100000 in
theorem am_p73 : am_PI am_i73 := ⟨am_pc_of am_co73, ⟨Or.inr ⟨[(0, 14, 17, 13), (0, 14, 21, 21)], (List.mem_of_getElem? (i := 685) rfl), ⟨⟨rfl, rfl, rfl, by decide, by decide, _, rfl, (List.mem_of_getElem? (i := 341) (by decide +kernel))⟩, ⟨⟨rfl, rfl, rfl, by decide, by decide, _, rfl, (List.mem_of_getElem? (i := 455) (by decide +kernel))⟩, trivial⟩⟩⟩, by decide +kernel, ⟨by decide +kernel, by decide +kernel⟩, (List.mem_of_getElem? (i := 71) (by decide +kernel)), by decide +kernel⟩, (fun h => absurd h (by decide)), am_ts_of am_tc73⟩
theorem am_co74 : am_allT (am_ckc prog_1_method_8_code) 5 am_c74 = true := by decide +kernel
theorem am_tc74 : am_allT (am_tck (am_at am_c74) 0) 5 am_c74 = true := by decide +kernel
set_option maxRecDepth 100000 in
theorem am_p74 : am_PI am_i74 := ⟨am_pc_of am_co74, ⟨Or.inl ⟨(List.mem_of_getElem? (i := 689) rfl), rfl⟩, by decide +kernel, ⟨by decide +kernel, by decide +kernel⟩, (List.mem_of_getElem? (i := 72) (by decide +kernel)), by decide +kernel⟩, (fun h => absurd h (by decide)), am_ts_of am_tc74⟩
theorem am_co75 : am_allT (am_ckc method_9_code) 5 am_c75 = true := by decide +kernel
theorem am_tc75 : am_allT (am_tck (am_at am_c75) 14) 5 am_c75 = true := by decide +kernel
set_option maxRecDepth 100000 in
theorem am_p75 : am_PI am_i75 := ⟨am_pc_of am_co75, ⟨Or.inr ⟨[(0, 12, 15, 13), (0, 12, 19, 21)], (List.mem_of_getElem? (i := 696) rfl), ⟨⟨rfl, rfl, rfl, by decide, by decide, _, rfl, (List.mem_of_getElem? (i := 341) (by decide +kernel))⟩, ⟨⟨rfl, rfl, rfl, by decide, by decide, _, rfl, (List.mem_of_getElem? (i := 455) (by decide +kernel))⟩, trivial⟩⟩⟩, by decide +kernel, ⟨by decide +kernel, by decide +kernel⟩, (List.mem_of_getElem? (i := 71) (by decide +kernel)), by decide +kernel⟩, (fun h => absurd h (by decide)), am_ts_of am_tc75⟩
theorem am_co76 : am_allT (am_ckc prog_1_method_9_code) 5 am_c76 = true := by decide +kernel
theorem am_tc76 : am_allT (am_tck (am_at am_c76) 0) 5 am_c76 = true := by decide +kernel
set_option maxRecDepth 100000 in
theorem am_p76 : am_PI am_i76 := ⟨am_pc_of am_co76, ⟨Or.inl ⟨(List.mem_of_getElem? (i := 700) rfl), rfl⟩, by decide +kernel, ⟨by decide +kernel, by decide +kernel⟩, (List.mem_of_getElem? (i := 72) (by decide +kernel)), by decide +kernel⟩, (fun h => absurd h (by decide)), am_ts_of am_tc76⟩
theorem am_co77 : am_allT (am_ckc method_10_code) 4 am_c77 = true := by decide +kernel
theorem am_tc77 : am_allT (am_tck (am_at am_c77) 14) 4 am_c77 = true := by decide +kernel
set_option maxRecDepth 100000 in
theorem am_p77 : am_PI am_i77 := ⟨am_pc_of am_co77, ⟨Or.inr ⟨[(0, 8, 11, 46)], (List.mem_of_getElem? (i := 705) rfl), ⟨⟨rfl, rfl, rfl, by decide, by decide, _, rfl, (List.mem_of_getElem? (i := 706) (by decide +kernel))⟩, trivial⟩⟩, by decide +kernel, ⟨by decide +kernel, by decide +kernel⟩, (List.mem_of_getElem? (i := 71) (by decide +kernel)), by decide +kernel⟩, (fun h => absurd h (by decide)), am_ts_of am_tc77⟩
theorem am_co78_0 : am_allT (am_ckc prog_1_method_10_code) 5 am_c78_0 = true := by decide +kernel
theorem am_tc78_0 : am_allT (am_tck (am_at am_c78) 0) 5 am_c78_0 = true := by decide +kernel
theorem am_co78_1 : am_allT (am_ckc prog_1_method_10_code) 5 am_c78_1 = true := by decide +kernel
theorem am_tc78_1 : am_allT (am_tck (am_at am_c78) 0) 5 am_c78_1 = true := by decide +kernel
theorem am_co78 : am_allT (am_ckc prog_1_method_10_code) 6 am_c78 = true := (am_allT_nd am_co78_0 am_co78_1)
theorem am_tc78 : am_allT (am_tck (am_at am_c78) 0) 6 am_c78 = true := (am_allT_nd am_tc78_0 am_tc78_1)
set_option maxRecDepth 100000 in
theorem am_p78 : am_PI am_i78 := ⟨am_pc_of am_co78, ⟨Or.inl ⟨(List.mem_of_getElem? (i := 710) rfl), rfl⟩, by decide +kernel, ⟨by decide +kernel, by decide +kernel⟩, (List.mem_of_getElem? (i := 72) (by decide +kernel)), by decide +kernel⟩, (fun h => absurd h (by decide)), am_ts_of am_tc78⟩
theorem am_co79 : am_allT (am_ckc prog_2_method_2_code) 5 am_c79 = true := by decide +kernel
theorem am_tc79 : am_allT (am_tck (am_at am_c79) 5) 5 am_c79 = true := by decide +kernel
set_option maxRecDepth 100000 in
theorem am_p79 : am_PI am_i79 := ⟨am_pc_of am_co79, ⟨Or.inl ⟨(List.mem_of_getElem? (i := 714) rfl), rfl⟩, by decide +kernel, ⟨by decide +kernel, by decide +kernel⟩, (List.mem_of_getElem? (i := 77) (by decide +kernel)), by decide +kernel⟩, (fun h => absurd h (by decide)), am_ts_of am_tc79⟩
theorem am_co80 : am_allT (am_ckc prog_22_method_103_code) 4 am_c80 = true := by decide +kernel
theorem am_tc80 : am_allT (am_tck (am_at am_c80) 15) 4 am_c80 = true := by decide +kernel
set_option maxRecDepth 100000 in
theorem am_p80 : am_PI am_i80 := ⟨am_pc_of am_co80, ⟨Or.inl ⟨(List.mem_of_getElem? (i := 717) rfl), rfl⟩, by decide +kernel, ⟨by decide +kernel, by decide +kernel⟩, (List.mem_of_getElem? (i := 90) (by decide +kernel)), by decide +kernel⟩, (fun h => absurd h (by decide)), am_ts_of am_tc80⟩
theorem am_co81_0 : am_allT (am_ckc prog_2_method_15_code) 5 am_c81_0 = true := by decide +kernel
theorem am_tc81_0 : am_allT (am_tck (am_at am_c81) 5) 5 am_c81_0 = true := by decide +kernel
theorem am_co81_1 : am_allT (am_ckc prog_2_method_15_code) 5 am_c81_1 = true := by decide +kernel
theorem am_tc81_1 : am_allT (am_tck (am_at am_c81) 5) 5 am_c81_1 = true := by decide +kernel
theorem am_co81 : am_allT (am_ckc prog_2_method_15_code) 6 am_c81 = true := (am_allT_nd am_co81_0 am_co81_1)
theorem am_tc81 : am_allT (am_tck (am_at am_c81) 5) 6 am_c81 = true := (am_allT_nd am_tc81_0 am_tc81_1)
set_option maxRecDepth 100000 in
theorem am_p81 : am_PI am_i81 := ⟨am_pc_of am_co81, ⟨Or.inl ⟨(List.mem_of_getElem? (i := 721) rfl), rfl⟩, by decide +kernel, ⟨by decide +kernel, by decide +kernel⟩, (List.mem_of_getElem? (i := 77) (by decide +kernel)), by decide +kernel⟩, (fun h => absurd h (by decide)), am_ts_of am_tc81⟩
theorem am_co82 : am_allT (am_ckc prog_2_method_16_code) 4 am_c82 = true := by decide +kernel
theorem am_tc82 : am_allT (am_tck (am_at am_c82) 5) 4 am_c82 = true := by decide +kernel
set_option maxRecDepth 100000 in
theorem am_p82 : am_PI am_i82 := ⟨am_pc_of am_co82, ⟨Or.inl ⟨(List.mem_of_getElem? (i := 725) rfl), rfl⟩, by decide +kernel, ⟨by decide +kernel, by decide +kernel⟩, (List.mem_of_getElem? (i := 77) (by decide +kernel)), by decide +kernel⟩, (fun h => absurd h (by decide)), am_ts_of am_tc82⟩
theorem am_co83 : am_allT (am_ckc prog_2_method_3_code) 4 am_c83 = true := by decide +kernel
theorem am_tc83 : am_allT (am_tck (am_at am_c83) 5) 4 am_c83 = true := by decide +kernel
set_option maxRecDepth 100000 in
theorem am_p83 : am_PI am_i83 := ⟨am_pc_of am_co83, ⟨Or.inl ⟨(List.mem_of_getElem? (i := 729) rfl), rfl⟩, by decide +kernel, ⟨by decide +kernel, by decide +kernel⟩, (List.mem_of_getElem? (i := 77) (by decide +kernel)), by decide +kernel⟩, (fun h => absurd h (by decide)), am_ts_of am_tc83⟩
theorem am_co84 : am_allT (am_ckc prog_2_method_4_code) 4 am_c84 = true := by decide +kernel
theorem am_tc84 : am_allT (am_tck (am_at am_c84) 5) 4 am_c84 = true := by decide +kernel
set_option maxRecDepth 100000 in
theorem am_p84 : am_PI am_i84 := ⟨am_pc_of am_co84, ⟨Or.inl ⟨(List.mem_of_getElem? (i := 733) rfl), rfl⟩, by decide +kernel, ⟨by decide +kernel, by decide +kernel⟩, (List.mem_of_getElem? (i := 77) (by decide +kernel)), by decide +kernel⟩, (fun h => absurd h (by decide)), am_ts_of am_tc84⟩
theorem am_co85 : am_allT (am_ckc prog_2_method_5_code) 4 am_c85 = true := by decide +kernel
theorem am_tc85 : am_allT (am_tck (am_at am_c85) 5) 4 am_c85 = true := by decide +kernel
set_option maxRecDepth 100000 in
theorem am_p85 : am_PI am_i85 := ⟨am_pc_of am_co85, ⟨Or.inl ⟨(List.mem_of_getElem? (i := 737) rfl), rfl⟩, by decide +kernel, ⟨by decide +kernel, by decide +kernel⟩, (List.mem_of_getElem? (i := 77) (by decide +kernel)), by decide +kernel⟩, (fun h => absurd h (by decide)), am_ts_of am_tc85⟩
theorem am_co86 : am_allT (am_ckc prog_2_method_6_code) 5 am_c86 = true := by decide +kernel
theorem am_tc86 : am_allT (am_tck (am_at am_c86) 5) 5 am_c86 = true := by decide +kernel
set_option maxRecDepth 100000 in
theorem am_p86 : am_PI am_i86 := ⟨am_pc_of am_co86, ⟨Or.inl ⟨(List.mem_of_getElem? (i := 741) rfl), rfl⟩, by decide +kernel, ⟨by decide +kernel, by decide +kernel⟩, (List.mem_of_getElem? (i := 77) (by decide +kernel)), by decide +kernel⟩, (fun h => absurd h (by decide)), am_ts_of am_tc86⟩
theorem am_co87 : am_allT (am_ckc prog_9_method_2_code) 5 am_c87 = true := by decide +kernel
theorem am_tc87 : am_allT (am_tck (am_at am_c87) 6) 5 am_c87 = true := by decide +kernel
set_option maxRecDepth 100000 in
theorem am_p87 : am_PI am_i87 := ⟨am_pc_of am_co87, ⟨Or.inl ⟨(List.mem_of_getElem? (i := 745) rfl), rfl⟩, by decide +kernel, ⟨by decide +kernel, by decide +kernel⟩, (List.mem_of_getElem? (i := 78) (by decide +kernel)), by decide +kernel⟩, (fun h => absurd h (by decide)), am_ts_of am_tc87⟩
theorem am_co88_0 : am_allT (am_ckc prog_9_method_10_code) 5 am_c88_0 = true := by decide +kernel
theorem am_tc88_0 : am_allT (am_tck (am_at am_c88) 6) 5 am_c88_0 = true := by decide +kernel
theorem am_co88_1 : am_allT (am_ckc prog_9_method_10_code) 5 am_c88_1 = true := by decide +kernel
theorem am_tc88_1 : am_allT (am_tck (am_at am_c88) 6) 5 am_c88_1 = true := by decide +kernel
theorem am_co88_2 : am_allT (am_ckc prog_9_method_10_code) 5 am_c88_2 = true := by decide +kernel
theorem am_tc88_2 : am_allT (am_tck (am_at am_c88) 6) 5 am_c88_2 = true := by decide +kernel
theorem am_co88_3 : am_allT (am_ckc prog_9_method_10_code) 5 am_c88_3 = true := by decide +kernel
theorem am_tc88_3 : am_allT (am_tck (am_at am_c88) 6) 5 am_c88_3 = true := by decide +kernel
theorem am_co88 : am_allT (am_ckc prog_9_method_10_code) 7 am_c88 = true := (am_allT_nd (am_allT_nd am_co88_0 am_co88_1) (am_allT_nd am_co88_2 am_co88_3))
theorem am_tc88 : am_allT (am_tck (am_at am_c88) 6) 7 am_c88 = true := (am_allT_nd (am_allT_nd am_tc88_0 am_tc88_1) (am_allT_nd am_tc88_2 am_tc88_3))
set_option maxRecDepth 100000 in
theorem am_p88 : am_PI am_i88 := ⟨am_pc_of am_co88, ⟨Or.inl ⟨(List.mem_of_getElem? (i := 749) rfl), rfl⟩, by decide +kernel, ⟨by decide +kernel, by decide +kernel⟩, (List.mem_of_getElem? (i := 78) (by decide +kernel)), by decide +kernel⟩, (fun h => absurd h (by decide)), am_ts_of am_tc88⟩
theorem am_co89_0 : am_allT (am_ckc prog_9_method_13_code) 5 am_c89_0 = true := by decide +kernel
theorem am_tc89_0 : am_allT (am_tck (am_at am_c89) 6) 5 am_c89_0 = true := by decide +kernel
theorem am_co89_1 : am_allT (am_ckc prog_9_method_13_code) 5 am_c89_1 = true := by decide +kernel
theorem am_tc89_1 : am_allT (am_tck (am_at am_c89) 6) 5 am_c89_1 = true := by decide +kernel
theorem am_co89 : am_allT (am_ckc prog_9_method_13_code) 6 am_c89 = true := (am_allT_nd am_co89_0 am_co89_1)
theorem am_tc89 : am_allT (am_tck (am_at am_c89) 6) 6 am_c89 = true := (am_allT_nd am_tc89_0 am_tc89_1)
set_option maxRecDepth 100000 in
theorem am_p89 : am_PI am_i89 := ⟨am_pc_of am_co89, ⟨Or.inl ⟨(List.mem_of_getElem? (i := 754) rfl), rfl⟩, by decide +kernel, ⟨by decide +kernel, by decide +kernel⟩, (List.mem_of_getElem? (i := 78) (by decide +kernel)), by decide +kernel⟩, (fun h => absurd h (by decide)), am_ts_of am_tc89⟩
theorem am_co90_0 : am_allT (am_ckc prog_6_method_2_code) 5 am_c90_0 = true := by decide +kernel
theorem am_tc90_0 : am_allT (am_tck (am_at am_c90) 7) 5 am_c90_0 = true := by decide +kernel
theorem am_co90_1 : am_allT (am_ckc prog_6_method_2_code) 5 am_c90_1 = true := by decide +kernel
theorem am_tc90_1 : am_allT (am_tck (am_at am_c90) 7) 5 am_c90_1 = true := by decide +kernel
theorem am_co90_2 : am_allT (am_ckc prog_6_method_2_code) 5 am_c90_2 = true := by decide +kernel
theorem am_tc90_2 : am_allT (am_tck (am_at am_c90) 7) 5 am_c90_2 = true := by decide +kernel
theorem am_co90_3 : am_allT (am_ckc prog_6_method_2_code) 5 am_c90_3 = true := by decide +kernel
theorem am_tc90_3 : am_allT (am_tck (am_at am_c90) 7) 5 am_c90_3 = true := by decide +kernel
theorem am_co90 : am_allT (am_ckc prog_6_method_2_code) 7 am_c90 = true := (am_allT_nd (am_allT_nd am_co90_0 am_co90_1) (am_allT_nd am_co90_2 am_co90_3))
theorem am_tc90 : am_allT (am_tck (am_at am_c90) 7) 7 am_c90 = true := (am_allT_nd (am_allT_nd am_tc90_0 am_tc90_1) (am_allT_nd am_tc90_2 am_tc90_3))
set_option maxRecDepth 100000 in
theorem am_p90 : am_PI am_i90 := ⟨am_pc_of am_co90, ⟨Or.inl ⟨(List.mem_of_getElem? (i := 759) rfl), rfl⟩, by decide +kernel, ⟨by decide +kernel, by decide +kernel⟩, (List.mem_of_getElem? (i := 79) (by decide +kernel)), by decide +kernel⟩, (fun h => absurd h (by decide)), am_ts_of am_tc90⟩
theorem am_co91 : am_allT (am_ckc prog_6_method_7_code) 4 am_c91 = true := by decide +kernel
theorem am_tc91 : am_allT (am_tck (am_at am_c91) 7) 4 am_c91 = true := by decide +kernel
set_option maxRecDepth 100000 in
theorem am_p91 : am_PI am_i91 := ⟨am_pc_of am_co91, ⟨Or.inl ⟨(List.mem_of_getElem? (i := 765) rfl), rfl⟩, by decide +kernel, ⟨by decide +kernel, by decide +kernel⟩, (List.mem_of_getElem? (i := 79) (by decide +kernel)), by decide +kernel⟩, (fun h => absurd h (by decide)), am_ts_of am_tc91⟩
theorem am_co92_0 : am_allT (am_ckc prog_6_method_11_code) 5 am_c92_0 = true := by decide +kernel
theorem am_tc92_0 : am_allT (am_tck (am_at am_c92) 7) 5 am_c92_0 = true := by decide +kernel
theorem am_co92_1 : am_allT (am_ckc prog_6_method_11_code) 5 am_c92_1 = true := by decide +kernel
theorem am_tc92_1 : am_allT (am_tck (am_at am_c92) 7) 5 am_c92_1 = true := by decide +kernel
theorem am_co92 : am_allT (am_ckc prog_6_method_11_code) 6 am_c92 = true := (am_allT_nd am_co92_0 am_co92_1)
theorem am_tc92 : am_allT (am_tck (am_at am_c92) 7) 6 am_c92 = true := (am_allT_nd am_tc92_0 am_tc92_1)
set_option maxRecDepth 100000 in
theorem am_p92 : am_PI am_i92 := ⟨am_pc_of am_co92, ⟨Or.inl ⟨(List.mem_of_getElem? (i := 770) rfl), rfl⟩, by decide +kernel, ⟨by decide +kernel, by decide +kernel⟩, (List.mem_of_getElem? (i := 79) (by decide +kernel)), by decide +kernel⟩, (fun h => absurd h (by decide)), am_ts_of am_tc92⟩
theorem am_co93 : am_allT (am_ckc prog_6_method_16_code) 5 am_c93 = true := by decide +kernel
theorem am_tc93 : am_allT (am_tck (am_at am_c93) 7) 5 am_c93 = true := by decide +kernel
set_option maxRecDepth 100000 in
theorem am_p93 : am_PI am_i93 := ⟨am_pc_of am_co93, ⟨Or.inl ⟨(List.mem_of_getElem? (i := 774) rfl), rfl⟩, by decide +kernel, ⟨by decide +kernel, by decide +kernel⟩, (List.mem_of_getElem? (i := 79) (by decide +kernel)), by decide +kernel⟩, (fun h => absurd h (by decide)), am_ts_of am_tc93⟩
theorem am_co94 : am_allT (am_ckc prog_9_method_3_code) 4 am_c94 = true := by decide +kernel
theorem am_tc94 : am_allT (am_tck (am_at am_c94) 6) 4 am_c94 = true := by decide +kernel
set_option maxRecDepth 100000 in
theorem am_p94 : am_PI am_i94 := ⟨am_pc_of am_co94, ⟨Or.inl ⟨(List.mem_of_getElem? (i := 778) rfl), rfl⟩, by decide +kernel, ⟨by decide +kernel, by decide +kernel⟩, (List.mem_of_getElem? (i := 78) (by decide +kernel)), by decide +kernel⟩, (fun h => absurd h (by decide)), am_ts_of am_tc94⟩
theorem am_co95 : am_allT (am_ckc prog_9_method_4_code) 3 am_c95 = true := by decide +kernel
theorem am_tc95 : am_allT (am_tck (am_at am_c95) 6) 3 am_c95 = true := by decide +kernel
set_option maxRecDepth 100000 in
theorem am_p95 : am_PI am_i95 := ⟨am_pc_of am_co95, ⟨Or.inl ⟨(List.mem_of_getElem? (i := 782) rfl), rfl⟩, by decide +kernel, ⟨by decide +kernel, by decide +kernel⟩, (List.mem_of_getElem? (i := 78) (by decide +kernel)), by decide +kernel⟩, (fun h => absurd h (by decide)), am_ts_of am_tc95⟩
theorem am_co96 : am_allT (am_ckc prog_9_method_15_code) 5 am_c96 = true := by decide +kernel
theorem am_tc96 : am_allT (am_tck (am_at am_c96) 6) 5 am_c96 = true := by decide +kernel
set_option maxRecDepth 100000 in
theorem am_p96 : am_PI am_i96 := ⟨am_pc_of am_co96, ⟨Or.inl ⟨(List.mem_of_getElem? (i := 786) rfl), rfl⟩, by decide +kernel, ⟨by decide +kernel, by decide +kernel⟩, (List.mem_of_getElem? (i := 78) (by decide +kernel)), by decide +kernel⟩, (fun h => absurd h (by decide)), am_ts_of am_tc96⟩
theorem am_co97 : am_allT (am_ckc prog_6_method_15_code) 5 am_c97 = true := by decide +kernel
theorem am_tc97 : am_allT (am_tck (am_at am_c97) 7) 5 am_c97 = true := by decide +kernel
set_option maxRecDepth 100000 in
theorem am_p97 : am_PI am_i97 := ⟨am_pc_of am_co97, ⟨Or.inl ⟨(List.mem_of_getElem? (i := 790) rfl), rfl⟩, by decide +kernel, ⟨by decide +kernel, by decide +kernel⟩, (List.mem_of_getElem? (i := 79) (by decide +kernel)), by decide +kernel⟩, (fun h => absurd h (by decide)), am_ts_of am_tc97⟩
theorem am_co98 : am_allT (am_ckc prog_6_method_17_code) 5 am_c98 = true := by decide +kernel
theorem am_tc98 : am_allT (am_tck (am_at am_c98) 7) 5 am_c98 = true := by decide +kernel
set_option maxRecDepth 100000 in
theorem am_p98 : am_PI am_i98 := ⟨am_pc_of am_co98, ⟨Or.inl ⟨(List.mem_of_getElem? (i := 794) rfl), rfl⟩, by decide +kernel, ⟨by decide +kernel, by decide +kernel⟩, (List.mem_of_getElem? (i := 79) (by decide +kernel)), by decide +kernel⟩, (fun h => absurd h (by decide)), am_ts_of am_tc98⟩
theorem am_co99 : am_allT (am_ckc prog_1_method_23_code) 4 am_c99 = true := by decide +kernel
theorem am_tc99 : am_allT (am_tck (am_at am_c99) 0) 4 am_c99 = true := by decide +kernel
set_option maxRecDepth 100000 in
theorem am_p99 : am_PI am_i99 := ⟨am_pc_of am_co99, ⟨Or.inl ⟨(List.mem_of_getElem? (i := 797) rfl), rfl⟩, by decide +kernel, ⟨by decide +kernel, by decide +kernel⟩, (List.mem_of_getElem? (i := 72) (by decide +kernel)), by decide +kernel⟩, (fun h => absurd h (by decide)), am_ts_of am_tc99⟩
theorem am_co100 : am_allT (am_ckc prog_9_method_5_code) 4 am_c100 = true := by decide +kernel
theorem am_tc100 : am_allT (am_tck (am_at am_c100) 6) 4 am_c100 = true := by decide +kernel
set_option maxRecDepth 100000 in
theorem am_p100 : am_PI am_i100 := ⟨am_pc_of am_co100, ⟨Or.inl ⟨(List.mem_of_getElem? (i := 801) rfl), rfl⟩, by decide +kernel, ⟨by decide +kernel, by decide +kernel⟩, (List.mem_of_getElem? (i := 78) (by decide +kernel)), by decide +kernel⟩, (fun h => absurd h (by decide)), am_ts_of am_tc100⟩
theorem am_co101 : am_allT (am_ckc prog_9_method_12_code) 5 am_c101 = true := by decide +kernel
theorem am_tc101 : am_allT (am_tck (am_at am_c101) 6) 5 am_c101 = true := by decide +kernel
set_option maxRecDepth 100000 in
theorem am_p101 : am_PI am_i101 := ⟨am_pc_of am_co101, ⟨Or.inl ⟨(List.mem_of_getElem? (i := 805) rfl), rfl⟩, by decide +kernel, ⟨by decide +kernel, by decide +kernel⟩, (List.mem_of_getElem? (i := 78) (by decide +kernel)), by decide +kernel⟩, (fun h => absurd h (by decide)), am_ts_of am_tc101⟩
