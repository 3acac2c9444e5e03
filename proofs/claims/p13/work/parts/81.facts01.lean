theorem am_co34 : am_allT (am_ckc prog_7_method_5_code) 4 am_c34 = true := by decide +kernel
theorem am_tc34 : am_allT (am_tck (am_at am_c34) 1) 4 am_c34 = true := by decide +kernel
set_option maxRecDepth 100000 in
theorem am_p34 : am_PI am_i34 := ⟨am_pc_of am_co34, ⟨Or.inl ⟨(List.mem_of_getElem? (i := 514) rfl), rfl⟩, by decide +kernel, ⟨by decide +kernel, by decide +kernel⟩, (List.mem_of_getElem? (i := 73) (by decide +kernel)), by decide +kernel⟩, (fun h => absurd h (by decide)), am_ts_of am_tc34⟩
theorem am_co35 : am_allT (am_ckc method_5_code) 5 am_c35 = true := by decide +kernel
theorem am_tc35 : am_allT (am_tck (am_at am_c35) 14) 5 am_c35 = true := by decide +kernel
set_option maxRecDepth 100000 in
theorem am_p35 : am_PI am_i35 := ⟨am_pc_of am_co35, ⟨Or.inr ⟨[(0, 13, 16, 13), (0, 13, 20, 21)], (List.mem_of_getElem? (i := 517) rfl), ⟨⟨rfl, rfl, rfl, by decide, by decide, _, rfl, (List.mem_of_getElem? (i := 341) (by decide +kernel))⟩, ⟨⟨rfl, rfl, rfl, by decide, by decide, _, rfl, (List.mem_of_getElem? (i := 455) (by decide +kernel))⟩, trivial⟩⟩⟩, by decide +kernel, ⟨by decide +kernel, by decide +kernel⟩, (List.mem_of_getElem? (i := 71) (by decide +kernel)), by decide +kernel⟩, (fun h => absurd h (by decide)), am_ts_of am_tc35⟩
theorem am_co36_0 : am_allT (am_ckc prog_1_method_4_code) 5 am_c36_0 = true := by decide +kernel
theorem am_tc36_0 : am_allT (am_tck (am_at am_c36) 0) 5 am_c36_0 = true := by decide +kernel
theorem am_co36_1 : am_allT (am_ckc prog_1_method_4_code) 5 am_c36_1 = true := by decide +kernel
theorem am_tc36_1 : am_allT (am_tck (am_at am_c36) 0) 5 am_c36_1 = true := by decide +kernel
theorem am_co36_2 : am_allT (am_ckc prog_1_method_4_code) 5 am_c36_2 = true := by decide +kernel
theorem am_tc36_2 : am_allT (am_tck (am_at am_c36) 0) 5 am_c36_2 = true := by decide +kernel
theorem am_co36_3 : am_allT (am_ckc prog_1_method_4_code) 5 am_c36_3 = true := by decide +kernel
theorem am_tc36_3 : am_allT (am_tck (am_at am_c36) 0) 5 am_c36_3 = true := by decide +kernel
theorem am_co36 : am_allT (am_ckc prog_1_method_4_code) 7 am_c36 = true := (am_allT_nd (am_allT_nd am_co36_0 am_co36_1) (am_allT_nd am_co36_2 am_co36_3))
theorem am_tc36 : am_allT (am_tck (am_at am_c36) 0) 7 am_c36 = true := (am_allT_nd (am_allT_nd am_tc36_0 am_tc36_1) (am_allT_nd am_tc36_2 am_tc36_3))
set_option maxRecDepth 100000 in
theorem am_p36 : am_PI am_i36 := ⟨am_pc_of am_co36, ⟨Or.inl ⟨(List.mem_of_getElem? (i := 521) rfl), rfl⟩, by decide +kernel, ⟨by decide +kernel, by decide +kernel⟩, (List.mem_of_getElem? (i := 72) (by decide +kernel)), by decide +kernel⟩, (fun h => absurd h (by decide)), am_ts_of am_tc36⟩
theorem am_co37 : am_allT (am_ckc prog_1_method_21_code) 4 am_c37 = true := by decide +kernel
theorem am_tc37 : am_allT (am_tck (am_at am_c37) 0) 4 am_c37 = true := by decide +kernel
set_option maxRecDepth 100000 in
theorem am_p37 : am_PI am_i37 := ⟨am_pc_of am_co37, ⟨Or.inl ⟨(List.mem_of_getElem? (i := 525) rfl), rfl⟩, by decide +kernel, ⟨by decide +kernel, by decide +kernel⟩, (List.mem_of_getElem? (i := 72) (by decide +kernel)), by decide +kernel⟩, (fun h => absurd h (by decide)), am_ts_of am_tc37⟩
theorem am_co38 : am_allT (am_ckc method_6_code) 4 am_c38 = true := by decide +kernel
theorem am_tc38 : am_allT (am_tck (am_at am_c38) 14) 4 am_c38 = true := by decide +kernel
set_option maxRecDepth 100000 in
theorem am_p38 : am_PI am_i38 := ⟨am_pc_of am_co38, ⟨Or.inr ⟨[(0, 5, 8, 13)], (List.mem_of_getElem? (i := 530) rfl), ⟨⟨rfl, rfl, rfl, by decide, by decide, _, rfl, (List.mem_of_getElem? (i := 341) (by decide +kernel))⟩, trivial⟩⟩, by decide +kernel, ⟨by decide +kernel, by decide +kernel⟩, (List.mem_of_getElem? (i := 71) (by decide +kernel)), by decide +kernel⟩, (fun h => absurd h (by decide)), am_ts_of am_tc38⟩
theorem am_co39 : am_allT (am_ckc prog_1_method_5_code) 4 am_c39 = true := by decide +kernel
theorem am_tc39 : am_allT (am_tck (am_at am_c39) 0) 4 am_c39 = true := by decide +kernel
set_option maxRecDepth 100000 in
theorem am_p39 : am_PI am_i39 := ⟨am_pc_of am_co39, ⟨Or.inl ⟨(List.mem_of_getElem? (i := 534) rfl), rfl⟩, by decide +kernel, ⟨by decide +kernel, by decide +kernel⟩, (List.mem_of_getElem? (i := 72) (by decide +kernel)), by decide +kernel⟩, (fun h => absurd h (by decide)), am_ts_of am_tc39⟩
theorem am_co40 : am_allT (am_ckc prog_7_method_11_code) 2 am_c40 = true := by decide +kernel
theorem am_tc40 : am_allT (am_tck (am_at am_c40) 1) 2 am_c40 = true := by decide +kernel
set_option maxRecDepth 100000 in
theorem am_p40 : am_PI am_i40 := ⟨am_pc_of am_co40, ⟨Or.inl ⟨(List.mem_of_getElem? (i := 538) rfl), rfl⟩, by decide +kernel, ⟨by decide +kernel, by decide +kernel⟩, (List.mem_of_getElem? (i := 73) (by decide +kernel)), by decide +kernel⟩, (fun h => absurd h (by decide)), am_ts_of am_tc40⟩
theorem am_co41 : am_allT (am_ckc method_7_code) 4 am_c41 = true := by decide +kernel
theorem am_tc41 : am_allT (am_tck (am_at am_c41) 14) 4 am_c41 = true := by decide +kernel
set_option maxRecDepth 100000 in
theorem am_p41 : am_PI am_i41 := ⟨am_pc_of am_co41, ⟨Or.inr ⟨[(0, 9, 12, 21)], (List.mem_of_getElem? (i := 541) rfl), ⟨⟨rfl, rfl, rfl, by decide, by decide, _, rfl, (List.mem_of_getElem? (i := 455) (by decide +kernel))⟩, trivial⟩⟩, by decide +kernel, ⟨by decide +kernel, by decide +kernel⟩, (List.mem_of_getElem? (i := 71) (by decide +kernel)), by decide +kernel⟩, (fun h => absurd h (by decide)), am_ts_of am_tc41⟩
theorem am_co42_0 : am_allT (am_ckc prog_1_method_6_code) 5 am_c42_0 = true := by decide +kernel
theorem am_tc42_0 : am_allT (am_tck (am_at am_c42) 0) 5 am_c42_0 = true := by decide +kernel
theorem am_co42_1 : am_allT (am_ckc prog_1_method_6_code) 5 am_c42_1 = true := by decide +kernel
theorem am_tc42_1 : am_allT (am_tck (am_at am_c42) 0) 5 am_c42_1 = true := by decide +kernel
theorem am_co42_2 : am_allT (am_ckc prog_1_method_6_code) 5 am_c42_2 = true := by decide +kernel
theorem am_tc42_2 : am_allT (am_tck (am_at am_c42) 0) 5 am_c42_2 = true := by decide +kernel
theorem am_co42_3 : am_allT (am_ckc prog_1_method_6_code) 5 am_c42_3 = true := by decide +kernel
theorem am_tc42_3 : am_allT (am_tck (am_at am_c42) 0) 5 am_c42_3 = true := by decide +kernel
theorem am_co42 : am_allT (am_ckc prog_1_method_6_code) 7 am_c42 = true := (am_allT_nd (am_allT_nd am_co42_0 am_co42_1) (am_allT_nd am_co42_2 am_co42_3))
theorem am_tc42 : am_allT (am_tck (am_at am_c42) 0) 7 am_c42 = true := (am_allT_nd (am_allT_nd am_tc42_0 am_tc42_1) (am_allT_nd am_tc42_2 am_tc42_3))
set_option maxRecDepth 100000 in
theorem am_p42 : am_PI am_i42 := ⟨am_pc_of am_co42, ⟨Or.inl ⟨(List.mem_of_getElem? (i := 545) rfl), rfl⟩, by decide +kernel, ⟨by decide +kernel, by decide +kernel⟩, (List.mem_of_getElem? (i := 72) (by decide +kernel)), by decide +kernel⟩, (fun h => absurd h (by decide)), am_ts_of am_tc42⟩
theorem am_co43 : am_allT (am_ckc prog_7_method_2_code) 2 am_c43 = true := by decide +kernel
theorem am_tc43 : am_allT (am_tck (am_at am_c43) 1) 2 am_c43 = true := by decide +kernel
set_option maxRecDepth 100000 in
theorem am_p43 : am_PI am_i43 := ⟨am_pc_of am_co43, ⟨Or.inl ⟨(List.mem_of_getElem? (i := 550) rfl), rfl⟩, by decide +kernel, ⟨by decide +kernel, by decide +kernel⟩, (List.mem_of_getElem? (i := 73) (by decide +kernel)), by decide +kernel⟩, (fun h => absurd h (by decide)), am_ts_of am_tc43⟩
theorem am_co44_0 : am_allT (am_ckc prog_3_method_2_code) 5 am_c44_0 = true := by decide +kernel
theorem am_tc44_0 : am_allT (am_tck (am_at am_c44) 2) 5 am_c44_0 = true := by decide +kernel
theorem am_co44_1 : am_allT (am_ckc prog_3_method_2_code) 5 am_c44_1 = true := by decide +kernel
theorem am_tc44_1 : am_allT (am_tck (am_at am_c44) 2) 5 am_c44_1 = true := by decide +kernel
theorem am_co44 : am_allT (am_ckc prog_3_method_2_code) 6 am_c44 = true := (am_allT_nd am_co44_0 am_co44_1)
theorem am_tc44 : am_allT (am_tck (am_at am_c44) 2) 6 am_c44 = true := (am_allT_nd am_tc44_0 am_tc44_1)
set_option maxRecDepth 100000 in
theorem am_p44 : am_PI am_i44 := ⟨am_pc_of am_co44, ⟨Or.inl ⟨(List.mem_of_getElem? (i := 554) rfl), rfl⟩, by decide +kernel, ⟨by decide +kernel, by decide +kernel⟩, (List.mem_of_getElem? (i := 74) (by decide +kernel)), by decide +kernel⟩, (fun h => absurd h (by decide)), am_ts_of am_tc44⟩
theorem am_co45 : am_allT (am_ckc prog_3_method_9_code) 4 am_c45 = true := by decide +kernel
theorem am_tc45 : am_allT (am_tck (am_at am_c45) 2) 4 am_c45 = true := by decide +kernel
set_option maxRecDepth 100000 in
theorem am_p45 : am_PI am_i45 := ⟨am_pc_of am_co45, ⟨Or.inl ⟨(List.mem_of_getElem? (i := 558) rfl), rfl⟩, by decide +kernel, ⟨by decide +kernel, by decide +kernel⟩, (List.mem_of_getElem? (i := 74) (by decide +kernel)), by decide +kernel⟩, (fun h => absurd h (by decide)), am_ts_of am_tc45⟩
theorem am_co46_0 : am_allT (am_ckc prog_3_method_3_code) 5 am_c46_0 = true := by decide +kernel
theorem am_tc46_0 : am_allT (am_tck (am_at am_c46) 2) 5 am_c46_0 = true := by decide +kernel
theorem am_co46_1 : am_allT (am_ckc prog_3_method_3_code) 5 am_c46_1 = true := by decide +kernel
theorem am_tc46_1 : am_allT (am_tck (am_at am_c46) 2) 5 am_c46_1 = true := by decide +kernel
theorem am_co46_2 : am_allT (am_ckc prog_3_method_3_code) 5 am_c46_2 = true := by decide +kernel
theorem am_tc46_2 : am_allT (am_tck (am_at am_c46) 2) 5 am_c46_2 = true := by decide +kernel
theorem am_co46_3 : am_allT (am_ckc prog_3_method_3_code) 5 am_c46_3 = true := by decide +kernel
theorem am_tc46_3 : am_allT (am_tck (am_at am_c46) 2) 5 am_c46_3 = true := by decide +kernel
theorem am_co46 : am_allT (am_ckc prog_3_method_3_code) 7 am_c46 = true := (am_allT_nd (am_allT_nd am_co46_0 am_co46_1) (am_allT_nd am_co46_2 am_co46_3))
theorem am_tc46 : am_allT (am_tck (am_at am_c46) 2) 7 am_c46 = true := (am_allT_nd (am_allT_nd am_tc46_0 am_tc46_1) (am_allT_nd am_tc46_2 am_tc46_3))
set_option maxRecDepth 100000 in
theorem am_p46 : am_PI am_i46 := ⟨am_pc_of am_co46, ⟨Or.inl ⟨(List.mem_of_getElem? (i := 564) rfl), rfl⟩, by decide +kernel, ⟨by decide +kernel, by decide +kernel⟩, (List.mem_of_getElem? (i := 74) (by decide +kernel)), by decide +kernel⟩, (fun h => absurd h (by decide)), am_ts_of am_tc46⟩
theorem am_co47_0 : am_allT (am_ckc prog_7_method_7_code) 5 am_c47_0 = true := by decide +kernel
theorem am_tc47_0 : am_allT (am_tck (am_at am_c47) 1) 5 am_c47_0 = true := by decide +kernel
theorem am_co47_1 : am_allT (am_ckc prog_7_method_7_code) 5 am_c47_1 = true := by decide +kernel
theorem am_tc47_1 : am_allT (am_tck (am_at am_c47) 1) 5 am_c47_1 = true := by decide +kernel
theorem am_co47 : am_allT (am_ckc prog_7_method_7_code) 6 am_c47 = true := (am_allT_nd am_co47_0 am_co47_1)
theorem am_tc47 : am_allT (am_tck (am_at am_c47) 1) 6 am_c47 = true := (am_allT_nd am_tc47_0 am_tc47_1)
set_option maxRecDepth 100000 in
theorem am_p47 : am_PI am_i47 := ⟨am_pc_of am_co47, ⟨Or.inl ⟨(List.mem_of_getElem? (i := 568) rfl), rfl⟩, by decide +kernel, ⟨by decide +kernel, by decide +kernel⟩, (List.mem_of_getElem? (i := 73) (by decide +kernel)), by decide +kernel⟩, (fun h => absurd h (by decide)), am_ts_of am_tc47⟩
theorem am_co48 : am_allT (am_ckc prog_3_method_8_code) 4 am_c48 = true := by decide +kernel
theorem am_tc48 : am_allT (am_tck (am_at am_c48) 2) 4 am_c48 = true := by decide +kernel
set_option maxRecDepth 100000 in
theorem am_p48 : am_PI am_i48 := ⟨am_pc_of am_co48, ⟨Or.inl ⟨(List.mem_of_getElem? (i := 572) rfl), rfl⟩, by decide +kernel, ⟨by decide +kernel, by decide +kernel⟩, (List.mem_of_getElem? (i := 74) (by decide +kernel)), by decide +kernel⟩, (fun h => absurd h (by decide)), am_ts_of am_tc48⟩
theorem am_co49 : am_allT (am_ckc prog_3_method_6_code) 4 am_c49 = true := by decide +kernel
theorem am_tc49 : am_allT (am_tck (am_at am_c49) 2) 4 am_c49 = true := by decide +kernel
set_option maxRecDepth 100000 in
theorem am_p49 : am_PI am_i49 := ⟨am_pc_of am_co49, ⟨Or.inl ⟨(List.mem_of_getElem? (i := 576) rfl), rfl⟩, by decide +kernel, ⟨by decide +kernel, by decide +kernel⟩, (List.mem_of_getElem? (i := 74) (by decide +kernel)), by decide +kernel⟩, (fun h => absurd h (by decide)), am_ts_of am_tc49⟩
theorem am_co50 : am_allT (am_ckc prog_3_method_7_code) 4 am_c50 = true := by decide +kernel
theorem am_tc50 : am_allT (am_tck (am_at am_c50) 2) 4 am_c50 = true := by decide +kernel
set_option maxRecDepth 100000 in
theorem am_p50 : am_PI am_i50 := ⟨am_pc_of am_co50, ⟨Or.inl ⟨(List.mem_of_getElem? (i := 580) rfl), rfl⟩, by decide +kernel, ⟨by decide +kernel, by decide +kernel⟩, (List.mem_of_getElem? (i := 74) (by decide +kernel)), by decide +kernel⟩, (fun h => absurd h (by decide)), am_ts_of am_tc50⟩
theorem am_co51 : am_allT (am_ckc prog_1_method_27_code) 4 am_c51 = true := by decide +kernel
theorem am_tc51 : am_allT (am_tck (am_at am_c51) 0) 4 am_c51 = true := by decide +kernel
set_option maxRecDepth 100000 in
theorem am_p51 : am_PI am_i51 := ⟨am_pc_of am_co51, ⟨Or.inl ⟨(List.mem_of_getElem? (i := 584) rfl), rfl⟩, by decide +kernel, ⟨by decide +kernel, by decide +kernel⟩, (List.mem_of_getElem? (i := 72) (by decide +kernel)), by decide +kernel⟩, (fun h => absurd h (by decide)), am_ts_of am_tc51⟩
theorem am_co52 : am_allT (am_ckc prog_3_method_4_code) 5 am_c52 = true := by decide +kernel
theorem am_tc52 : am_allT (am_tck (am_at am_c52) 2) 5 am_c52 = true := by decide +kernel
set_option maxRecDepth 100000 in
theorem am_p52 : am_PI am_i52 := ⟨am_pc_of am_co52, ⟨Or.inl ⟨(List.mem_of_getElem? (i := 588) rfl), rfl⟩, by decide +kernel, ⟨by decide +kernel, by decide +kernel⟩, (List.mem_of_getElem? (i := 74) (by decide +kernel)), by decide +kernel⟩, (fun h => absurd h (by decide)), am_ts_of am_tc52⟩
theorem am_co53 : am_allT (am_ckc prog_1_method_28_code) 4 am_c53 = true := by decide +kernel
theorem am_tc53 : am_allT (am_tck (am_at am_c53) 0) 4 am_c53 = true := by decide +kernel
set_option maxRecDepth 100000 in
theorem am_p53 : am_PI am_i53 := ⟨am_pc_of am_co53, ⟨Or.inl ⟨(List.mem_of_getElem? (i := 591) rfl), rfl⟩, by decide +kernel, ⟨by decide +kernel, by decide +kernel⟩, (List.mem_of_getElem? (i := 72) (by decide +kernel)), by decide +kernel⟩, (fun h => absurd h (by decide)), am_ts_of am_tc53⟩
theorem am_co54_0 : am_allT (am_ckc prog_1_method_29_code) 5 am_c54_0 = true := by decide +kernel
theorem am_tc54_0 : am_allT (am_tck (am_at am_c54) 0) 5 am_c54_0 = true := by decide +kernel
theorem am_co54_1 : am_allT (am_ckc prog_1_method_29_code) 5 am_c54_1 = true := by decide +kernel
theorem am_tc54_1 : am_allT (am_tck (am_at am_c54) 0) 5 am_c54_1 = true := by decide +kernel
theorem am_co54 : am_allT (am_ckc prog_1_method_29_code) 6 am_c54 = true := (am_allT_nd am_co54_0 am_co54_1)
theorem am_tc54 : am_allT (am_tck (am_at am_c54) 0) 6 am_c54 = true := (am_allT_nd am_tc54_0 am_tc54_1)
set_option maxRecDepth 100000 in
theorem am_p54 : am_PI am_i54 := ⟨am_pc_of am_co54, ⟨Or.inl ⟨(List.mem_of_getElem? (i := 594) rfl), rfl⟩, by decide +kernel, ⟨by decide +kernel, by decide +kernel⟩, (List.mem_of_getElem? (i := 72) (by decide +kernel)), by decide +kernel⟩, (fun h => absurd h (by decide)), am_ts_of am_tc54⟩
theorem am_co55_0 : am_allT (am_ckc prog_3_method_5_code) 5 am_c55_0 = true := by decide +kernel
theorem am_tc55_0 : am_allT (am_tck (am_at am_c55) 2) 5 am_c55_0 = true := by decide +kernel
theorem am_co55_1 : am_allT (am_ckc prog_3_method_5_code) 5 am_c55_1 = true := by decide +kernel
theorem am_tc55_1 : am_allT (am_tck (am_at am_c55) 2) 5 am_c55_1 = true := by decide +kernel
theorem am_co55 : am_allT (am_ckc prog_3_method_5_code) 6 am_c55 = true := (am_allT_nd am_co55_0 am_co55_1)
theorem am_tc55 : am_allT (am_tck (am_at am_c55) 2) 6 am_c55 = true := (am_allT_nd am_tc55_0 am_tc55_1)
set_option maxRecDepth 100000 in
theorem am_p55 : am_PI am_i55 := ⟨am_pc_of am_co55, ⟨Or.inl ⟨(List.mem_of_getElem? (i := 599) rfl), rfl⟩, by decide +kernel, ⟨by decide +kernel, by decide +kernel⟩, (List.mem_of_getElem? (i := 74) (by decide +kernel)), by decide +kernel⟩, (fun h => absurd h (by decide)), am_ts_of am_tc55⟩
theorem am_co56 : am_allT (am_ckc prog_7_method_8_code) 5 am_c56 = true := by decide +kernel
theorem am_tc56 : am_allT (am_tck (am_at am_c56) 1) 5 am_c56 = true := by decide +kernel
set_option maxRecDepth 100000 in
theorem am_p56 : am_PI am_i56 := ⟨am_pc_of am_co56, ⟨Or.inl ⟨(List.mem_of_getElem? (i := 603) rfl), rfl⟩, by decide +kernel, ⟨by decide +kernel, by decide +kernel⟩, (List.mem_of_getElem? (i := 73) (by decide +kernel)), by decide +kernel⟩, (fun h => absurd h (by decide)), am_ts_of am_tc56⟩
theorem am_co57_0 : am_allT (am_ckc prog_8_method_2_code) 5 am_c57_0 = true := by decide +kernel
theorem am_tc57_0 : am_allT (am_tck (am_at am_c57) 3) 5 am_c57_0 = true := by decide +kernel
theorem am_co57_1 : am_allT (am_ckc prog_8_method_2_code) 5 am_c57_1 = true := by decide +kernel
theorem am_tc57_1 : am_allT (am_tck (am_at am_c57) 3) 5 am_c57_1 = true := by decide +kernel
theorem am_co57 : am_allT (am_ckc prog_8_method_2_code) 6 am_c57 = true := (am_allT_nd am_co57_0 am_co57_1)
theorem am_tc57 : am_allT (am_tck (am_at am_c57) 3) 6 am_c57 = true := (am_allT_nd am_tc57_0 am_tc57_1)
set_option maxRecDepth 100000 in
theorem am_p57 : am_PI am_i57 := ⟨am_pc_of am_co57, ⟨Or.inl ⟨(List.mem_of_getElem? (i := 608) rfl), rfl⟩, by decide +kernel, ⟨by decide +kernel, by decide +kernel⟩, (List.mem_of_getElem? (i := 75) (by decide +kernel)), by decide +kernel⟩, (fun h => absurd h (by decide)), am_ts_of am_tc57⟩
theorem am_co58 : am_allT (am_ckc prog_8_method_3_code) 5 am_c58 = true := by decide +kernel
theorem am_tc58 : am_allT (am_tck (am_at am_c58) 3) 5 am_c58 = true := by decide +kernel
set_option maxRecDepth 100000 in
theorem am_p58 : am_PI am_i58 := ⟨am_pc_of am_co58, ⟨Or.inl ⟨(List.mem_of_getElem? (i := 615) rfl), rfl⟩, by decide +kernel, ⟨by decide +kernel, by decide +kernel⟩, (List.mem_of_getElem? (i := 75) (by decide +kernel)), by decide +kernel⟩, (fun h => absurd h (by decide)), am_ts_of am_tc58⟩
theorem am_co59_0 : am_allT (am_ckc prog_8_method_4_code) 5 am_c59_0 = true := by decide +kernel
theorem am_tc59_0 : am_allT (am_tck (am_at am_c59) 3) 5 am_c59_0 = true := by decide +kernel
theorem am_co59_1 : am_allT (am_ckc prog_8_method_4_code) 5 am_c59_1 = true := by decide +kernel
theorem am_tc59_1 : am_allT (am_tck (am_at am_c59) 3) 5 am_c59_1 = true := by decide +kernel
theorem am_co59 : am_allT (am_ckc prog_8_method_4_code) 6 am_c59 = true := (am_allT_nd am_co59_0 am_co59_1)
theorem am_tc59 : am_allT (am_tck (am_at am_c59) 3) 6 am_c59 = true := (am_allT_nd am_tc59_0 am_tc59_1)
set_option maxRecDepth 100000 in
theorem am_p59 : am_PI am_i59 := ⟨am_pc_of am_co59, ⟨Or.inl ⟨(List.mem_of_getElem? (i := 619) rfl), rfl⟩, by decide +kernel, ⟨by decide +kernel, by decide +kernel⟩, (List.mem_of_getElem? (i := 75) (by decide +kernel)), by decide +kernel⟩, (fun h => absurd h (by decide)), am_ts_of am_tc59⟩
theorem am_co60_0 : am_allT (am_ckc prog_8_method_5_code) 5 am_c60_0 = true := by decide +kernel
theorem am_tc60_0 : am_allT (am_tck (am_at am_c60) 3) 5 am_c60_0 = true := by decide +kernel
theorem am_co60_1 : am_allT (am_ckc prog_8_method_5_code) 5 am_c60_1 = true := by decide +kernel
theorem am_tc60_1 : am_allT (am_tck (am_at am_c60) 3) 5 am_c60_1 = true := by decide +kernel
theorem am_co60 : am_allT (am_ckc prog_8_method_5_code) 6 am_c60 = true := (am_allT_nd am_co60_0 am_co60_1)
theorem am_tc60 : am_allT (am_tck (am_at am_c60) 3) 6 am_c60 = true := (am_allT_nd am_tc60_0 am_tc60_1)
set_option maxRecDepth 100000 in
theorem am_p60 : am_PI am_i60 := ⟨am_pc_of am_co60, ⟨Or.inl ⟨(List.mem_of_getElem? (i := 623) rfl), rfl⟩, by decide +kernel, ⟨by decide +kernel, by decide +kernel⟩, (List.mem_of_getElem? (i := 75) (by decide +kernel)), by decide +kernel⟩, (fun h => absurd h (by decide)), am_ts_of am_tc60⟩
theorem am_co61 : am_allT (am_ckc prog_7_method_10_code) 5 am_c61 = true := by decide +kernel
theorem am_tc61 : am_allT (am_tck (am_at am_c61) 1) 5 am_c61 = true := by decide +kernel
set_option maxRecDepth 100000 in
theorem am_p61 : am_PI am_i61 := ⟨am_pc_of am_co61, ⟨Or.inl ⟨(List.mem_of_getElem? (i := 627) rfl), rfl⟩, by decide +kernel, ⟨by decide +kernel, by decide +kernel⟩, (List.mem_of_getElem? (i := 73) (by decide +kernel)), by decide +kernel⟩, (fun h => absurd h (by decide)), am_ts_of am_tc61⟩
theorem am_co62 : am_allT (am_ckc prog_7_method_9_code) 4 am_c62 = true := by decide +kernel
theorem am_tc62 : am_allT (am_tck (am_at am_c62) 1) 4 am_c62 = true := by decide +kernel
set_option maxRecDepth 100000 in
theorem am_p62 : am_PI am_i62 := ⟨am_pc_of am_co62, ⟨Or.inl ⟨(List.mem_of_getElem? (i := 634) rfl), rfl⟩, by decide +kernel, ⟨by decide +kernel, by decide +kernel⟩, (List.mem_of_getElem? (i := 73) (by decide +kernel)), by decide +kernel⟩, (fun h => absurd h (by decide)), am_ts_of am_tc62⟩
theorem am_co63_0 : am_allT (am_ckc prog_5_method_2_code) 5 am_c63_0 = true := by decide +kernel
theorem am_tc63_0 : am_allT (am_tck (am_at am_c63) 4) 5 am_c63_0 = true := by decide +kernel
theorem am_co63_1 : am_allT (am_ckc prog_5_method_2_code) 5 am_c63_1 = true := by decide +kernel
theorem am_tc63_1 : am_allT (am_tck (am_at am_c63) 4) 5 am_c63_1 = true := by decide +kernel
theorem am_co63_2 : am_allT (am_ckc prog_5_method_2_code) 5 am_c63_2 = true := by decide +kernel
theorem am_tc63_2 : am_allT (am_tck (am_at am_c63) 4) 5 am_c63_2 = true := by decide +kernel
theorem am_co63_3 : am_allT (am_ckc prog_5_method_2_code) 5 am_c63_3 = true := by decide +kernel
theorem am_tc63_3 : am_allT (am_tck (am_at am_c63) 4) 5 am_c63_3 = true := by decide +kernel
theorem am_co63 : am_allT (am_ckc prog_5_method_2_code) 7 am_c63 = true := (am_allT_nd (am_allT_nd am_co63_0 am_co63_1) (am_allT_nd am_co63_2 am_co63_3))
theorem am_tc63 : am_allT (am_tck (am_at am_c63) 4) 7 am_c63 = true := (am_allT_nd (am_allT_nd am_tc63_0 am_tc63_1) (am_allT_nd am_tc63_2 am_tc63_3))
set_option maxRecDepth 100000 in
theorem am_p63 : am_PI am_i63 := ⟨am_pc_of am_co63, ⟨Or.inl ⟨(List.mem_of_getElem? (i := 640) rfl), rfl⟩, by decide +kernel, ⟨by decide +kernel, by decide +kernel⟩, (List.mem_of_getElem? (i := 76) (by decide +kernel)), by decide +kernel⟩, (fun h => absurd h (by decide)), am_ts_of am_tc63⟩
theorem am_co64 : am_allT (am_ckc prog_16_method_69_code) 3 am_c64 = true := by decide +kernel
theorem am_tc64 : am_allT (am_tck (am_at am_c64) 16) 3 am_c64 = true := by decide +kernel
set_option maxRecDepth 100000 in
theorem am_p64 : am_PI am_i64 := ⟨am_pc_of am_co64, ⟨Or.inl ⟨(List.mem_of_getElem? (i := 644) rfl), rfl⟩, by decide +kernel, ⟨by decide +kernel, by decide +kernel⟩, (List.mem_of_getElem? (i := 89) (by decide +kernel)), by decide +kernel⟩, (fun h => absurd h (by decide)), am_ts_of am_tc64⟩
theorem am_co65_0 : am_allT (am_ckc prog_5_method_3_code) 5 am_c65_0 = true := by decide +kernel
theorem am_tc65_0 : am_allT (am_tck (am_at am_c65) 4) 5 am_c65_0 = true := by decide +kernel
theorem am_co65_1 : am_allT (am_ckc prog_5_method_3_code) 5 am_c65_1 = true := by decide +kernel
theorem am_tc65_1 : am_allT (am_tck (am_at am_c65) 4) 5 am_c65_1 = true := by decide +kernel
theorem am_co65 : am_allT (am_ckc prog_5_method_3_code) 6 am_c65 = true := (am_allT_nd am_co65_0 am_co65_1)
theorem am_tc65 : am_allT (am_tck (am_at am_c65) 4) 6 am_c65 = true := (am_allT_nd am_tc65_0 am_tc65_1)
set_option maxRecDepth 100000 in
theorem am_p65 : am_PI am_i65 := ⟨am_pc_of am_co65, ⟨Or.inl ⟨(List.mem_of_getElem? (i := 648) rfl), rfl⟩, by decide +kernel, ⟨by decide +kernel, by decide +kernel⟩, (List.mem_of_getElem? (i := 76) (by decide +kernel)), by decide +kernel⟩, (fun h => absurd h (by decide)), am_ts_of am_tc65⟩
theorem am_co66_0 : am_allT (am_ckc prog_5_method_6_code) 5 am_c66_0 = true := by decide +kernel
theorem am_tc66_0 : am_allT (am_tck (am_at am_c66) 4) 5 am_c66_0 = true := by decide +kernel
theorem am_co66_1 : am_allT (am_ckc prog_5_method_6_code) 5 am_c66_1 = true := by decide +kernel
theorem am_tc66_1 : am_allT (am_tck (am_at am_c66) 4) 5 am_c66_1 = true := by decide +kernel
theorem am_co66 : am_allT (am_ckc prog_5_method_6_code) 6 am_c66 = true := (am_allT_nd am_co66_0 am_co66_1)
theorem am_tc66 : am_allT (am_tck (am_at am_c66) 4) 6 am_c66 = true := (am_allT_nd am_tc66_0 am_tc66_1)
set_option maxRecDepth 100000 in
theorem am_p66 : am_PI am_i66 := ⟨am_pc_of am_co66, ⟨Or.inl ⟨(List.mem_of_getElem? (i := 652) rfl), rfl⟩, by decide +kernel, ⟨by decide +kernel, by decide +kernel⟩, (List.mem_of_getElem? (i := 76) (by decide +kernel)), by decide +kernel⟩, (fun h => absurd h (by decide)), am_ts_of am_tc66⟩
theorem am_co67 : am_allT (am_ckc prog_16_method_65_code) 3 am_c67 = true := by decide +kernel
theorem am_tc67 : am_allT (am_tck (am_at am_c67) 16) 3 am_c67 = true := by decide +kernel
set_option maxRecDepth 100000 in
theorem am_p67 : am_PI am_i67 := ⟨am_pc_of am_co67, ⟨Or.inl ⟨(List.mem_of_getElem? (i := 658) rfl), rfl⟩, by decide +kernel, ⟨by decide +kernel, by decide +kernel⟩, (List.mem_of_getElem? (i := 89) (by decide +kernel)), by decide +kernel⟩, (fun h => absurd h (by decide)), am_ts_of am_tc67⟩
