theorem am_co102 : am_allT (am_ckc prog_9_method_14_code) 5 am_c102 = true := by decide +kernel
theorem am_tc102 : am_allT (am_tck (am_at am_c102) 6) 5 am_c102 = true := by decide +kernel
set_option maxRecDepth 100000 in
theorem am_p102 : am_PI am_i102 := ⟨am_pc_of am_co102, ⟨Or.inl ⟨(List.mem_of_getElem? (i := 809) rfl), rfl⟩, by decide +kernel, ⟨by decide +kernel, by decide +kernel⟩, (List.mem_of_getElem? (i := 78) (by decide +kernel)), by decide +kernel⟩, (fun h => absurd h (by decide)), am_ts_of am_tc102⟩
theorem am_co103_0 : am_allT (am_ckc prog_6_method_12_code) 5 am_c103_0 = true := by decide +kernel
theorem am_tc103_0 : am_allT (am_tck (am_at am_c103) 7) 5 am_c103_0 = true := by decide +kernel
theorem am_co103_1 : am_allT (am_ckc prog_6_method_12_code) 5 am_c103_1 = true := by decide +kernel
theorem am_tc103_1 : am_allT (am_tck (am_at am_c103) 7) 5 am_c103_1 = true := by decide +kernel
theorem am_co103_2 : am_allT (am_ckc prog_6_method_12_code) 5 am_c103_2 = true := by decide +kernel
theorem am_tc103_2 : am_allT (am_tck (am_at am_c103) 7) 5 am_c103_2 = true := by decide +kernel
theorem am_co103_3 : am_allT (am_ckc prog_6_method_12_code) 5 am_c103_3 = true := by decide +kernel
theorem am_tc103_3 : am_allT (am_tck (am_at am_c103) 7) 5 am_c103_3 = true := by decide +kernel
theorem am_co103 : am_allT (am_ckc prog_6_method_12_code) 7 am_c103 = true := (am_allT_nd (am_allT_nd am_co103_0 am_co103_1) (am_allT_nd am_co103_2 am_co103_3))
theorem am_tc103 : am_allT (am_tck (am_at am_c103) 7) 7 am_c103 = true := (am_allT_nd (am_allT_nd am_tc103_0 am_tc103_1) (am_allT_nd am_tc103_2 am_tc103_3))
set_option maxRecDepth 100000 in
theorem am_p103 : am_PI am_i103 := ⟨am_pc_of am_co103, ⟨Or.inl ⟨(List.mem_of_getElem? (i := 813) rfl), rfl⟩, by decide +kernel, ⟨by decide +kernel, by decide +kernel⟩, (List.mem_of_getElem? (i := 79) (by decide +kernel)), by decide +kernel⟩, (fun h => absurd h (by decide)), am_ts_of am_tc103⟩
theorem am_co104 : am_allT (am_ckc prog_9_method_6_code) 5 am_c104 = true := by decide +kernel
theorem am_tc104 : am_allT (am_tck (am_at am_c104) 6) 5 am_c104 = true := by decide +kernel
set_option maxRecDepth 100000 in
theorem am_p104 : am_PI am_i104 := ⟨am_pc_of am_co104, ⟨Or.inl ⟨(List.mem_of_getElem? (i := 820) rfl), rfl⟩, by decide +kernel, ⟨by decide +kernel, by decide +kernel⟩, (List.mem_of_getElem? (i := 78) (by decide +kernel)), by decide +kernel⟩, (fun h => absurd h (by decide)), am_ts_of am_tc104⟩
theorem am_co105_0 : am_allT (am_ckc prog_9_method_7_code) 5 am_c105_0 = true := by decide +kernel
theorem am_tc105_0 : am_allT (am_tck (am_at am_c105) 6) 5 am_c105_0 = true := by decide +kernel
theorem am_co105_1 : am_allT (am_ckc prog_9_method_7_code) 5 am_c105_1 = true := by decide +kernel
theorem am_tc105_1 : am_allT (am_tck (am_at am_c105) 6) 5 am_c105_1 = true := by decide +kernel
theorem am_co105 : am_allT (am_ckc prog_9_method_7_code) 6 am_c105 = true := (am_allT_nd am_co105_0 am_co105_1)
theorem am_tc105 : am_allT (am_tck (am_at am_c105) 6) 6 am_c105 = true := (am_allT_nd am_tc105_0 am_tc105_1)
set_option maxRecDepth 100000 in
theorem am_p105 : am_PI am_i105 := ⟨am_pc_of am_co105, ⟨Or.inl ⟨(List.mem_of_getElem? (i := 824) rfl), rfl⟩, by decide +kernel, ⟨by decide +kernel, by decide +kernel⟩, (List.mem_of_getElem? (i := 78) (by decide +kernel)), by decide +kernel⟩, (fun h => absurd h (by decide)), am_ts_of am_tc105⟩
theorem am_co106_0 : am_allT (am_ckc prog_9_method_8_code) 5 am_c106_0 = true := by decide +kernel
theorem am_tc106_0 : am_allT (am_tck (am_at am_c106) 6) 5 am_c106_0 = true := by decide +kernel
theorem am_co106_1 : am_allT (am_ckc prog_9_method_8_code) 5 am_c106_1 = true := by decide +kernel
theorem am_tc106_1 : am_allT (am_tck (am_at am_c106) 6) 5 am_c106_1 = true := by decide +kernel
theorem am_co106 : am_allT (am_ckc prog_9_method_8_code) 6 am_c106 = true := (am_allT_nd am_co106_0 am_co106_1)
theorem am_tc106 : am_allT (am_tck (am_at am_c106) 6) 6 am_c106 = true := (am_allT_nd am_tc106_0 am_tc106_1)
set_option maxRecDepth 100000 in
theorem am_p106 : am_PI am_i106 := ⟨am_pc_of am_co106, ⟨Or.inl ⟨(List.mem_of_getElem? (i := 832) rfl), rfl⟩, by decide +kernel, ⟨by decide +kernel, by decide +kernel⟩, (List.mem_of_getElem? (i := 78) (by decide +kernel)), by decide +kernel⟩, (fun h => absurd h (by decide)), am_ts_of am_tc106⟩
theorem am_co107 : am_allT (am_ckc prog_9_method_11_code) 4 am_c107 = true := by decide +kernel
theorem am_tc107 : am_allT (am_tck (am_at am_c107) 6) 4 am_c107 = true := by decide +kernel
set_option maxRecDepth 100000 in
theorem am_p107 : am_PI am_i107 := ⟨am_pc_of am_co107, ⟨Or.inl ⟨(List.mem_of_getElem? (i := 836) rfl), rfl⟩, by decide +kernel, ⟨by decide +kernel, by decide +kernel⟩, (List.mem_of_getElem? (i := 78) (by decide +kernel)), by decide +kernel⟩, (fun h => absurd h (by decide)), am_ts_of am_tc107⟩
theorem am_co108 : am_allT (am_ckc prog_9_method_9_code) 4 am_c108 = true := by decide +kernel
theorem am_tc108 : am_allT (am_tck (am_at am_c108) 6) 4 am_c108 = true := by decide +kernel
set_option maxRecDepth 100000 in
theorem am_p108 : am_PI am_i108 := ⟨am_pc_of am_co108, ⟨Or.inl ⟨(List.mem_of_getElem? (i := 841) rfl), rfl⟩, by decide +kernel, ⟨by decide +kernel, by decide +kernel⟩, (List.mem_of_getElem? (i := 78) (by decide +kernel)), by decide +kernel⟩, (fun h => absurd h (by decide)), am_ts_of am_tc108⟩
theorem am_co109 : am_allT (am_ckc prog_6_method_14_code) 4 am_c109 = true := by decide +kernel
theorem am_tc109 : am_allT (am_tck (am_at am_c109) 7) 4 am_c109 = true := by decide +kernel
set_option maxRecDepth 100000 in
theorem am_p109 : am_PI am_i109 := ⟨am_pc_of am_co109, ⟨Or.inl ⟨(List.mem_of_getElem? (i := 846) rfl), rfl⟩, by decide +kernel, ⟨by decide +kernel, by decide +kernel⟩, (List.mem_of_getElem? (i := 79) (by decide +kernel)), by decide +kernel⟩, (fun h => absurd h (by decide)), am_ts_of am_tc109⟩
theorem am_co110_0 : am_allT (am_ckc prog_6_method_13_code) 5 am_c110_0 = true := by decide +kernel
theorem am_tc110_0 : am_allT (am_tck (am_at am_c110) 7) 5 am_c110_0 = true := by decide +kernel
theorem am_co110_1 : am_allT (am_ckc prog_6_method_13_code) 5 am_c110_1 = true := by decide +kernel
theorem am_tc110_1 : am_allT (am_tck (am_at am_c110) 7) 5 am_c110_1 = true := by decide +kernel
theorem am_co110_2 : am_allT (am_ckc prog_6_method_13_code) 5 am_c110_2 = true := by decide +kernel
theorem am_tc110_2 : am_allT (am_tck (am_at am_c110) 7) 5 am_c110_2 = true := by decide +kernel
theorem am_co110_3 : am_allT (am_ckc prog_6_method_13_code) 5 am_c110_3 = true := by decide +kernel
theorem am_tc110_3 : am_allT (am_tck (am_at am_c110) 7) 5 am_c110_3 = true := by decide +kernel
theorem am_co110 : am_allT (am_ckc prog_6_method_13_code) 7 am_c110 = true := (am_allT_nd (am_allT_nd am_co110_0 am_co110_1) (am_allT_nd am_co110_2 am_co110_3))
theorem am_tc110 : am_allT (am_tck (am_at am_c110) 7) 7 am_c110 = true := (am_allT_nd (am_allT_nd am_tc110_0 am_tc110_1) (am_allT_nd am_tc110_2 am_tc110_3))
set_option maxRecDepth 100000 in
theorem am_p110 : am_PI am_i110 := ⟨am_pc_of am_co110, ⟨Or.inl ⟨(List.mem_of_getElem? (i := 850) rfl), rfl⟩, by decide +kernel, ⟨by decide +kernel, by decide +kernel⟩, (List.mem_of_getElem? (i := 79) (by decide +kernel)), by decide +kernel⟩, (fun h => absurd h (by decide)), am_ts_of am_tc110⟩
theorem am_co111_0 : am_allT (am_ckc prog_2_method_7_code) 5 am_c111_0 = true := by decide +kernel
theorem am_tc111_0 : am_allT (am_tck (am_at am_c111) 5) 5 am_c111_0 = true := by decide +kernel
theorem am_co111_1 : am_allT (am_ckc prog_2_method_7_code) 5 am_c111_1 = true := by decide +kernel
theorem am_tc111_1 : am_allT (am_tck (am_at am_c111) 5) 5 am_c111_1 = true := by decide +kernel
theorem am_co111 : am_allT (am_ckc prog_2_method_7_code) 6 am_c111 = true := (am_allT_nd am_co111_0 am_co111_1)
theorem am_tc111 : am_allT (am_tck (am_at am_c111) 5) 6 am_c111 = true := (am_allT_nd am_tc111_0 am_tc111_1)
set_option maxRecDepth 100000 in
theorem am_p111 : am_PI am_i111 := ⟨am_pc_of am_co111, ⟨Or.inl ⟨(List.mem_of_getElem? (i := 855) rfl), rfl⟩, by decide +kernel, ⟨by decide +kernel, by decide +kernel⟩, (List.mem_of_getElem? (i := 77) (by decide +kernel)), by decide +kernel⟩, (fun h => absurd h (by decide)), am_ts_of am_tc111⟩
theorem am_co112_0 : am_allT (am_ckc prog_6_method_8_code) 5 am_c112_0 = true := by decide +kernel
theorem am_tc112_0 : am_allT (am_tck (am_at am_c112) 7) 5 am_c112_0 = true := by decide +kernel
theorem am_co112_1 : am_allT (am_ckc prog_6_method_8_code) 5 am_c112_1 = true := by decide +kernel
theorem am_tc112_1 : am_allT (am_tck (am_at am_c112) 7) 5 am_c112_1 = true := by decide +kernel
theorem am_co112 : am_allT (am_ckc prog_6_method_8_code) 6 am_c112 = true := (am_allT_nd am_co112_0 am_co112_1)
theorem am_tc112 : am_allT (am_tck (am_at am_c112) 7) 6 am_c112 = true := (am_allT_nd am_tc112_0 am_tc112_1)
set_option maxRecDepth 100000 in
theorem am_p112 : am_PI am_i112 := ⟨am_pc_of am_co112, ⟨Or.inl ⟨(List.mem_of_getElem? (i := 859) rfl), rfl⟩, by decide +kernel, ⟨by decide +kernel, by decide +kernel⟩, (List.mem_of_getElem? (i := 79) (by decide +kernel)), by decide +kernel⟩, (fun h => absurd h (by decide)), am_ts_of am_tc112⟩
theorem am_co113 : am_allT (am_ckc prog_6_method_9_code) 4 am_c113 = true := by decide +kernel
theorem am_tc113 : am_allT (am_tck (am_at am_c113) 7) 4 am_c113 = true := by decide +kernel
set_option maxRecDepth 100000 in
theorem am_p113 : am_PI am_i113 := ⟨am_pc_of am_co113, ⟨Or.inl ⟨(List.mem_of_getElem? (i := 863) rfl), rfl⟩, by decide +kernel, ⟨by decide +kernel, by decide +kernel⟩, (List.mem_of_getElem? (i := 79) (by decide +kernel)), by decide +kernel⟩, (fun h => absurd h (by decide)), am_ts_of am_tc113⟩
theorem am_co114 : am_allT (am_ckc prog_6_method_4_code) 2 am_c114 = true := by decide +kernel
theorem am_tc114 : am_allT (am_tck (am_at am_c114) 7) 2 am_c114 = true := by decide +kernel
set_option maxRecDepth 100000 in
theorem am_p114 : am_PI am_i114 := ⟨am_pc_of am_co114, ⟨Or.inl ⟨(List.mem_of_getElem? (i := 867) rfl), rfl⟩, by decide +kernel, ⟨by decide +kernel, by decide +kernel⟩, (List.mem_of_getElem? (i := 79) (by decide +kernel)), by decide +kernel⟩, (fun h => absurd h (by decide)), am_ts_of am_tc114⟩
theorem am_co115 : am_allT (am_ckc prog_6_method_10_code) 5 am_c115 = true := by decide +kernel
theorem am_tc115 : am_allT (am_tck (am_at am_c115) 7) 5 am_c115 = true := by decide +kernel
set_option maxRecDepth 100000 in
theorem am_p115 : am_PI am_i115 := ⟨am_pc_of am_co115, ⟨Or.inl ⟨(List.mem_of_getElem? (i := 871) rfl), rfl⟩, by decide +kernel, ⟨by decide +kernel, by decide +kernel⟩, (List.mem_of_getElem? (i := 79) (by decide +kernel)), by decide +kernel⟩, (fun h => absurd h (by decide)), am_ts_of am_tc115⟩
theorem am_co116 : am_allT (am_ckc prog_2_method_14_code) 5 am_c116 = true := by decide +kernel
theorem am_tc116 : am_allT (am_tck (am_at am_c116) 5) 5 am_c116 = true := by decide +kernel
set_option maxRecDepth 100000 in
theorem am_p116 : am_PI am_i116 := ⟨am_pc_of am_co116, ⟨Or.inl ⟨(List.mem_of_getElem? (i := 875) rfl), rfl⟩, by decide +kernel, ⟨by decide +kernel, by decide +kernel⟩, (List.mem_of_getElem? (i := 77) (by decide +kernel)), by decide +kernel⟩, (fun h => absurd h (by decide)), am_ts_of am_tc116⟩
theorem am_co117 : am_allT (am_ckc prog_6_method_5_code) 2 am_c117 = true := by decide +kernel
theorem am_tc117 : am_allT (am_tck (am_at am_c117) 7) 2 am_c117 = true := by decide +kernel
set_option maxRecDepth 100000 in
theorem am_p117 : am_PI am_i117 := ⟨am_pc_of am_co117, ⟨Or.inl ⟨(List.mem_of_getElem? (i := 879) rfl), rfl⟩, by decide +kernel, ⟨by decide +kernel, by decide +kernel⟩, (List.mem_of_getElem? (i := 79) (by decide +kernel)), by decide +kernel⟩, (fun h => absurd h (by decide)), am_ts_of am_tc117⟩
theorem am_co118 : am_allT (am_ckc prog_6_method_6_code) 2 am_c118 = true := by decide +kernel
theorem am_tc118 : am_allT (am_tck (am_at am_c118) 7) 2 am_c118 = true := by decide +kernel
set_option maxRecDepth 100000 in
theorem am_p118 : am_PI am_i118 := ⟨am_pc_of am_co118, ⟨Or.inl ⟨(List.mem_of_getElem? (i := 883) rfl), rfl⟩, by decide +kernel, ⟨by decide +kernel, by decide +kernel⟩, (List.mem_of_getElem? (i := 79) (by decide +kernel)), by decide +kernel⟩, (fun h => absurd h (by decide)), am_ts_of am_tc118⟩
theorem am_co119 : am_allT (am_ckc prog_2_method_10_code) 2 am_c119 = true := by decide +kernel
theorem am_tc119 : am_allT (am_tck (am_at am_c119) 5) 2 am_c119 = true := by decide +kernel
set_option maxRecDepth 100000 in
theorem am_p119 : am_PI am_i119 := ⟨am_pc_of am_co119, ⟨Or.inl ⟨(List.mem_of_getElem? (i := 887) rfl), rfl⟩, by decide +kernel, ⟨by decide +kernel, by decide +kernel⟩, (List.mem_of_getElem? (i := 77) (by decide +kernel)), by decide +kernel⟩, (fun h => absurd h (by decide)), am_ts_of am_tc119⟩
theorem am_co120 : am_allT (am_ckc prog_2_method_13_code) 2 am_c120 = true := by decide +kernel
theorem am_tc120 : am_allT (am_tck (am_at am_c120) 5) 2 am_c120 = true := by decide +kernel
set_option maxRecDepth 100000 in
theorem am_p120 : am_PI am_i120 := ⟨am_pc_of am_co120, ⟨Or.inl ⟨(List.mem_of_getElem? (i := 907) rfl), rfl⟩, by decide +kernel, ⟨by decide +kernel, by decide +kernel⟩, (List.mem_of_getElem? (i := 77) (by decide +kernel)), by decide +kernel⟩, (fun h => absurd h (by decide)), am_ts_of am_tc120⟩
theorem am_co121 : am_allT (am_ckc method_11_code) 4 am_c121 = true := by decide +kernel
theorem am_tc121 : am_allT (am_tck (am_at am_c121) 14) 4 am_c121 = true := by decide +kernel
set_option maxRecDepth 100000 in
theorem am_p121 : am_PI am_i121 := ⟨am_pc_of am_co121, ⟨Or.inr ⟨[(0, 9, 12, 21)], (List.mem_of_getElem? (i := 910) rfl), ⟨⟨rfl, rfl, rfl, by decide, by decide, _, rfl, (List.mem_of_getElem? (i := 455) (by decide +kernel))⟩, trivial⟩⟩, by decide +kernel, ⟨by decide +kernel, by decide +kernel⟩, (List.mem_of_getElem? (i := 71) (by decide +kernel)), by decide +kernel⟩, (fun h => absurd h (by decide)), am_ts_of am_tc121⟩
theorem am_co122 : am_allT (am_ckc prog_1_method_11_code) 5 am_c122 = true := by decide +kernel
theorem am_tc122 : am_allT (am_tck (am_at am_c122) 0) 5 am_c122 = true := by decide +kernel
set_option maxRecDepth 100000 in
theorem am_p122 : am_PI am_i122 := ⟨am_pc_of am_co122, ⟨Or.inl ⟨(List.mem_of_getElem? (i := 914) rfl), rfl⟩, by decide +kernel, ⟨by decide +kernel, by decide +kernel⟩, (List.mem_of_getElem? (i := 72) (by decide +kernel)), by decide +kernel⟩, (fun h => absurd h (by decide)), am_ts_of am_tc122⟩
theorem am_co123 : am_allT (am_ckc prog_2_method_11_code) 2 am_c123 = true := by decide +kernel
theorem am_tc123 : am_allT (am_tck (am_at am_c123) 5) 2 am_c123 = true := by decide +kernel
set_option maxRecDepth 100000 in
theorem am_p123 : am_PI am_i123 := ⟨am_pc_of am_co123, ⟨Or.inl ⟨(List.mem_of_getElem? (i := 918) rfl), rfl⟩, by decide +kernel, ⟨by decide +kernel, by decide +kernel⟩, (List.mem_of_getElem? (i := 77) (by decide +kernel)), by decide +kernel⟩, (fun h => absurd h (by decide)), am_ts_of am_tc123⟩
theorem am_co124 : am_allT (am_ckc prog_2_method_12_code) 2 am_c124 = true := by decide +kernel
theorem am_tc124 : am_allT (am_tck (am_at am_c124) 5) 2 am_c124 = true := by decide +kernel
set_option maxRecDepth 100000 in
theorem am_p124 : am_PI am_i124 := ⟨am_pc_of am_co124, ⟨Or.inl ⟨(List.mem_of_getElem? (i := 922) rfl), rfl⟩, by decide +kernel, ⟨by decide +kernel, by decide +kernel⟩, (List.mem_of_getElem? (i := 77) (by decide +kernel)), by decide +kernel⟩, (fun h => absurd h (by decide)), am_ts_of am_tc124⟩
theorem am_co125 : am_allT (am_ckc method_12_code) 5 am_c125 = true := by decide +kernel
theorem am_tc125 : am_allT (am_tck (am_at am_c125) 14) 5 am_c125 = true := by decide +kernel
set_option maxRecDepth 100000 in
theorem am_p125 : am_PI am_i125 := ⟨am_pc_of am_co125, ⟨Or.inr ⟨[(0, 21, 24, 13)], (List.mem_of_getElem? (i := 926) rfl), ⟨⟨rfl, rfl, rfl, by decide, by decide, _, rfl, (List.mem_of_getElem? (i := 341) (by decide +kernel))⟩, trivial⟩⟩, by decide +kernel, ⟨by decide +kernel, by decide +kernel⟩, (List.mem_of_getElem? (i := 71) (by decide +kernel)), by decide +kernel⟩, (fun h => absurd h (by decide)), am_ts_of am_tc125⟩
theorem am_co126_0 : am_allT (am_ckc prog_1_method_12_code) 5 am_c126_0 = true := by decide +kernel
theorem am_tc126_0 : am_allT (am_tck (am_at am_c126) 0) 5 am_c126_0 = true := by decide +kernel
theorem am_co126_1 : am_allT (am_ckc prog_1_method_12_code) 5 am_c126_1 = true := by decide +kernel
theorem am_tc126_1 : am_allT (am_tck (am_at am_c126) 0) 5 am_c126_1 = true := by decide +kernel
theorem am_co126 : am_allT (am_ckc prog_1_method_12_code) 6 am_c126 = true := (am_allT_nd am_co126_0 am_co126_1)
theorem am_tc126 : am_allT (am_tck (am_at am_c126) 0) 6 am_c126 = true := (am_allT_nd am_tc126_0 am_tc126_1)
set_option maxRecDepth 100000 in
theorem am_p126 : am_PI am_i126 := ⟨am_pc_of am_co126, ⟨Or.inl ⟨(List.mem_of_getElem? (i := 930) rfl), rfl⟩, by decide +kernel, ⟨by decide +kernel, by decide +kernel⟩, (List.mem_of_getElem? (i := 72) (by decide +kernel)), by decide +kernel⟩, (fun h => absurd h (by decide)), am_ts_of am_tc126⟩
theorem am_co127 : am_allT (am_ckc prog_2_method_8_code) 4 am_c127 = true := by decide +kernel
theorem am_tc127 : am_allT (am_tck (am_at am_c127) 5) 4 am_c127 = true := by decide +kernel
set_option maxRecDepth 100000 in
theorem am_p127 : am_PI am_i127 := ⟨am_pc_of am_co127, ⟨Or.inl ⟨(List.mem_of_getElem? (i := 934) rfl), rfl⟩, by decide +kernel, ⟨by decide +kernel, by decide +kernel⟩, (List.mem_of_getElem? (i := 77) (by decide +kernel)), by decide +kernel⟩, (fun h => absurd h (by decide)), am_ts_of am_tc127⟩
theorem am_co128 : am_allT (am_ckc method_13_code) 4 am_c128 = true := by decide +kernel
theorem am_tc128 : am_allT (am_tck (am_at am_c128) 14) 4 am_c128 = true := by decide +kernel
set_option maxRecDepth 100000 in
theorem am_p128 : am_PI am_i128 := ⟨am_pc_of am_co128, ⟨Or.inr ⟨[(0, 10, 13, 13)], (List.mem_of_getElem? (i := 938) rfl), ⟨⟨rfl, rfl, rfl, by decide, by decide, _, rfl, (List.mem_of_getElem? (i := 341) (by decide +kernel))⟩, trivial⟩⟩, by decide +kernel, ⟨by decide +kernel, by decide +kernel⟩, (List.mem_of_getElem? (i := 71) (by decide +kernel)), by decide +kernel⟩, (fun h => absurd h (by decide)), am_ts_of am_tc128⟩
theorem am_co129 : am_allT (am_ckc prog_1_method_13_code) 4 am_c129 = true := by decide +kernel
theorem am_tc129 : am_allT (am_tck (am_at am_c129) 0) 4 am_c129 = true := by decide +kernel
set_option maxRecDepth 100000 in
theorem am_p129 : am_PI am_i129 := ⟨am_pc_of am_co129, ⟨Or.inl ⟨(List.mem_of_getElem? (i := 942) rfl), rfl⟩, by decide +kernel, ⟨by decide +kernel, by decide +kernel⟩, (List.mem_of_getElem? (i := 72) (by decide +kernel)), by decide +kernel⟩, (fun h => absurd h (by decide)), am_ts_of am_tc129⟩
theorem am_co130 : am_allT (am_ckc prog_2_method_9_code) 4 am_c130 = true := by decide +kernel
theorem am_tc130 : am_allT (am_tck (am_at am_c130) 5) 4 am_c130 = true := by decide +kernel
set_option maxRecDepth 100000 in
theorem am_p130 : am_PI am_i130 := ⟨am_pc_of am_co130, ⟨Or.inl ⟨(List.mem_of_getElem? (i := 946) rfl), rfl⟩, by decide +kernel, ⟨by decide +kernel, by decide +kernel⟩, (List.mem_of_getElem? (i := 77) (by decide +kernel)), by decide +kernel⟩, (fun h => absurd h (by decide)), am_ts_of am_tc130⟩
theorem am_co131 : am_allT (am_ckc prog_6_method_3_code) 2 am_c131 = true := by decide +kernel
theorem am_tc131 : am_allT (am_tck (am_at am_c131) 7) 2 am_c131 = true := by decide +kernel
set_option maxRecDepth 100000 in
theorem am_p131 : am_PI am_i131 := ⟨am_pc_of am_co131, ⟨Or.inl ⟨(List.mem_of_getElem? (i := 950) rfl), rfl⟩, by decide +kernel, ⟨by decide +kernel, by decide +kernel⟩, (List.mem_of_getElem? (i := 79) (by decide +kernel)), by decide +kernel⟩, (fun h => absurd h (by decide)), am_ts_of am_tc131⟩
theorem am_co132 : am_allT (am_ckc method_14_code) 5 am_c132 = true := by decide +kernel
theorem am_tc132 : am_allT (am_tck (am_at am_c132) 14) 5 am_c132 = true := by decide +kernel
set_option maxRecDepth 100000 in
theorem am_p132 : am_PI am_i132 := ⟨am_pc_of am_co132, ⟨Or.inr ⟨[(0, 14, 17, 13), (0, 14, 21, 21)], (List.mem_of_getElem? (i := 953) rfl), ⟨⟨rfl, rfl, rfl, by decide, by decide, _, rfl, (List.mem_of_getElem? (i := 341) (by decide +kernel))⟩, ⟨⟨rfl, rfl, rfl, by decide, by decide, _, rfl, (List.mem_of_getElem? (i := 455) (by decide +kernel))⟩, trivial⟩⟩⟩, by decide +kernel, ⟨by decide +kernel, by decide +kernel⟩, (List.mem_of_getElem? (i := 71) (by decide +kernel)), by decide +kernel⟩, (fun h => absurd h (by decide)), am_ts_of am_tc132⟩
theorem am_co133 : am_allT (am_ckc prog_1_method_14_code) 5 am_c133 = true := by decide +kernel
theorem am_tc133 : am_allT (am_tck (am_at am_c133) 0) 5 am_c133 = true := by decide +kernel
set_option maxRecDepth 100000 in
theorem am_p133 : am_PI am_i133 := ⟨am_pc_of am_co133, ⟨Or.inl ⟨(List.mem_of_getElem? (i := 957) rfl), rfl⟩, by decide +kernel, ⟨by decide +kernel, by decide +kernel⟩, (List.mem_of_getElem? (i := 72) (by decide +kernel)), by decide +kernel⟩, (fun h => absurd h (by decide)), am_ts_of am_tc133⟩
theorem am_co134 : am_allT (am_ckc prog_4_method_2_code) 5 am_c134 = true := by decide +kernel
theorem am_tc134 : am_allT (am_tck (am_at am_c134) 8) 5 am_c134 = true := by decide +kernel
set_option maxRecDepth 100000 in
theorem am_p134 : am_PI am_i134 := ⟨am_pc_of am_co134, ⟨Or.inl ⟨(List.mem_of_getElem? (i := 962) rfl), rfl⟩, by decide +kernel, ⟨by decide +kernel, by decide +kernel⟩, (List.mem_of_getElem? (i := 80) (by decide +kernel)), by decide +kernel⟩, (fun h => absurd h (by decide)), am_ts_of am_tc134⟩
theorem am_co135 : am_allT (am_ckc prog_4_method_6_code) 5 am_c135 = true := by decide +kernel
theorem am_tc135 : am_allT (am_tck (am_at am_c135) 8) 5 am_c135 = true := by decide +kernel
set_option maxRecDepth 100000 in
theorem am_p135 : am_PI am_i135 := ⟨am_pc_of am_co135, ⟨Or.inl ⟨(List.mem_of_getElem? (i := 966) rfl), rfl⟩, by decide +kernel, ⟨by decide +kernel, by decide +kernel⟩, (List.mem_of_getElem? (i := 80) (by decide +kernel)), by decide +kernel⟩, (fun h => absurd h (by decide)), am_ts_of am_tc135⟩
