theorem am_co136 : am_allT (am_ckc prog_4_method_11_code) 4 am_c136 = true := by decide +kernel
theorem am_tc136 : am_allT (am_tck (am_at am_c136) 8) 4 am_c136 = true := by decide +kernel
set_option maxRecDepth 100000 in
theorem am_p136 : am_PI am_i136 := ⟨am_pc_of am_co136, ⟨Or.inl ⟨(List.mem_of_getElem? (i := 971) rfl), rfl⟩, by decide +kernel, ⟨by decide +kernel, by decide +kernel⟩, (List.mem_of_getElem? (i := 80) (by decide +kernel)), by decide +kernel⟩, (fun h => absurd h (by decide)), am_ts_of am_tc136⟩
theorem am_co137_0 : am_allT (am_ckc prog_4_method_7_code) 5 am_c137_0 = true := by decide +kernel
theorem am_tc137_0 : am_allT (am_tck (am_at am_c137) 8) 5 am_c137_0 = true := by decide +kernel
theorem am_co137_1 : am_allT (am_ckc prog_4_method_7_code) 5 am_c137_1 = true := by decide +kernel
theorem am_tc137_1 : am_allT (am_tck (am_at am_c137) 8) 5 am_c137_1 = true := by decide +kernel
theorem am_co137_2 : am_allT (am_ckc prog_4_method_7_code) 5 am_c137_2 = true := by decide +kernel
theorem am_tc137_2 : am_allT (am_tck (am_at am_c137) 8) 5 am_c137_2 = true := by decide +kernel
theorem am_co137_3 : am_allT (am_ckc prog_4_method_7_code) 5 am_c137_3 = true := by decide +kernel
theorem am_tc137_3 : am_allT (am_tck (am_at am_c137) 8) 5 am_c137_3 = true := by decide +kernel
theorem am_co137 : am_allT (am_ckc prog_4_method_7_code) 7 am_c137 = true := (am_allT_nd (am_allT_nd am_co137_0 am_co137_1) (am_allT_nd am_co137_2 am_co137_3))
theorem am_tc137 : am_allT (am_tck (am_at am_c137) 8) 7 am_c137 = true := (am_allT_nd (am_allT_nd am_tc137_0 am_tc137_1) (am_allT_nd am_tc137_2 am_tc137_3))
set_option maxRecDepth 100000 in
theorem am_p137 : am_PI am_i137 := ⟨am_pc_of am_co137, ⟨Or.inl ⟨(List.mem_of_getElem? (i := 977) rfl), rfl⟩, by decide +kernel, ⟨by decide +kernel, by decide +kernel⟩, (List.mem_of_getElem? (i := 80) (by decide +kernel)), by decide +kernel⟩, (fun h => absurd h (by decide)), am_ts_of am_tc137⟩
theorem am_co138 : am_allT (am_ckc prog_4_method_10_code) 4 am_c138 = true := by decide +kernel
theorem am_tc138 : am_allT (am_tck (am_at am_c138) 8) 4 am_c138 = true := by decide +kernel
set_option maxRecDepth 100000 in
theorem am_p138 : am_PI am_i138 := ⟨am_pc_of am_co138, ⟨Or.inl ⟨(List.mem_of_getElem? (i := 982) rfl), rfl⟩, by decide +kernel, ⟨by decide +kernel, by decide +kernel⟩, (List.mem_of_getElem? (i := 80) (by decide +kernel)), by decide +kernel⟩, (fun h => absurd h (by decide)), am_ts_of am_tc138⟩
theorem am_co139 : am_allT (am_ckc prog_4_method_8_code) 5 am_c139 = true := by decide +kernel
theorem am_tc139 : am_allT (am_tck (am_at am_c139) 8) 5 am_c139 = true := by decide +kernel
set_option maxRecDepth 100000 in
theorem am_p139 : am_PI am_i139 := ⟨am_pc_of am_co139, ⟨Or.inl ⟨(List.mem_of_getElem? (i := 986) rfl), rfl⟩, by decide +kernel, ⟨by decide +kernel, by decide +kernel⟩, (List.mem_of_getElem? (i := 80) (by decide +kernel)), by decide +kernel⟩, (fun h => absurd h (by decide)), am_ts_of am_tc139⟩
theorem am_co140 : am_allT (am_ckc prog_4_method_5_code) 4 am_c140 = true := by decide +kernel
theorem am_tc140 : am_allT (am_tck (am_at am_c140) 8) 4 am_c140 = true := by decide +kernel
set_option maxRecDepth 100000 in
theorem am_p140 : am_PI am_i140 := ⟨am_pc_of am_co140, ⟨Or.inl ⟨(List.mem_of_getElem? (i := 992) rfl), rfl⟩, by decide +kernel, ⟨by decide +kernel, by decide +kernel⟩, (List.mem_of_getElem? (i := 80) (by decide +kernel)), by decide +kernel⟩, (fun h => absurd h (by decide)), am_ts_of am_tc140⟩
theorem am_co141 : am_allT (am_ckc prog_4_method_12_code) 4 am_c141 = true := by decide +kernel
theorem am_tc141 : am_allT (am_tck (am_at am_c141) 8) 4 am_c141 = true := by decide +kernel
set_option maxRecDepth 100000 in
theorem am_p141 : am_PI am_i141 := ⟨am_pc_of am_co141, ⟨Or.inl ⟨(List.mem_of_getElem? (i := 996) rfl), rfl⟩, by decide +kernel, ⟨by decide +kernel, by decide +kernel⟩, (List.mem_of_getElem? (i := 80) (by decide +kernel)), by decide +kernel⟩, (fun h => absurd h (by decide)), am_ts_of am_tc141⟩
theorem am_co142_0 : am_allT (am_ckc prog_4_method_9_code) 5 am_c142_0 = true := by decide +kernel
theorem am_tc142_0 : am_allT (am_tck (am_at am_c142) 8) 5 am_c142_0 = true := by decide +kernel
theorem am_co142_1 : am_allT (am_ckc prog_4_method_9_code) 5 am_c142_1 = true := by decide +kernel
theorem am_tc142_1 : am_allT (am_tck (am_at am_c142) 8) 5 am_c142_1 = true := by decide +kernel
theorem am_co142 : am_allT (am_ckc prog_4_method_9_code) 6 am_c142 = true := (am_allT_nd am_co142_0 am_co142_1)
theorem am_tc142 : am_allT (am_tck (am_at am_c142) 8) 6 am_c142 = true := (am_allT_nd am_tc142_0 am_tc142_1)
set_option maxRecDepth 100000 in
theorem am_p142 : am_PI am_i142 := ⟨am_pc_of am_co142, ⟨Or.inl ⟨(List.mem_of_getElem? (i := 1001) rfl), rfl⟩, by decide +kernel, ⟨by decide +kernel, by decide +kernel⟩, (List.mem_of_getElem? (i := 80) (by decide +kernel)), by decide +kernel⟩, (fun h => absurd h (by decide)), am_ts_of am_tc142⟩
theorem am_co143 : am_allT (am_ckc method_15_code) 4 am_c143 = true := by decide +kernel
theorem am_tc143 : am_allT (am_tck (am_at am_c143) 14) 4 am_c143 = true := by decide +kernel
set_option maxRecDepth 100000 in
theorem am_p143 : am_PI am_i143 := ⟨am_pc_of am_co143, ⟨Or.inr ⟨[(0, 9, 12, 13)], (List.mem_of_getElem? (i := 1005) rfl), ⟨⟨rfl, rfl, rfl, by decide, by decide, _, rfl, (List.mem_of_getElem? (i := 341) (by decide +kernel))⟩, trivial⟩⟩, by decide +kernel, ⟨by decide +kernel, by decide +kernel⟩, (List.mem_of_getElem? (i := 71) (by decide +kernel)), by decide +kernel⟩, (fun h => absurd h (by decide)), am_ts_of am_tc143⟩
theorem am_co144 : am_allT (am_ckc prog_1_method_16_code) 4 am_c144 = true := by decide +kernel
theorem am_tc144 : am_allT (am_tck (am_at am_c144) 0) 4 am_c144 = true := by decide +kernel
set_option maxRecDepth 100000 in
theorem am_p144 : am_PI am_i144 := ⟨am_pc_of am_co144, ⟨Or.inl ⟨(List.mem_of_getElem? (i := 1009) rfl), rfl⟩, by decide +kernel, ⟨by decide +kernel, by decide +kernel⟩, (List.mem_of_getElem? (i := 72) (by decide +kernel)), by decide +kernel⟩, (fun h => absurd h (by decide)), am_ts_of am_tc144⟩
theorem am_co145_0 : am_allT (am_ckc prog_11_method_1_code) 5 am_c145_0 = true := by decide +kernel
theorem am_tc145_0 : am_allT (am_tck (am_at am_c145) 9) 5 am_c145_0 = true := by decide +kernel
theorem am_co145_1 : am_allT (am_ckc prog_11_method_1_code) 5 am_c145_1 = true := by decide +kernel
theorem am_tc145_1 : am_allT (am_tck (am_at am_c145) 9) 5 am_c145_1 = true := by decide +kernel
theorem am_co145_2 : am_allT (am_ckc prog_11_method_1_code) 5 am_c145_2 = true := by decide +kernel
theorem am_tc145_2 : am_allT (am_tck (am_at am_c145) 9) 5 am_c145_2 = true := by decide +kernel
theorem am_co145_3 : am_allT (am_ckc prog_11_method_1_code) 5 am_c145_3 = true := by decide +kernel
theorem am_tc145_3 : am_allT (am_tck (am_at am_c145) 9) 5 am_c145_3 = true := by decide +kernel
theorem am_co145 : am_allT (am_ckc prog_11_method_1_code) 7 am_c145 = true := (am_allT_nd (am_allT_nd am_co145_0 am_co145_1) (am_allT_nd am_co145_2 am_co145_3))
theorem am_tc145 : am_allT (am_tck (am_at am_c145) 9) 7 am_c145 = true := (am_allT_nd (am_allT_nd am_tc145_0 am_tc145_1) (am_allT_nd am_tc145_2 am_tc145_3))
set_option maxRecDepth 100000 in
theorem am_p145 : am_PI am_i145 := ⟨am_pc_of am_co145, ⟨Or.inl ⟨(List.mem_of_getElem? (i := 1017) rfl), rfl⟩, by decide +kernel, ⟨by decide +kernel, by decide +kernel⟩, (List.mem_of_getElem? (i := 81) (by decide +kernel)), by decide +kernel⟩, (fun _ => rfl), am_ts_of am_tc145⟩
theorem am_co146 : am_allT (am_ckc prog_11_method_2_code) 2 am_c146 = true := by decide +kernel
theorem am_tc146 : am_allT (am_tck (am_at am_c146) 9) 2 am_c146 = true := by decide +kernel
set_option maxRecDepth 100000 in
theorem am_p146 : am_PI am_i146 := ⟨am_pc_of am_co146, ⟨Or.inl ⟨(List.mem_of_getElem? (i := 1131) rfl), rfl⟩, by decide +kernel, ⟨by decide +kernel, by decide +kernel⟩, (List.mem_of_getElem? (i := 81) (by decide +kernel)), by decide +kernel⟩, (fun h => absurd h (by decide)), am_ts_of am_tc146⟩
theorem am_co147_0 : am_allT (am_ckc prog_11_method_6_code) 5 am_c147_0 = true := by decide +kernel
theorem am_tc147_0 : am_allT (am_tck (am_at am_c147) 9) 5 am_c147_0 = true := by decide +kernel
theorem am_co147_1 : am_allT (am_ckc prog_11_method_6_code) 5 am_c147_1 = true := by decide +kernel
theorem am_tc147_1 : am_allT (am_tck (am_at am_c147) 9) 5 am_c147_1 = true := by decide +kernel
theorem am_co147 : am_allT (am_ckc prog_11_method_6_code) 6 am_c147 = true := (am_allT_nd am_co147_0 am_co147_1)
theorem am_tc147 : am_allT (am_tck (am_at am_c147) 9) 6 am_c147 = true := (am_allT_nd am_tc147_0 am_tc147_1)
set_option maxRecDepth 100000 in
theorem am_p147 : am_PI am_i147 := ⟨am_pc_of am_co147, ⟨Or.inl ⟨(List.mem_of_getElem? (i := 1135) rfl), rfl⟩, by decide +kernel, ⟨by decide +kernel, by decide +kernel⟩, (List.mem_of_getElem? (i := 81) (by decide +kernel)), by decide +kernel⟩, (fun h => absurd h (by decide)), am_ts_of am_tc147⟩
theorem am_co148 : am_allT (am_ckc prog_11_method_4_code) 4 am_c148 = true := by decide +kernel
theorem am_tc148 : am_allT (am_tck (am_at am_c148) 9) 4 am_c148 = true := by decide +kernel
set_option maxRecDepth 100000 in
theorem am_p148 : am_PI am_i148 := ⟨am_pc_of am_co148, ⟨Or.inl ⟨(List.mem_of_getElem? (i := 1138) rfl), rfl⟩, by decide +kernel, ⟨by decide +kernel, by decide +kernel⟩, (List.mem_of_getElem? (i := 81) (by decide +kernel)), by decide +kernel⟩, (fun h => absurd h (by decide)), am_ts_of am_tc148⟩
theorem am_co149_0 : am_allT (am_ckc prog_11_method_7_code) 5 am_c149_0 = true := by decide +kernel
theorem am_tc149_0 : am_allT (am_tck (am_at am_c149) 9) 5 am_c149_0 = true := by decide +kernel
theorem am_co149_1 : am_allT (am_ckc prog_11_method_7_code) 5 am_c149_1 = true := by decide +kernel
theorem am_tc149_1 : am_allT (am_tck (am_at am_c149) 9) 5 am_c149_1 = true := by decide +kernel
theorem am_co149 : am_allT (am_ckc prog_11_method_7_code) 6 am_c149 = true := (am_allT_nd am_co149_0 am_co149_1)
theorem am_tc149 : am_allT (am_tck (am_at am_c149) 9) 6 am_c149 = true := (am_allT_nd am_tc149_0 am_tc149_1)
set_option maxRecDepth 100000 in
theorem am_p149 : am_PI am_i149 := ⟨am_pc_of am_co149, ⟨Or.inl ⟨(List.mem_of_getElem? (i := 1142) rfl), rfl⟩, by decide +kernel, ⟨by decide +kernel, by decide +kernel⟩, (List.mem_of_getElem? (i := 81) (by decide +kernel)), by decide +kernel⟩, (fun h => absurd h (by decide)), am_ts_of am_tc149⟩
theorem am_co150 : am_allT (am_ckc prog_11_method_5_code) 4 am_c150 = true := by decide +kernel
theorem am_tc150 : am_allT (am_tck (am_at am_c150) 9) 4 am_c150 = true := by decide +kernel
set_option maxRecDepth 100000 in
theorem am_p150 : am_PI am_i150 := ⟨am_pc_of am_co150, ⟨Or.inl ⟨(List.mem_of_getElem? (i := 1146) rfl), rfl⟩, by decide +kernel, ⟨by decide +kernel, by decide +kernel⟩, (List.mem_of_getElem? (i := 81) (by decide +kernel)), by decide +kernel⟩, (fun h => absurd h (by decide)), am_ts_of am_tc150⟩
theorem am_co151_0 : am_allT (am_ckc prog_11_method_13_code) 5 am_c151_0 = true := by decide +kernel
theorem am_tc151_0 : am_allT (am_tck (am_at am_c151) 9) 5 am_c151_0 = true := by decide +kernel
theorem am_co151_1 : am_allT (am_ckc prog_11_method_13_code) 5 am_c151_1 = true := by decide +kernel
theorem am_tc151_1 : am_allT (am_tck (am_at am_c151) 9) 5 am_c151_1 = true := by decide +kernel
theorem am_co151_2 : am_allT (am_ckc prog_11_method_13_code) 5 am_c151_2 = true := by decide +kernel
theorem am_tc151_2 : am_allT (am_tck (am_at am_c151) 9) 5 am_c151_2 = true := by decide +kernel
theorem am_co151_3 : am_allT (am_ckc prog_11_method_13_code) 5 am_c151_3 = true := by decide +kernel
theorem am_tc151_3 : am_allT (am_tck (am_at am_c151) 9) 5 am_c151_3 = true := by decide +kernel
theorem am_co151 : am_allT (am_ckc prog_11_method_13_code) 7 am_c151 = true := (am_allT_nd (am_allT_nd am_co151_0 am_co151_1) (am_allT_nd am_co151_2 am_co151_3))
theorem am_tc151 : am_allT (am_tck (am_at am_c151) 9) 7 am_c151 = true := (am_allT_nd (am_allT_nd am_tc151_0 am_tc151_1) (am_allT_nd am_tc151_2 am_tc151_3))
set_option maxRecDepth 100000 in
theorem am_p151 : am_PI am_i151 := ⟨am_pc_of am_co151, ⟨Or.inl ⟨(List.mem_of_getElem? (i := 1150) rfl), rfl⟩, by decide +kernel, ⟨by decide +kernel, by decide +kernel⟩, (List.mem_of_getElem? (i := 81) (by decide +kernel)), by decide +kernel⟩, (fun h => absurd h (by decide)), am_ts_of am_tc151⟩
theorem am_co152 : am_allT (am_ckc prog_11_method_8_code) 4 am_c152 = true := by decide +kernel
theorem am_tc152 : am_allT (am_tck (am_at am_c152) 9) 4 am_c152 = true := by decide +kernel
set_option maxRecDepth 100000 in
theorem am_p152 : am_PI am_i152 := ⟨am_pc_of am_co152, ⟨Or.inl ⟨(List.mem_of_getElem? (i := 1154) rfl), rfl⟩, by decide +kernel, ⟨by decide +kernel, by decide +kernel⟩, (List.mem_of_getElem? (i := 81) (by decide +kernel)), by decide +kernel⟩, (fun h => absurd h (by decide)), am_ts_of am_tc152⟩
theorem am_co153 : am_allT (am_ckc prog_11_method_3_code) 3 am_c153 = true := by decide +kernel
theorem am_tc153 : am_allT (am_tck (am_at am_c153) 9) 3 am_c153 = true := by decide +kernel
set_option maxRecDepth 100000 in
theorem am_p153 : am_PI am_i153 := ⟨am_pc_of am_co153, ⟨Or.inl ⟨(List.mem_of_getElem? (i := 1158) rfl), rfl⟩, by decide +kernel, ⟨by decide +kernel, by decide +kernel⟩, (List.mem_of_getElem? (i := 81) (by decide +kernel)), by decide +kernel⟩, (fun h => absurd h (by decide)), am_ts_of am_tc153⟩
theorem am_co154 : am_allT (am_ckc prog_11_method_9_code) 3 am_c154 = true := by decide +kernel
theorem am_tc154 : am_allT (am_tck (am_at am_c154) 9) 3 am_c154 = true := by decide +kernel
set_option maxRecDepth 100000 in
theorem am_p154 : am_PI am_i154 := ⟨am_pc_of am_co154, ⟨Or.inl ⟨(List.mem_of_getElem? (i := 1161) rfl), rfl⟩, by decide +kernel, ⟨by decide +kernel, by decide +kernel⟩, (List.mem_of_getElem? (i := 81) (by decide +kernel)), by decide +kernel⟩, (fun h => absurd h (by decide)), am_ts_of am_tc154⟩
theorem am_co155 : am_allT (am_ckc prog_11_method_10_code) 3 am_c155 = true := by decide +kernel
theorem am_tc155 : am_allT (am_tck (am_at am_c155) 9) 3 am_c155 = true := by decide +kernel
set_option maxRecDepth 100000 in
theorem am_p155 : am_PI am_i155 := ⟨am_pc_of am_co155, ⟨Or.inl ⟨(List.mem_of_getElem? (i := 1164) rfl), rfl⟩, by decide +kernel, ⟨by decide +kernel, by decide +kernel⟩, (List.mem_of_getElem? (i := 81) (by decide +kernel)), by decide +kernel⟩, (fun h => absurd h (by decide)), am_ts_of am_tc155⟩
theorem am_co156 : am_allT (am_ckc prog_11_method_11_code) 4 am_c156 = true := by decide +kernel
theorem am_tc156 : am_allT (am_tck (am_at am_c156) 9) 4 am_c156 = true := by decide +kernel
set_option maxRecDepth 100000 in
theorem am_p156 : am_PI am_i156 := ⟨am_pc_of am_co156, ⟨Or.inl ⟨(List.mem_of_getElem? (i := 1167) rfl), rfl⟩, by decide +kernel, ⟨by decide +kernel, by decide +kernel⟩, (List.mem_of_getElem? (i := 81) (by decide +kernel)), by decide +kernel⟩, (fun h => absurd h (by decide)), am_ts_of am_tc156⟩
theorem am_co157_0 : am_allT (am_ckc prog_11_method_12_code) 5 am_c157_0 = true := by decide +kernel
theorem am_tc157_0 : am_allT (am_tck (am_at am_c157) 9) 5 am_c157_0 = true := by decide +kernel
theorem am_co157_1 : am_allT (am_ckc prog_11_method_12_code) 5 am_c157_1 = true := by decide +kernel
theorem am_tc157_1 : am_allT (am_tck (am_at am_c157) 9) 5 am_c157_1 = true := by decide +kernel
theorem am_co157 : am_allT (am_ckc prog_11_method_12_code) 6 am_c157 = true := (am_allT_nd am_co157_0 am_co157_1)
theorem am_tc157 : am_allT (am_tck (am_at am_c157) 9) 6 am_c157 = true := (am_allT_nd am_tc157_0 am_tc157_1)
set_option maxRecDepth 100000 in
theorem am_p157 : am_PI am_i157 := ⟨am_pc_of am_co157, ⟨Or.inl ⟨(List.mem_of_getElem? (i := 1171) rfl), rfl⟩, by decide +kernel, ⟨by decide +kernel, by decide +kernel⟩, (List.mem_of_getElem? (i := 81) (by decide +kernel)), by decide +kernel⟩, (fun h => absurd h (by decide)), am_ts_of am_tc157⟩
theorem am_co158_0 : am_allT (am_ckc prog_11_method_14_code) 5 am_c158_0 = true := by decide +kernel
theorem am_tc158_0 : am_allT (am_tck (am_at am_c158) 9) 5 am_c158_0 = true := by decide +kernel
theorem am_co158_1 : am_allT (am_ckc prog_11_method_14_code) 5 am_c158_1 = true := by decide +kernel
theorem am_tc158_1 : am_allT (am_tck (am_at am_c158) 9) 5 am_c158_1 = true := by decide +kernel
theorem am_co158_2 : am_allT (am_ckc prog_11_method_14_code) 5 am_c158_2 = true := by decide +kernel
theorem am_tc158_2 : am_allT (am_tck (am_at am_c158) 9) 5 am_c158_2 = true := by decide +kernel
theorem am_co158_3 : am_allT (am_ckc prog_11_method_14_code) 5 am_c158_3 = true := by decide +kernel
theorem am_tc158_3 : am_allT (am_tck (am_at am_c158) 9) 5 am_c158_3 = true := by decide +kernel
theorem am_co158 : am_allT (am_ckc prog_11_method_14_code) 7 am_c158 = true := (am_allT_nd (am_allT_nd am_co158_0 am_co158_1) (am_allT_nd am_co158_2 am_co158_3))
theorem am_tc158 : am_allT (am_tck (am_at am_c158) 9) 7 am_c158 = true := (am_allT_nd (am_allT_nd am_tc158_0 am_tc158_1) (am_allT_nd am_tc158_2 am_tc158_3))
set_option maxRecDepth 100000 in
theorem am_p158 : am_PI am_i158 := ⟨am_pc_of am_co158, ⟨Or.inl ⟨(List.mem_of_getElem? (i := 1175) rfl), rfl⟩, by decide +kernel, ⟨by decide +kernel, by decide +kernel⟩, (List.mem_of_getElem? (i := 81) (by decide +kernel)), by decide +kernel⟩, (fun h => absurd h (by decide)), am_ts_of am_tc158⟩
theorem am_co159 : am_allT (am_ckc prog_11_method_15_code) 5 am_c159 = true := by decide +kernel
theorem am_tc159 : am_allT (am_tck (am_at am_c159) 9) 5 am_c159 = true := by decide +kernel
set_option maxRecDepth 100000 in
theorem am_p159 : am_PI am_i159 := ⟨am_pc_of am_co159, ⟨Or.inl ⟨(List.mem_of_getElem? (i := 1179) rfl), rfl⟩, by decide +kernel, ⟨by decide +kernel, by decide +kernel⟩, (List.mem_of_getElem? (i := 81) (by decide +kernel)), by decide +kernel⟩, (fun h => absurd h (by decide)), am_ts_of am_tc159⟩
theorem am_co160 : am_allT (am_ckc prog_11_method_17_code) 4 am_c160 = true := by decide +kernel
theorem am_tc160 : am_allT (am_tck (am_at am_c160) 9) 4 am_c160 = true := by decide +kernel
set_option maxRecDepth 100000 in
theorem am_p160 : am_PI am_i160 := ⟨am_pc_of am_co160, ⟨Or.inl ⟨(List.mem_of_getElem? (i := 1183) rfl), rfl⟩, by decide +kernel, ⟨by decide +kernel, by decide +kernel⟩, (List.mem_of_getElem? (i := 81) (by decide +kernel)), by decide +kernel⟩, (fun h => absurd h (by decide)), am_ts_of am_tc160⟩
theorem am_co161_0 : am_allT (am_ckc prog_11_method_16_code) 5 am_c161_0 = true := by decide +kernel
theorem am_tc161_0 : am_allT (am_tck (am_at am_c161) 9) 5 am_c161_0 = true := by decide +kernel
theorem am_co161_1 : am_allT (am_ckc prog_11_method_16_code) 5 am_c161_1 = true := by decide +kernel
theorem am_tc161_1 : am_allT (am_tck (am_at am_c161) 9) 5 am_c161_1 = true := by decide +kernel
theorem am_co161_2 : am_allT (am_ckc prog_11_method_16_code) 5 am_c161_2 = true := by decide +kernel
theorem am_tc161_2 : am_allT (am_tck (am_at am_c161) 9) 5 am_c161_2 = true := by decide +kernel
theorem am_co161_3 : am_allT (am_ckc prog_11_method_16_code) 5 am_c161_3 = true := by decide +kernel
theorem am_tc161_3 : am_allT (am_tck (am_at am_c161) 9) 5 am_c161_3 = true := by decide +kernel
theorem am_co161 : am_allT (am_ckc prog_11_method_16_code) 7 am_c161 = true := (am_allT_nd (am_allT_nd am_co161_0 am_co161_1) (am_allT_nd am_co161_2 am_co161_3))
theorem am_tc161 : am_allT (am_tck (am_at am_c161) 9) 7 am_c161 = true := (am_allT_nd (am_allT_nd am_tc161_0 am_tc161_1) (am_allT_nd am_tc161_2 am_tc161_3))
set_option maxRecDepth 100000 in
theorem am_p161 : am_PI am_i161 := ⟨am_pc_of am_co161, ⟨Or.inl ⟨(List.mem_of_getElem? (i := 1187) rfl), rfl⟩, by decide +kernel, ⟨by decide +kernel, by decide +kernel⟩, (List.mem_of_getElem? (i := 81) (by decide +kernel)), by decide +kernel⟩, (fun h => absurd h (by decide)), am_ts_of am_tc161⟩
theorem am_co162_0 : am_allT (am_ckc prog_11_method_18_code) 5 am_c162_0 = true := by decide +kernel
theorem am_tc162_0 : am_allT (am_tck (am_at am_c162) 9) 5 am_c162_0 = true := by decide +kernel
theorem am_co162_1 : am_allT (am_ckc prog_11_method_18_code) 5 am_c162_1 = true := by decide +kernel
theorem am_tc162_1 : am_allT (am_tck (am_at am_c162) 9) 5 am_c162_1 = true := by decide +kernel
theorem am_co162 : am_allT (am_ckc prog_11_method_18_code) 6 am_c162 = true := (am_allT_nd am_co162_0 am_co162_1)
theorem am_tc162 : am_allT (am_tck (am_at am_c162) 9) 6 am_c162 = true := (am_allT_nd am_tc162_0 am_tc162_1)
set_option maxRecDepth 100000 in
theorem am_p162 : am_PI am_i162 := ⟨am_pc_of am_co162, ⟨Or.inl ⟨(List.mem_of_getElem? (i := 1191) rfl), rfl⟩, by decide +kernel, ⟨by decide +kernel, by decide +kernel⟩, (List.mem_of_getElem? (i := 81) (by decide +kernel)), by decide +kernel⟩, (fun h => absurd h (by decide)), am_ts_of am_tc162⟩
theorem am_co163_0 : am_allT (am_ckc prog_11_method_19_code) 5 am_c163_0 = true := by decide +kernel
theorem am_tc163_0 : am_allT (am_tck (am_at am_c163) 9) 5 am_c163_0 = true := by decide +kernel
theorem am_co163_1 : am_allT (am_ckc prog_11_method_19_code) 5 am_c163_1 = true := by decide +kernel
theorem am_tc163_1 : am_allT (am_tck (am_at am_c163) 9) 5 am_c163_1 = true := by decide +kernel
theorem am_co163 : am_allT (am_ckc prog_11_method_19_code) 6 am_c163 = true := (am_allT_nd am_co163_0 am_co163_1)
theorem am_tc163 : am_allT (am_tck (am_at am_c163) 9) 6 am_c163 = true := (am_allT_nd am_tc163_0 am_tc163_1)
set_option maxRecDepth 100000 in
theorem am_p163 : am_PI am_i163 := ⟨am_pc_of am_co163, ⟨Or.inl ⟨(List.mem_of_getElem? (i := 1195) rfl), rfl⟩, by decide +kernel, ⟨by decide +kernel, by decide +kernel⟩, (List.mem_of_getElem? (i := 81) (by decide +kernel)), by decide +kernel⟩, (fun h => absurd h (by decide)), am_ts_of am_tc163⟩
theorem am_co164_0 : am_allT (am_ckc prog_11_method_20_code) 5 am_c164_0 = true := by decide +kernel
theorem am_tc164_0 : am_allT (am_tck (am_at am_c164) 9) 5 am_c164_0 = true := by decide +kernel
theorem am_co164_1 : am_allT (am_ckc prog_11_method_20_code) 5 am_c164_1 = true := by decide +kernel
theorem am_tc164_1 : am_allT (am_tck (am_at am_c164) 9) 5 am_c164_1 = true := by decide +kernel
theorem am_co164 : am_allT (am_ckc prog_11_method_20_code) 6 am_c164 = true := (am_allT_nd am_co164_0 am_co164_1)
theorem am_tc164 : am_allT (am_tck (am_at am_c164) 9) 6 am_c164 = true := (am_allT_nd am_tc164_0 am_tc164_1)
set_option maxRecDepth 100000 in
theorem am_p164 : am_PI am_i164 := ⟨am_pc_of am_co164, ⟨Or.inl ⟨(List.mem_of_getElem? (i := 1199) rfl), rfl⟩, by decide +kernel, ⟨by decide +kernel, by decide +kernel⟩, (List.mem_of_getElem? (i := 81) (by decide +kernel)), by decide +kernel⟩, (fun h => absurd h (by decide)), am_ts_of am_tc164⟩
theorem am_co165_0 : am_allT (am_ckc prog_11_method_23_code) 5 am_c165_0 = true := by decide +kernel
theorem am_tc165_0 : am_allT (am_tck (am_at am_c165) 9) 5 am_c165_0 = true := by decide +kernel
theorem am_co165_1 : am_allT (am_ckc prog_11_method_23_code) 5 am_c165_1 = true := by decide +kernel
theorem am_tc165_1 : am_allT (am_tck (am_at am_c165) 9) 5 am_c165_1 = true := by decide +kernel
theorem am_co165_2 : am_allT (am_ckc prog_11_method_23_code) 5 am_c165_2 = true := by decide +kernel
theorem am_tc165_2 : am_allT (am_tck (am_at am_c165) 9) 5 am_c165_2 = true := by decide +kernel
theorem am_co165_3 : am_allT (am_ckc prog_11_method_23_code) 5 am_c165_3 = true := by decide +kernel
theorem am_tc165_3 : am_allT (am_tck (am_at am_c165) 9) 5 am_c165_3 = true := by decide +kernel
theorem am_co165_4 : am_allT (am_ckc prog_11_method_23_code) 5 am_c165_4 = true := by decide +kernel
theorem am_tc165_4 : am_allT (am_tck (am_at am_c165) 9) 5 am_c165_4 = true := by decide +kernel
theorem am_co165_5 : am_allT (am_ckc prog_11_method_23_code) 5 am_c165_5 = true := by decide +kernel
theorem am_tc165_5 : am_allT (am_tck (am_at am_c165) 9) 5 am_c165_5 = true := by decide +kernel
theorem am_co165_6 : am_allT (am_ckc prog_11_method_23_code) 5 am_c165_6 = true := by decide +kernel
theorem am_tc165_6 : am_allT (am_tck (am_at am_c165) 9) 5 am_c165_6 = true := by decide +kernel
theorem am_co165_7 : am_allT (am_ckc prog_11_method_23_code) 5 am_c165_7 = true := by decide +kernel
theorem am_tc165_7 : am_allT (am_tck (am_at am_c165) 9) 5 am_c165_7 = true := by decide +kernel
theorem am_co165 : am_allT (am_ckc prog_11_method_23_code) 8 am_c165 = true := (am_allT_nd (am_allT_nd (am_allT_nd am_co165_0 am_co165_1) (am_allT_nd am_co165_2 am_co165_3)) (am_allT_nd (am_allT_nd am_co165_4 am_co165_5) (am_allT_nd am_co165_6 am_co165_7)))
theorem am_tc165 : am_allT (am_tck (am_at am_c165) 9) 8 am_c165 = true := (am_allT_nd (am_allT_nd (am_allT_nd am_tc165_0 am_tc165_1) (am_allT_nd am_tc165_2 am_tc165_3)) (am_allT_nd (am_allT_nd am_tc165_4 am_tc165_5) (am_allT_nd am_tc165_6 am_tc165_7)))
set_option maxRecDepth 100000 in
theorem am_p165 : am_PI am_i165 := ⟨am_pc_of am_co165, ⟨Or.inl ⟨(List.mem_of_getElem? (i := 1203) rfl), rfl⟩, by decide +kernel, ⟨by decide +kernel, by decide +kernel⟩, (List.mem_of_getElem? (i := 81) (by decide +kernel)), by decide +kernel⟩, (fun h => absurd h (by decide)), am_ts_of am_tc165⟩
theorem am_co166 : am_allT (am_ckc prog_11_method_22_code) 5 am_c166 = true := by decide +kernel
theorem am_tc166 : am_allT (am_tck (am_at am_c166) 9) 5 am_c166 = true := by decide +kernel
set_option maxRecDepth 100000 in
theorem am_p166 : am_PI am_i166 := ⟨am_pc_of am_co166, ⟨Or.inl ⟨(List.mem_of_getElem? (i := 1206) rfl), rfl⟩, by decide +kernel, ⟨by decide +kernel, by decide +kernel⟩, (List.mem_of_getElem? (i := 81) (by decide +kernel)), by decide +kernel⟩, (fun h => absurd h (by decide)), am_ts_of am_tc166⟩
theorem am_co167_0 : am_allT (am_ckc prog_11_method_26_code) 5 am_c167_0 = true := by decide +kernel
theorem am_tc167_0 : am_allT (am_tck (am_at am_c167) 9) 5 am_c167_0 = true := by decide +kernel
theorem am_co167_1 : am_allT (am_ckc prog_11_method_26_code) 5 am_c167_1 = true := by decide +kernel
theorem am_tc167_1 : am_allT (am_tck (am_at am_c167) 9) 5 am_c167_1 = true := by decide +kernel
theorem am_co167_2 : am_allT (am_ckc prog_11_method_26_code) 5 am_c167_2 = true := by decide +kernel
theorem am_tc167_2 : am_allT (am_tck (am_at am_c167) 9) 5 am_c167_2 = true := by decide +kernel
theorem am_co167_3 : am_allT (am_ckc prog_11_method_26_code) 5 am_c167_3 = true := by decide +kernel
theorem am_tc167_3 : am_allT (am_tck (am_at am_c167) 9) 5 am_c167_3 = true := by decide +kernel
theorem am_co167 : am_allT (am_ckc prog_11_method_26_code) 7 am_c167 = true := (am_allT_nd (am_allT_nd am_co167_0 am_co167_1) (am_allT_nd am_co167_2 am_co167_3))
theorem am_tc167 : am_allT (am_tck (am_at am_c167) 9) 7 am_c167 = true := (am_allT_nd (am_allT_nd am_tc167_0 am_tc167_1) (am_allT_nd am_tc167_2 am_tc167_3))
set_option maxRecDepth 100000 in
theorem am_p167 : am_PI am_i167 := ⟨am_pc_of am_co167, ⟨Or.inl ⟨(List.mem_of_getElem? (i := 1210) rfl), rfl⟩, by decide +kernel, ⟨by decide +kernel, by decide +kernel⟩, (List.mem_of_getElem? (i := 81) (by decide +kernel)), by decide +kernel⟩, (fun h => absurd h (by decide)), am_ts_of am_tc167⟩
theorem am_co168_0 : am_allT (am_ckc prog_11_method_25_code) 5 am_c168_0 = true := by decide +kernel
theorem am_tc168_0 : am_allT (am_tck (am_at am_c168) 9) 5 am_c168_0 = true := by decide +kernel
theorem am_co168_1 : am_allT (am_ckc prog_11_method_25_code) 5 am_c168_1 = true := by decide +kernel
theorem am_tc168_1 : am_allT (am_tck (am_at am_c168) 9) 5 am_c168_1 = true := by decide +kernel
theorem am_co168_2 : am_allT (am_ckc prog_11_method_25_code) 5 am_c168_2 = true := by decide +kernel
theorem am_tc168_2 : am_allT (am_tck (am_at am_c168) 9) 5 am_c168_2 = true := by decide +kernel
theorem am_co168_3 : am_allT (am_ckc prog_11_method_25_code) 5 am_c168_3 = true := by decide +kernel
theorem am_tc168_3 : am_allT (am_tck (am_at am_c168) 9) 5 am_c168_3 = true := by decide +kernel
theorem am_co168_4 : am_allT (am_ckc prog_11_method_25_code) 5 am_c168_4 = true := by decide +kernel
theorem am_tc168_4 : am_allT (am_tck (am_at am_c168) 9) 5 am_c168_4 = true := by decide +kernel
theorem am_co168_5 : am_allT (am_ckc prog_11_method_25_code) 5 am_c168_5 = true := by decide +kernel
theorem am_tc168_5 : am_allT (am_tck (am_at am_c168) 9) 5 am_c168_5 = true := by decide +kernel
theorem am_co168_6 : am_allT (am_ckc prog_11_method_25_code) 5 am_c168_6 = true := by decide +kernel
theorem am_tc168_6 : am_allT (am_tck (am_at am_c168) 9) 5 am_c168_6 = true := by decide +kernel
theorem am_co168_7 : am_allT (am_ckc prog_11_method_25_code) 5 am_c168_7 = true := by decide +kernel
theorem am_tc168_7 : am_allT (am_tck (am_at am_c168) 9) 5 am_c168_7 = true := by decide +kernel
theorem am_co168 : am_allT (am_ckc prog_11_method_25_code) 8 am_c168 = true := (am_allT_nd (am_allT_nd (am_allT_nd am_co168_0 am_co168_1) (am_allT_nd am_co168_2 am_co168_3)) (am_allT_nd (am_allT_nd am_co168_4 am_co168_5) (am_allT_nd am_co168_6 am_co168_7)))
theorem am_tc168 : am_allT (am_tck (am_at am_c168) 9) 8 am_c168 = true := (am_allT_nd (am_allT_nd (am_allT_nd am_tc168_0 am_tc168_1) (am_allT_nd am_tc168_2 am_tc168_3)) (am_allT_nd (am_allT_nd am_tc168_4 am_tc168_5) (am_allT_nd am_tc168_6 am_tc168_7)))
set_option maxRecDepth 100000 in
theorem am_p168 : am_PI am_i168 := ⟨am_pc_of am_co168, ⟨Or.inl ⟨(List.mem_of_getElem? (i := 1214) rfl), rfl⟩, by decide +kernel, ⟨by decide +kernel, by decide +kernel⟩, (List.mem_of_getElem? (i := 81) (by decide +kernel)), by decide +kernel⟩, (fun h => absurd h (by decide)), am_ts_of am_tc168⟩
theorem am_co169 : am_allT (am_ckc prog_11_method_24_code) 5 am_c169 = true := by decide +kernel
theorem am_tc169 : am_allT (am_tck (am_at am_c169) 9) 5 am_c169 = true := by decide +kernel
set_option maxRecDepth 100000 in
theorem am_p169 : am_PI am_i169 := ⟨am_pc_of am_co169, ⟨Or.inl ⟨(List.mem_of_getElem? (i := 1218) rfl), rfl⟩, by decide +kernel, ⟨by decide +kernel, by decide +kernel⟩, (List.mem_of_getElem? (i := 81) (by decide +kernel)), by decide +kernel⟩, (fun h => absurd h (by decide)), am_ts_of am_tc169⟩
