theorem am_co170_0 : am_allT (am_ckc prog_11_method_30_code) 5 am_c170_0 = true := by decide +kernel
theorem am_tc170_0 : am_allT (am_tck (am_at am_c170) 9) 5 am_c170_0 = true := by decide +kernel
theorem am_co170_1 : am_allT (am_ckc prog_11_method_30_code) 5 am_c170_1 = true := by decide +kernel
theorem am_tc170_1 : am_allT (am_tck (am_at am_c170) 9) 5 am_c170_1 = true := by decide +kernel
theorem am_co170_2 : am_allT (am_ckc prog_11_method_30_code) 5 am_c170_2 = true := by decide +kernel
theorem am_tc170_2 : am_allT (am_tck (am_at am_c170) 9) 5 am_c170_2 = true := by decide +kernel
theorem am_co170_3 : am_allT (am_ckc prog_11_method_30_code) 5 am_c170_3 = true := by decide +kernel
theorem am_tc170_3 : am_allT (am_tck (am_at am_c170) 9) 5 am_c170_3 = true := by decide +kernel
theorem am_co170_4 : am_allT (am_ckc prog_11_method_30_code) 5 am_c170_4 = true := by decide +kernel
theorem am_tc170_4 : am_allT (am_tck (am_at am_c170) 9) 5 am_c170_4 = true := by decide +kernel
theorem am_co170_5 : am_allT (am_ckc prog_11_method_30_code) 5 am_c170_5 = true := by decide +kernel
theorem am_tc170_5 : am_allT (am_tck (am_at am_c170) 9) 5 am_c170_5 = true := by decide +kernel
theorem am_co170_6 : am_allT (am_ckc prog_11_method_30_code) 5 am_c170_6 = true := by decide +kernel
theorem am_tc170_6 : am_allT (am_tck (am_at am_c170) 9) 5 am_c170_6 = true := by decide +kernel
theorem am_co170_7 : am_allT (am_ckc prog_11_method_30_code) 5 am_c170_7 = true := by decide +kernel
theorem am_tc170_7 : am_allT (am_tck (am_at am_c170) 9) 5 am_c170_7 = true := by decide +kernel
theorem am_co170 : am_allT (am_ckc prog_11_method_30_code) 8 am_c170 = true := (am_allT_nd (am_allT_nd (am_allT_nd am_co170_0 am_co170_1) (am_allT_nd am_co170_2 am_co170_3)) (am_allT_nd (am_allT_nd am_co170_4 am_co170_5) (am_allT_nd am_co170_6 am_co170_7)))
theorem am_tc170 : am_allT (am_tck (am_at am_c170) 9) 8 am_c170 = true := (am_allT_nd (am_allT_nd (am_allT_nd am_tc170_0 am_tc170_1) (am_allT_nd am_tc170_2 am_tc170_3)) (am_allT_nd (am_allT_nd am_tc170_4 am_tc170_5) (am_allT_nd am_tc170_6 am_tc170_7)))
set_option maxRecDepth 100000 in
theorem am_p170 : am_PI am_i170 := ⟨am_pc_of am_co170, ⟨Or.inl ⟨(List.mem_of_getElem? (i := 1222) rfl), rfl⟩, by decide +kernel, ⟨by decide +kernel, by decide +kernel⟩, (List.mem_of_getElem? (i := 81) (by decide +kernel)), by decide +kernel⟩, (fun h => absurd h (by decide)), am_ts_of am_tc170⟩
theorem am_co171_0 : am_allT (am_ckc prog_11_method_28_code) 5 am_c171_0 = true := by decide +kernel
theorem am_tc171_0 : am_allT (am_tck (am_at am_c171) 9) 5 am_c171_0 = true := by decide +kernel
theorem am_co171_1 : am_allT (am_ckc prog_11_method_28_code) 5 am_c171_1 = true := by decide +kernel
theorem am_tc171_1 : am_allT (am_tck (am_at am_c171) 9) 5 am_c171_1 = true := by decide +kernel
theorem am_co171_2 : am_allT (am_ckc prog_11_method_28_code) 5 am_c171_2 = true := by decide +kernel
theorem am_tc171_2 : am_allT (am_tck (am_at am_c171) 9) 5 am_c171_2 = true := by decide +kernel
theorem am_co171_3 : am_allT (am_ckc prog_11_method_28_code) 5 am_c171_3 = true := by decide +kernel
theorem am_tc171_3 : am_allT (am_tck (am_at am_c171) 9) 5 am_c171_3 = true := by decide +kernel
theorem am_co171 : am_allT (am_ckc prog_11_method_28_code) 7 am_c171 = true := (am_allT_nd (am_allT_nd am_co171_0 am_co171_1) (am_allT_nd am_co171_2 am_co171_3))
theorem am_tc171 : am_allT (am_tck (am_at am_c171) 9) 7 am_c171 = true := (am_allT_nd (am_allT_nd am_tc171_0 am_tc171_1) (am_allT_nd am_tc171_2 am_tc171_3))
set_option maxRecDepth 100000 in
theorem am_p171 : am_PI am_i171 := ⟨am_pc_of am_co171, ⟨Or.inl ⟨(List.mem_of_getElem? (i := 1226) rfl), rfl⟩, by decide +kernel, ⟨by decide +kernel, by decide +kernel⟩, (List.mem_of_getElem? (i := 81) (by decide +kernel)), by decide +kernel⟩, (fun h => absurd h (by decide)), am_ts_of am_tc171⟩
theorem am_co172_0 : am_allT (am_ckc prog_11_method_27_code) 5 am_c172_0 = true := by decide +kernel
theorem am_tc172_0 : am_allT (am_tck (am_at am_c172) 9) 5 am_c172_0 = true := by decide +kernel
theorem am_co172_1 : am_allT (am_ckc prog_11_method_27_code) 5 am_c172_1 = true := by decide +kernel
theorem am_tc172_1 : am_allT (am_tck (am_at am_c172) 9) 5 am_c172_1 = true := by decide +kernel
theorem am_co172 : am_allT (am_ckc prog_11_method_27_code) 6 am_c172 = true := (am_allT_nd am_co172_0 am_co172_1)
theorem am_tc172 : am_allT (am_tck (am_at am_c172) 9) 6 am_c172 = true := (am_allT_nd am_tc172_0 am_tc172_1)
set_option maxRecDepth 100000 in
theorem am_p172 : am_PI am_i172 := ⟨am_pc_of am_co172, ⟨Or.inl ⟨(List.mem_of_getElem? (i := 1230) rfl), rfl⟩, by decide +kernel, ⟨by decide +kernel, by decide +kernel⟩, (List.mem_of_getElem? (i := 81) (by decide +kernel)), by decide +kernel⟩, (fun h => absurd h (by decide)), am_ts_of am_tc172⟩
theorem am_co173 : am_allT (am_ckc prog_11_method_29_code) 5 am_c173 = true := by decide +kernel
theorem am_tc173 : am_allT (am_tck (am_at am_c173) 9) 5 am_c173 = true := by decide +kernel
set_option maxRecDepth 100000 in
theorem am_p173 : am_PI am_i173 := ⟨am_pc_of am_co173, ⟨Or.inl ⟨(List.mem_of_getElem? (i := 1233) rfl), rfl⟩, by decide +kernel, ⟨by decide +kernel, by decide +kernel⟩, (List.mem_of_getElem? (i := 81) (by decide +kernel)), by decide +kernel⟩, (fun h => absurd h (by decide)), am_ts_of am_tc173⟩
theorem am_co174_0 : am_allT (am_ckc prog_11_method_21_code) 5 am_c174_0 = true := by decide +kernel
theorem am_tc174_0 : am_allT (am_tck (am_at am_c174) 9) 5 am_c174_0 = true := by decide +kernel
theorem am_co174_1 : am_allT (am_ckc prog_11_method_21_code) 5 am_c174_1 = true := by decide +kernel
theorem am_tc174_1 : am_allT (am_tck (am_at am_c174) 9) 5 am_c174_1 = true := by decide +kernel
theorem am_co174_2 : am_allT (am_ckc prog_11_method_21_code) 5 am_c174_2 = true := by decide +kernel
theorem am_tc174_2 : am_allT (am_tck (am_at am_c174) 9) 5 am_c174_2 = true := by decide +kernel
theorem am_co174_3 : am_allT (am_ckc prog_11_method_21_code) 5 am_c174_3 = true := by decide +kernel
theorem am_tc174_3 : am_allT (am_tck (am_at am_c174) 9) 5 am_c174_3 = true := by decide +kernel
theorem am_co174 : am_allT (am_ckc prog_11_method_21_code) 7 am_c174 = true := (am_allT_nd (am_allT_nd am_co174_0 am_co174_1) (am_allT_nd am_co174_2 am_co174_3))
theorem am_tc174 : am_allT (am_tck (am_at am_c174) 9) 7 am_c174 = true := (am_allT_nd (am_allT_nd am_tc174_0 am_tc174_1) (am_allT_nd am_tc174_2 am_tc174_3))
set_option maxRecDepth 100000 in
theorem am_p174 : am_PI am_i174 := ⟨am_pc_of am_co174, ⟨Or.inl ⟨(List.mem_of_getElem? (i := 1237) rfl), rfl⟩, by decide +kernel, ⟨by decide +kernel, by decide +kernel⟩, (List.mem_of_getElem? (i := 81) (by decide +kernel)), by decide +kernel⟩, (fun h => absurd h (by decide)), am_ts_of am_tc174⟩
theorem am_co175_0 : am_allT (am_ckc prog_11_method_51_code) 5 am_c175_0 = true := by decide +kernel
theorem am_tc175_0 : am_allT (am_tck (am_at am_c175) 9) 5 am_c175_0 = true := by decide +kernel
theorem am_co175_1 : am_allT (am_ckc prog_11_method_51_code) 5 am_c175_1 = true := by decide +kernel
theorem am_tc175_1 : am_allT (am_tck (am_at am_c175) 9) 5 am_c175_1 = true := by decide +kernel
theorem am_co175_2 : am_allT (am_ckc prog_11_method_51_code) 5 am_c175_2 = true := by decide +kernel
theorem am_tc175_2 : am_allT (am_tck (am_at am_c175) 9) 5 am_c175_2 = true := by decide +kernel
theorem am_co175_3 : am_allT (am_ckc prog_11_method_51_code) 5 am_c175_3 = true := by decide +kernel
theorem am_tc175_3 : am_allT (am_tck (am_at am_c175) 9) 5 am_c175_3 = true := by decide +kernel
theorem am_co175 : am_allT (am_ckc prog_11_method_51_code) 7 am_c175 = true := (am_allT_nd (am_allT_nd am_co175_0 am_co175_1) (am_allT_nd am_co175_2 am_co175_3))
theorem am_tc175 : am_allT (am_tck (am_at am_c175) 9) 7 am_c175 = true := (am_allT_nd (am_allT_nd am_tc175_0 am_tc175_1) (am_allT_nd am_tc175_2 am_tc175_3))
set_option maxRecDepth 100000 in
theorem am_p175 : am_PI am_i175 := ⟨am_pc_of am_co175, ⟨Or.inl ⟨(List.mem_of_getElem? (i := 1241) rfl), rfl⟩, by decide +kernel, ⟨by decide +kernel, by decide +kernel⟩, (List.mem_of_getElem? (i := 81) (by decide +kernel)), by decide +kernel⟩, (fun h => absurd h (by decide)), am_ts_of am_tc175⟩
theorem am_co176_0 : am_allT (am_ckc prog_11_method_46_code) 5 am_c176_0 = true := by decide +kernel
theorem am_tc176_0 : am_allT (am_tck (am_at am_c176) 9) 5 am_c176_0 = true := by decide +kernel
theorem am_co176_1 : am_allT (am_ckc prog_11_method_46_code) 5 am_c176_1 = true := by decide +kernel
theorem am_tc176_1 : am_allT (am_tck (am_at am_c176) 9) 5 am_c176_1 = true := by decide +kernel
theorem am_co176 : am_allT (am_ckc prog_11_method_46_code) 6 am_c176 = true := (am_allT_nd am_co176_0 am_co176_1)
theorem am_tc176 : am_allT (am_tck (am_at am_c176) 9) 6 am_c176 = true := (am_allT_nd am_tc176_0 am_tc176_1)
set_option maxRecDepth 100000 in
theorem am_p176 : am_PI am_i176 := ⟨am_pc_of am_co176, ⟨Or.inl ⟨(List.mem_of_getElem? (i := 1245) rfl), rfl⟩, by decide +kernel, ⟨by decide +kernel, by decide +kernel⟩, (List.mem_of_getElem? (i := 81) (by decide +kernel)), by decide +kernel⟩, (fun h => absurd h (by decide)), am_ts_of am_tc176⟩
theorem am_co177_0 : am_allT (am_ckc prog_11_method_50_code) 5 am_c177_0 = true := by decide +kernel
theorem am_tc177_0 : am_allT (am_tck (am_at am_c177) 9) 5 am_c177_0 = true := by decide +kernel
theorem am_co177_1 : am_allT (am_ckc prog_11_method_50_code) 5 am_c177_1 = true := by decide +kernel
theorem am_tc177_1 : am_allT (am_tck (am_at am_c177) 9) 5 am_c177_1 = true := by decide +kernel
theorem am_co177_2 : am_allT (am_ckc prog_11_method_50_code) 5 am_c177_2 = true := by decide +kernel
theorem am_tc177_2 : am_allT (am_tck (am_at am_c177) 9) 5 am_c177_2 = true := by decide +kernel
theorem am_co177_3 : am_allT (am_ckc prog_11_method_50_code) 5 am_c177_3 = true := by decide +kernel
theorem am_tc177_3 : am_allT (am_tck (am_at am_c177) 9) 5 am_c177_3 = true := by decide +kernel
theorem am_co177 : am_allT (am_ckc prog_11_method_50_code) 7 am_c177 = true := (am_allT_nd (am_allT_nd am_co177_0 am_co177_1) (am_allT_nd am_co177_2 am_co177_3))
theorem am_tc177 : am_allT (am_tck (am_at am_c177) 9) 7 am_c177 = true := (am_allT_nd (am_allT_nd am_tc177_0 am_tc177_1) (am_allT_nd am_tc177_2 am_tc177_3))
set_option maxRecDepth 100000 in
theorem am_p177 : am_PI am_i177 := ⟨am_pc_of am_co177, ⟨Or.inl ⟨(List.mem_of_getElem? (i := 1249) rfl), rfl⟩, by decide +kernel, ⟨by decide +kernel, by decide +kernel⟩, (List.mem_of_getElem? (i := 81) (by decide +kernel)), by decide +kernel⟩, (fun h => absurd h (by decide)), am_ts_of am_tc177⟩
theorem am_co178_0 : am_allT (am_ckc prog_11_method_37_code) 5 am_c178_0 = true := by decide +kernel
theorem am_tc178_0 : am_allT (am_tck (am_at am_c178) 9) 5 am_c178_0 = true := by decide +kernel
theorem am_co178_1 : am_allT (am_ckc prog_11_method_37_code) 5 am_c178_1 = true := by decide +kernel
theorem am_tc178_1 : am_allT (am_tck (am_at am_c178) 9) 5 am_c178_1 = true := by decide +kernel
theorem am_co178 : am_allT (am_ckc prog_11_method_37_code) 6 am_c178 = true := (am_allT_nd am_co178_0 am_co178_1)
theorem am_tc178 : am_allT (am_tck (am_at am_c178) 9) 6 am_c178 = true := (am_allT_nd am_tc178_0 am_tc178_1)
set_option maxRecDepth 100000 in
theorem am_p178 : am_PI am_i178 := ⟨am_pc_of am_co178, ⟨Or.inl ⟨(List.mem_of_getElem? (i := 1253) rfl), rfl⟩, by decide +kernel, ⟨by decide +kernel, by decide +kernel⟩, (List.mem_of_getElem? (i := 81) (by decide +kernel)), by decide +kernel⟩, (fun h => absurd h (by decide)), am_ts_of am_tc178⟩
theorem am_co179 : am_allT (am_ckc prog_11_method_32_code) 5 am_c179 = true := by decide +kernel
theorem am_tc179 : am_allT (am_tck (am_at am_c179) 9) 5 am_c179 = true := by decide +kernel
set_option maxRecDepth 100000 in
theorem am_p179 : am_PI am_i179 := ⟨am_pc_of am_co179, ⟨Or.inl ⟨(List.mem_of_getElem? (i := 1256) rfl), rfl⟩, by decide +kernel, ⟨by decide +kernel, by decide +kernel⟩, (List.mem_of_getElem? (i := 81) (by decide +kernel)), by decide +kernel⟩, (fun h => absurd h (by decide)), am_ts_of am_tc179⟩
theorem am_co180_0 : am_allT (am_ckc prog_11_method_43_code) 5 am_c180_0 = true := by decide +kernel
theorem am_tc180_0 : am_allT (am_tck (am_at am_c180) 9) 5 am_c180_0 = true := by decide +kernel
theorem am_co180_1 : am_allT (am_ckc prog_11_method_43_code) 5 am_c180_1 = true := by decide +kernel
theorem am_tc180_1 : am_allT (am_tck (am_at am_c180) 9) 5 am_c180_1 = true := by decide +kernel
theorem am_co180_2 : am_allT (am_ckc prog_11_method_43_code) 5 am_c180_2 = true := by decide +kernel
theorem am_tc180_2 : am_allT (am_tck (am_at am_c180) 9) 5 am_c180_2 = true := by decide +kernel
theorem am_co180_3 : am_allT (am_ckc prog_11_method_43_code) 5 am_c180_3 = true := by decide +kernel
theorem am_tc180_3 : am_allT (am_tck (am_at am_c180) 9) 5 am_c180_3 = true := by decide +kernel
theorem am_co180 : am_allT (am_ckc prog_11_method_43_code) 7 am_c180 = true := (am_allT_nd (am_allT_nd am_co180_0 am_co180_1) (am_allT_nd am_co180_2 am_co180_3))
theorem am_tc180 : am_allT (am_tck (am_at am_c180) 9) 7 am_c180 = true := (am_allT_nd (am_allT_nd am_tc180_0 am_tc180_1) (am_allT_nd am_tc180_2 am_tc180_3))
set_option maxRecDepth 100000 in
theorem am_p180 : am_PI am_i180 := ⟨am_pc_of am_co180, ⟨Or.inl ⟨(List.mem_of_getElem? (i := 1260) rfl), rfl⟩, by decide +kernel, ⟨by decide +kernel, by decide +kernel⟩, (List.mem_of_getElem? (i := 81) (by decide +kernel)), by decide +kernel⟩, (fun h => absurd h (by decide)), am_ts_of am_tc180⟩
theorem am_co181_0 : am_allT (am_ckc prog_11_method_44_code) 5 am_c181_0 = true := by decide +kernel
theorem am_tc181_0 : am_allT (am_tck (am_at am_c181) 9) 5 am_c181_0 = true := by decide +kernel
theorem am_co181_1 : am_allT (am_ckc prog_11_method_44_code) 5 am_c181_1 = true := by decide +kernel
theorem am_tc181_1 : am_allT (am_tck (am_at am_c181) 9) 5 am_c181_1 = true := by decide +kernel
theorem am_co181_2 : am_allT (am_ckc prog_11_method_44_code) 5 am_c181_2 = true := by decide +kernel
theorem am_tc181_2 : am_allT (am_tck (am_at am_c181) 9) 5 am_c181_2 = true := by decide +kernel
theorem am_co181_3 : am_allT (am_ckc prog_11_method_44_code) 5 am_c181_3 = true := by decide +kernel
theorem am_tc181_3 : am_allT (am_tck (am_at am_c181) 9) 5 am_c181_3 = true := by decide +kernel
theorem am_co181 : am_allT (am_ckc prog_11_method_44_code) 7 am_c181 = true := (am_allT_nd (am_allT_nd am_co181_0 am_co181_1) (am_allT_nd am_co181_2 am_co181_3))
theorem am_tc181 : am_allT (am_tck (am_at am_c181) 9) 7 am_c181 = true := (am_allT_nd (am_allT_nd am_tc181_0 am_tc181_1) (am_allT_nd am_tc181_2 am_tc181_3))
set_option maxRecDepth 100000 in
theorem am_p181 : am_PI am_i181 := ⟨am_pc_of am_co181, ⟨Or.inl ⟨(List.mem_of_getElem? (i := 1264) rfl), rfl⟩, by decide +kernel, ⟨by decide +kernel, by decide +kernel⟩, (List.mem_of_getElem? (i := 81) (by decide +kernel)), by decide +kernel⟩, (fun h => absurd h (by decide)), am_ts_of am_tc181⟩
theorem am_co182_0 : am_allT (am_ckc prog_11_method_39_code) 5 am_c182_0 = true := by decide +kernel
theorem am_tc182_0 : am_allT (am_tck (am_at am_c182) 9) 5 am_c182_0 = true := by decide +kernel
theorem am_co182_1 : am_allT (am_ckc prog_11_method_39_code) 5 am_c182_1 = true := by decide +kernel
theorem am_tc182_1 : am_allT (am_tck (am_at am_c182) 9) 5 am_c182_1 = true := by decide +kernel
theorem am_co182 : am_allT (am_ckc prog_11_method_39_code) 6 am_c182 = true := (am_allT_nd am_co182_0 am_co182_1)
theorem am_tc182 : am_allT (am_tck (am_at am_c182) 9) 6 am_c182 = true := (am_allT_nd am_tc182_0 am_tc182_1)
set_option maxRecDepth 100000 in
theorem am_p182 : am_PI am_i182 := ⟨am_pc_of am_co182, ⟨Or.inl ⟨(List.mem_of_getElem? (i := 1268) rfl), rfl⟩, by decide +kernel, ⟨by decide +kernel, by decide +kernel⟩, (List.mem_of_getElem? (i := 81) (by decide +kernel)), by decide +kernel⟩, (fun h => absurd h (by decide)), am_ts_of am_tc182⟩
theorem am_co183 : am_allT (am_ckc prog_11_method_31_code) 5 am_c183 = true := by decide +kernel
theorem am_tc183 : am_allT (am_tck (am_at am_c183) 9) 5 am_c183 = true := by decide +kernel
set_option maxRecDepth 100000 in
theorem am_p183 : am_PI am_i183 := ⟨am_pc_of am_co183, ⟨Or.inl ⟨(List.mem_of_getElem? (i := 1271) rfl), rfl⟩, by decide +kernel, ⟨by decide +kernel, by decide +kernel⟩, (List.mem_of_getElem? (i := 81) (by decide +kernel)), by decide +kernel⟩, (fun h => absurd h (by decide)), am_ts_of am_tc183⟩
theorem am_co184_0 : am_allT (am_ckc prog_11_method_41_code) 5 am_c184_0 = true := by decide +kernel
theorem am_tc184_0 : am_allT (am_tck (am_at am_c184) 9) 5 am_c184_0 = true := by decide +kernel
theorem am_co184_1 : am_allT (am_ckc prog_11_method_41_code) 5 am_c184_1 = true := by decide +kernel
theorem am_tc184_1 : am_allT (am_tck (am_at am_c184) 9) 5 am_c184_1 = true := by decide +kernel
theorem am_co184_2 : am_allT (am_ckc prog_11_method_41_code) 5 am_c184_2 = true := by decide +kernel
theorem am_tc184_2 : am_allT (am_tck (am_at am_c184) 9) 5 am_c184_2 = true := by decide +kernel
theorem am_co184_3 : am_allT (am_ckc prog_11_method_41_code) 5 am_c184_3 = true := by decide +kernel
theorem am_tc184_3 : am_allT (am_tck (am_at am_c184) 9) 5 am_c184_3 = true := by decide +kernel
theorem am_co184 : am_allT (am_ckc prog_11_method_41_code) 7 am_c184 = true := (am_allT_nd (am_allT_nd am_co184_0 am_co184_1) (am_allT_nd am_co184_2 am_co184_3))
theorem am_tc184 : am_allT (am_tck (am_at am_c184) 9) 7 am_c184 = true := (am_allT_nd (am_allT_nd am_tc184_0 am_tc184_1) (am_allT_nd am_tc184_2 am_tc184_3))
set_option maxRecDepth 100000 in
theorem am_p184 : am_PI am_i184 := ⟨am_pc_of am_co184, ⟨Or.inl ⟨(List.mem_of_getElem? (i := 1275) rfl), rfl⟩, by decide +kernel, ⟨by decide +kernel, by decide +kernel⟩, (List.mem_of_getElem? (i := 81) (by decide +kernel)), by decide +kernel⟩, (fun h => absurd h (by decide)), am_ts_of am_tc184⟩
theorem am_co185 : am_allT (am_ckc prog_11_method_34_code) 5 am_c185 = true := by decide +kernel
theorem am_tc185 : am_allT (am_tck (am_at am_c185) 9) 5 am_c185 = true := by decide +kernel
set_option maxRecDepth 100000 in
theorem am_p185 : am_PI am_i185 := ⟨am_pc_of am_co185, ⟨Or.inl ⟨(List.mem_of_getElem? (i := 1278) rfl), rfl⟩, by decide +kernel, ⟨by decide +kernel, by decide +kernel⟩, (List.mem_of_getElem? (i := 81) (by decide +kernel)), by decide +kernel⟩, (fun h => absurd h (by decide)), am_ts_of am_tc185⟩
theorem am_co186_0 : am_allT (am_ckc prog_11_method_40_code) 5 am_c186_0 = true := by decide +kernel
theorem am_tc186_0 : am_allT (am_tck (am_at am_c186) 9) 5 am_c186_0 = true := by decide +kernel
theorem am_co186_1 : am_allT (am_ckc prog_11_method_40_code) 5 am_c186_1 = true := by decide +kernel
theorem am_tc186_1 : am_allT (am_tck (am_at am_c186) 9) 5 am_c186_1 = true := by decide +kernel
theorem am_co186 : am_allT (am_ckc prog_11_method_40_code) 6 am_c186 = true := (am_allT_nd am_co186_0 am_co186_1)
theorem am_tc186 : am_allT (am_tck (am_at am_c186) 9) 6 am_c186 = true := (am_allT_nd am_tc186_0 am_tc186_1)
set_option maxRecDepth 100000 in
theorem am_p186 : am_PI am_i186 := ⟨am_pc_of am_co186, ⟨Or.inl ⟨(List.mem_of_getElem? (i := 1282) rfl), rfl⟩, by decide +kernel, ⟨by decide +kernel, by decide +kernel⟩, (List.mem_of_getElem? (i := 81) (by decide +kernel)), by decide +kernel⟩, (fun h => absurd h (by decide)), am_ts_of am_tc186⟩
theorem am_co187 : am_allT (am_ckc prog_11_method_33_code) 5 am_c187 = true := by decide +kernel
theorem am_tc187 : am_allT (am_tck (am_at am_c187) 9) 5 am_c187 = true := by decide +kernel
set_option maxRecDepth 100000 in
theorem am_p187 : am_PI am_i187 := ⟨am_pc_of am_co187, ⟨Or.inl ⟨(List.mem_of_getElem? (i := 1285) rfl), rfl⟩, by decide +kernel, ⟨by decide +kernel, by decide +kernel⟩, (List.mem_of_getElem? (i := 81) (by decide +kernel)), by decide +kernel⟩, (fun h => absurd h (by decide)), am_ts_of am_tc187⟩
theorem am_co188_0 : am_allT (am_ckc prog_11_method_35_code) 5 am_c188_0 = true := by decide +kernel
theorem am_tc188_0 : am_allT (am_tck (am_at am_c188) 9) 5 am_c188_0 = true := by decide +kernel
theorem am_co188_1 : am_allT (am_ckc prog_11_method_35_code) 5 am_c188_1 = true := by decide +kernel
theorem am_tc188_1 : am_allT (am_tck (am_at am_c188) 9) 5 am_c188_1 = true := by decide +kernel
theorem am_co188_2 : am_allT (am_ckc prog_11_method_35_code) 5 am_c188_2 = true := by decide +kernel
theorem am_tc188_2 : am_allT (am_tck (am_at am_c188) 9) 5 am_c188_2 = true := by decide +kernel
theorem am_co188_3 : am_allT (am_ckc prog_11_method_35_code) 5 am_c188_3 = true := by decide +kernel
theorem am_tc188_3 : am_allT (am_tck (am_at am_c188) 9) 5 am_c188_3 = true := by decide +kernel
theorem am_co188 : am_allT (am_ckc prog_11_method_35_code) 7 am_c188 = true := (am_allT_nd (am_allT_nd am_co188_0 am_co188_1) (am_allT_nd am_co188_2 am_co188_3))
theorem am_tc188 : am_allT (am_tck (am_at am_c188) 9) 7 am_c188 = true := (am_allT_nd (am_allT_nd am_tc188_0 am_tc188_1) (am_allT_nd am_tc188_2 am_tc188_3))
set_option maxRecDepth 100000 in
theorem am_p188 : am_PI am_i188 := ⟨am_pc_of am_co188, ⟨Or.inl ⟨(List.mem_of_getElem? (i := 1289) rfl), rfl⟩, by decide +kernel, ⟨by decide +kernel, by decide +kernel⟩, (List.mem_of_getElem? (i := 81) (by decide +kernel)), by decide +kernel⟩, (fun h => absurd h (by decide)), am_ts_of am_tc188⟩
theorem am_co189 : am_allT (am_ckc prog_11_method_36_code) 4 am_c189 = true := by decide +kernel
theorem am_tc189 : am_allT (am_tck (am_at am_c189) 9) 4 am_c189 = true := by decide +kernel
set_option maxRecDepth 100000 in
theorem am_p189 : am_PI am_i189 := ⟨am_pc_of am_co189, ⟨Or.inl ⟨(List.mem_of_getElem? (i := 1293) rfl), rfl⟩, by decide +kernel, ⟨by decide +kernel, by decide +kernel⟩, (List.mem_of_getElem? (i := 81) (by decide +kernel)), by decide +kernel⟩, (fun h => absurd h (by decide)), am_ts_of am_tc189⟩
theorem am_co190_0 : am_allT (am_ckc prog_11_method_42_code) 5 am_c190_0 = true := by decide +kernel
theorem am_tc190_0 : am_allT (am_tck (am_at am_c190) 9) 5 am_c190_0 = true := by decide +kernel
theorem am_co190_1 : am_allT (am_ckc prog_11_method_42_code) 5 am_c190_1 = true := by decide +kernel
theorem am_tc190_1 : am_allT (am_tck (am_at am_c190) 9) 5 am_c190_1 = true := by decide +kernel
theorem am_co190 : am_allT (am_ckc prog_11_method_42_code) 6 am_c190 = true := (am_allT_nd am_co190_0 am_co190_1)
theorem am_tc190 : am_allT (am_tck (am_at am_c190) 9) 6 am_c190 = true := (am_allT_nd am_tc190_0 am_tc190_1)
set_option maxRecDepth 100000 in
theorem am_p190 : am_PI am_i190 := ⟨am_pc_of am_co190, ⟨Or.inl ⟨(List.mem_of_getElem? (i := 1297) rfl), rfl⟩, by decide +kernel, ⟨by decide +kernel, by decide +kernel⟩, (List.mem_of_getElem? (i := 81) (by decide +kernel)), by decide +kernel⟩, (fun h => absurd h (by decide)), am_ts_of am_tc190⟩
theorem am_co191_0 : am_allT (am_ckc prog_11_method_38_code) 5 am_c191_0 = true := by decide +kernel
theorem am_tc191_0 : am_allT (am_tck (am_at am_c191) 9) 5 am_c191_0 = true := by decide +kernel
theorem am_co191_1 : am_allT (am_ckc prog_11_method_38_code) 5 am_c191_1 = true := by decide +kernel
theorem am_tc191_1 : am_allT (am_tck (am_at am_c191) 9) 5 am_c191_1 = true := by decide +kernel
theorem am_co191_2 : am_allT (am_ckc prog_11_method_38_code) 5 am_c191_2 = true := by decide +kernel
theorem am_tc191_2 : am_allT (am_tck (am_at am_c191) 9) 5 am_c191_2 = true := by decide +kernel
theorem am_co191_3 : am_allT (am_ckc prog_11_method_38_code) 5 am_c191_3 = true := by decide +kernel
theorem am_tc191_3 : am_allT (am_tck (am_at am_c191) 9) 5 am_c191_3 = true := by decide +kernel
theorem am_co191_4 : am_allT (am_ckc prog_11_method_38_code) 5 am_c191_4 = true := by decide +kernel
theorem am_tc191_4 : am_allT (am_tck (am_at am_c191) 9) 5 am_c191_4 = true := by decide +kernel
theorem am_co191_5 : am_allT (am_ckc prog_11_method_38_code) 5 am_c191_5 = true := by decide +kernel
theorem am_tc191_5 : am_allT (am_tck (am_at am_c191) 9) 5 am_c191_5 = true := by decide +kernel
theorem am_co191_6 : am_allT (am_ckc prog_11_method_38_code) 5 am_c191_6 = true := by decide +kernel
theorem am_tc191_6 : am_allT (am_tck (am_at am_c191) 9) 5 am_c191_6 = true := by decide +kernel
theorem am_co191_7 : am_allT (am_ckc prog_11_method_38_code) 5 am_c191_7 = true := by decide +kernel
theorem am_tc191_7 : am_allT (am_tck (am_at am_c191) 9) 5 am_c191_7 = true := by decide +kernel
theorem am_co191 : am_allT (am_ckc prog_11_method_38_code) 8 am_c191 = true := (am_allT_nd (am_allT_nd (am_allT_nd am_co191_0 am_co191_1) (am_allT_nd am_co191_2 am_co191_3)) (am_allT_nd (am_allT_nd am_co191_4 am_co191_5) (am_allT_nd am_co191_6 am_co191_7)))
theorem am_tc191 : am_allT (am_tck (am_at am_c191) 9) 8 am_c191 = true := (am_allT_nd (am_allT_nd (am_allT_nd am_tc191_0 am_tc191_1) (am_allT_nd am_tc191_2 am_tc191_3)) (am_allT_nd (am_allT_nd am_tc191_4 am_tc191_5) (am_allT_nd am_tc191_6 am_tc191_7)))
set_option maxRecDepth 100000 in
theorem am_p191 : am_PI am_i191 := ⟨am_pc_of am_co191, ⟨Or.inl ⟨(List.mem_of_getElem? (i := 1301) rfl), rfl⟩, by decide +kernel, ⟨by decide +kernel, by decide +kernel⟩, (List.mem_of_getElem? (i := 81) (by decide +kernel)), by decide +kernel⟩, (fun h => absurd h (by decide)), am_ts_of am_tc191⟩
theorem am_co192_0 : am_allT (am_ckc prog_11_method_45_code) 5 am_c192_0 = true := by decide +kernel
theorem am_tc192_0 : am_allT (am_tck (am_at am_c192) 9) 5 am_c192_0 = true := by decide +kernel
theorem am_co192_1 : am_allT (am_ckc prog_11_method_45_code) 5 am_c192_1 = true := by decide +kernel
theorem am_tc192_1 : am_allT (am_tck (am_at am_c192) 9) 5 am_c192_1 = true := by decide +kernel
theorem am_co192_2 : am_allT (am_ckc prog_11_method_45_code) 5 am_c192_2 = true := by decide +kernel
theorem am_tc192_2 : am_allT (am_tck (am_at am_c192) 9) 5 am_c192_2 = true := by decide +kernel
theorem am_co192_3 : am_allT (am_ckc prog_11_method_45_code) 5 am_c192_3 = true := by decide +kernel
theorem am_tc192_3 : am_allT (am_tck (am_at am_c192) 9) 5 am_c192_3 = true := by decide +kernel
theorem am_co192 : am_allT (am_ckc prog_11_method_45_code) 7 am_c192 = true := (am_allT_nd (am_allT_nd am_co192_0 am_co192_1) (am_allT_nd am_co192_2 am_co192_3))
theorem am_tc192 : am_allT (am_tck (am_at am_c192) 9) 7 am_c192 = true := (am_allT_nd (am_allT_nd am_tc192_0 am_tc192_1) (am_allT_nd am_tc192_2 am_tc192_3))
set_option maxRecDepth 100000 in
theorem am_p192 : am_PI am_i192 := ⟨am_pc_of am_co192, ⟨Or.inl ⟨(List.mem_of_getElem? (i := 1305) rfl), rfl⟩, by decide +kernel, ⟨by decide +kernel, by decide +kernel⟩, (List.mem_of_getElem? (i := 81) (by decide +kernel)), by decide +kernel⟩, (fun h => absurd h (by decide)), am_ts_of am_tc192⟩
theorem am_co193_0 : am_allT (am_ckc prog_11_method_47_code) 5 am_c193_0 = true := by decide +kernel
theorem am_tc193_0 : am_allT (am_tck (am_at am_c193) 9) 5 am_c193_0 = true := by decide +kernel
theorem am_co193_1 : am_allT (am_ckc prog_11_method_47_code) 5 am_c193_1 = true := by decide +kernel
theorem am_tc193_1 : am_allT (am_tck (am_at am_c193) 9) 5 am_c193_1 = true := by decide +kernel
theorem am_co193_2 : am_allT (am_ckc prog_11_method_47_code) 5 am_c193_2 = true := by decide +kernel
theorem am_tc193_2 : am_allT (am_tck (am_at am_c193) 9) 5 am_c193_2 = true := by decide +kernel
theorem am_co193_3 : am_allT (am_ckc prog_11_method_47_code) 5 am_c193_3 = true := by decide +kernel
theorem am_tc193_3 : am_allT (am_tck (am_at am_c193) 9) 5 am_c193_3 = true := by decide +kernel
theorem am_co193 : am_allT (am_ckc prog_11_method_47_code) 7 am_c193 = true := (am_allT_nd (am_allT_nd am_co193_0 am_co193_1) (am_allT_nd am_co193_2 am_co193_3))
theorem am_tc193 : am_allT (am_tck (am_at am_c193) 9) 7 am_c193 = true := (am_allT_nd (am_allT_nd am_tc193_0 am_tc193_1) (am_allT_nd am_tc193_2 am_tc193_3))
set_option maxRecDepth 100000 in
theorem am_p193 : am_PI am_i193 := ⟨am_pc_of am_co193, ⟨Or.inl ⟨(List.mem_of_getElem? (i := 1309) rfl), rfl⟩, by decide +kernel, ⟨by decide +kernel, by decide +kernel⟩, (List.mem_of_getElem? (i := 81) (by decide +kernel)), by decide +kernel⟩, (fun h => absurd h (by decide)), am_ts_of am_tc193⟩
theorem am_co194_0 : am_allT (am_ckc prog_11_method_48_code) 5 am_c194_0 = true := by decide +kernel
theorem am_tc194_0 : am_allT (am_tck (am_at am_c194) 9) 5 am_c194_0 = true := by decide +kernel
theorem am_co194_1 : am_allT (am_ckc prog_11_method_48_code) 5 am_c194_1 = true := by decide +kernel
theorem am_tc194_1 : am_allT (am_tck (am_at am_c194) 9) 5 am_c194_1 = true := by decide +kernel
theorem am_co194 : am_allT (am_ckc prog_11_method_48_code) 6 am_c194 = true := (am_allT_nd am_co194_0 am_co194_1)
theorem am_tc194 : am_allT (am_tck (am_at am_c194) 9) 6 am_c194 = true := (am_allT_nd am_tc194_0 am_tc194_1)
set_option maxRecDepth 100000 in
theorem am_p194 : am_PI am_i194 := ⟨am_pc_of am_co194, ⟨Or.inl ⟨(List.mem_of_getElem? (i := 1313) rfl), rfl⟩, by decide +kernel, ⟨by decide +kernel, by decide +kernel⟩, (List.mem_of_getElem? (i := 81) (by decide +kernel)), by decide +kernel⟩, (fun h => absurd h (by decide)), am_ts_of am_tc194⟩
theorem am_co195 : am_allT (am_ckc prog_11_method_49_code) 5 am_c195 = true := by decide +kernel
theorem am_tc195 : am_allT (am_tck (am_at am_c195) 9) 5 am_c195 = true := by decide +kernel
set_option maxRecDepth 100000 in
theorem am_p195 : am_PI am_i195 := ⟨am_pc_of am_co195, ⟨Or.inl ⟨(List.mem_of_getElem? (i := 1317) rfl), rfl⟩, by decide +kernel, ⟨by decide +kernel, by decide +kernel⟩, (List.mem_of_getElem? (i := 81) (by decide +kernel)), by decide +kernel⟩, (fun h => absurd h (by decide)), am_ts_of am_tc195⟩
theorem am_co196 : am_allT (am_ckc prog_11_method_52_code) 5 am_c196 = true := by decide +kernel
theorem am_tc196 : am_allT (am_tck (am_at am_c196) 9) 5 am_c196 = true := by decide +kernel
set_option maxRecDepth 100000 in
theorem am_p196 : am_PI am_i196 := ⟨am_pc_of am_co196, ⟨Or.inl ⟨(List.mem_of_getElem? (i := 1321) rfl), rfl⟩, by decide +kernel, ⟨by decide +kernel, by decide +kernel⟩, (List.mem_of_getElem? (i := 81) (by decide +kernel)), by decide +kernel⟩, (fun h => absurd h (by decide)), am_ts_of am_tc196⟩
theorem am_co197_0 : am_allT (am_ckc prog_11_method_53_code) 5 am_c197_0 = true := by decide +kernel
theorem am_tc197_0 : am_allT (am_tck (am_at am_c197) 9) 5 am_c197_0 = true := by decide +kernel
theorem am_co197_1 : am_allT (am_ckc prog_11_method_53_code) 5 am_c197_1 = true := by decide +kernel
theorem am_tc197_1 : am_allT (am_tck (am_at am_c197) 9) 5 am_c197_1 = true := by decide +kernel
theorem am_co197 : am_allT (am_ckc prog_11_method_53_code) 6 am_c197 = true := (am_allT_nd am_co197_0 am_co197_1)
theorem am_tc197 : am_allT (am_tck (am_at am_c197) 9) 6 am_c197 = true := (am_allT_nd am_tc197_0 am_tc197_1)
set_option maxRecDepth 100000 in
theorem am_p197 : am_PI am_i197 := ⟨am_pc_of am_co197, ⟨Or.inl ⟨(List.mem_of_getElem? (i := 1325) rfl), rfl⟩, by decide +kernel, ⟨by decide +kernel, by decide +kernel⟩, (List.mem_of_getElem? (i := 81) (by decide +kernel)), by decide +kernel⟩, (fun h => absurd h (by decide)), am_ts_of am_tc197⟩
theorem am_co198 : am_allT (am_ckc prog_11_method_54_code) 5 am_c198 = true := by decide +kernel
theorem am_tc198 : am_allT (am_tck (am_at am_c198) 9) 5 am_c198 = true := by decide +kernel
set_option maxRecDepth 100000 in
theorem am_p198 : am_PI am_i198 := ⟨am_pc_of am_co198, ⟨Or.inl ⟨(List.mem_of_getElem? (i := 1329) rfl), rfl⟩, by decide +kernel, ⟨by decide +kernel, by decide +kernel⟩, (List.mem_of_getElem? (i := 81) (by decide +kernel)), by decide +kernel⟩, (fun h => absurd h (by decide)), am_ts_of am_tc198⟩
theorem am_co199_0 : am_allT (am_ckc prog_11_method_55_code) 5 am_c199_0 = true := by decide +kernel
theorem am_tc199_0 : am_allT (am_tck (am_at am_c199) 9) 5 am_c199_0 = true := by decide +kernel
theorem am_co199_1 : am_allT (am_ckc prog_11_method_55_code) 5 am_c199_1 = true := by decide +kernel
theorem am_tc199_1 : am_allT (am_tck (am_at am_c199) 9) 5 am_c199_1 = true := by decide +kernel
theorem am_co199_2 : am_allT (am_ckc prog_11_method_55_code) 5 am_c199_2 = true := by decide +kernel
theorem am_tc199_2 : am_allT (am_tck (am_at am_c199) 9) 5 am_c199_2 = true := by decide +kernel
theorem am_co199_3 : am_allT (am_ckc prog_11_method_55_code) 5 am_c199_3 = true := by decide +kernel
theorem am_tc199_3 : am_allT (am_tck (am_at am_c199) 9) 5 am_c199_3 = true := by decide +kernel
theorem am_co199_4 : am_allT (am_ckc prog_11_method_55_code) 5 am_c199_4 = true := by decide +kernel
theorem am_tc199_4 : am_allT (am_tck (am_at am_c199) 9) 5 am_c199_4 = true := by decide +kernel
theorem am_co199_5 : am_allT (am_ckc prog_11_method_55_code) 5 am_c199_5 = true := by decide +kernel
theorem am_tc199_5 : am_allT (am_tck (am_at am_c199) 9) 5 am_c199_5 = true := by decide +kernel
theorem am_co199_6 : am_allT (am_ckc prog_11_method_55_code) 5 am_c199_6 = true := by decide +kernel
theorem am_tc199_6 : am_allT (am_tck (am_at am_c199) 9) 5 am_c199_6 = true := by decide +kernel
theorem am_co199_7 : am_allT (am_ckc prog_11_method_55_code) 5 am_c199_7 = true := by decide +kernel
theorem am_tc199_7 : am_allT (am_tck (am_at am_c199) 9) 5 am_c199_7 = true := by decide +kernel
theorem am_co199 : am_allT (am_ckc prog_11_method_55_code) 8 am_c199 = true := (am_allT_nd (am_allT_nd (am_allT_nd am_co199_0 am_co199_1) (am_allT_nd am_co199_2 am_co199_3)) (am_allT_nd (am_allT_nd am_co199_4 am_co199_5) (am_allT_nd am_co199_6 am_co199_7)))
theorem am_tc199 : am_allT (am_tck (am_at am_c199) 9) 8 am_c199 = true := (am_allT_nd (am_allT_nd (am_allT_nd am_tc199_0 am_tc199_1) (am_allT_nd am_tc199_2 am_tc199_3)) (am_allT_nd (am_allT_nd am_tc199_4 am_tc199_5) (am_allT_nd am_tc199_6 am_tc199_7)))
set_option maxRecDepth 100000 in
theorem am_p199 : am_PI am_i199 := ⟨am_pc_of am_co199, ⟨Or.inl ⟨(List.mem_of_getElem? (i := 1333) rfl), rfl⟩, by decide +kernel, ⟨by decide +kernel, by decide +kernel⟩, (List.mem_of_getElem? (i := 81) (by decide +kernel)), by decide +kernel⟩, (fun h => absurd h (by decide)), am_ts_of am_tc199⟩
theorem am_co200_0 : am_allT (am_ckc prog_11_method_56_code) 5 am_c200_0 = true := by decide +kernel
theorem am_tc200_0 : am_allT (am_tck (am_at am_c200) 9) 5 am_c200_0 = true := by decide +kernel
theorem am_co200_1 : am_allT (am_ckc prog_11_method_56_code) 5 am_c200_1 = true := by decide +kernel
theorem am_tc200_1 : am_allT (am_tck (am_at am_c200) 9) 5 am_c200_1 = true := by decide +kernel
theorem am_co200_2 : am_allT (am_ckc prog_11_method_56_code) 5 am_c200_2 = true := by decide +kernel
theorem am_tc200_2 : am_allT (am_tck (am_at am_c200) 9) 5 am_c200_2 = true := by decide +kernel
theorem am_co200_3 : am_allT (am_ckc prog_11_method_56_code) 5 am_c200_3 = true := by decide +kernel
theorem am_tc200_3 : am_allT (am_tck (am_at am_c200) 9) 5 am_c200_3 = true := by decide +kernel
theorem am_co200 : am_allT (am_ckc prog_11_method_56_code) 7 am_c200 = true := (am_allT_nd (am_allT_nd am_co200_0 am_co200_1) (am_allT_nd am_co200_2 am_co200_3))
theorem am_tc200 : am_allT (am_tck (am_at am_c200) 9) 7 am_c200 = true := (am_allT_nd (am_allT_nd am_tc200_0 am_tc200_1) (am_allT_nd am_tc200_2 am_tc200_3))
set_option maxRecDepth 100000 in
theorem am_p200 : am_PI am_i200 := ⟨am_pc_of am_co200, ⟨Or.inl ⟨(List.mem_of_getElem? (i := 1337) rfl), rfl⟩, by decide +kernel, ⟨by decide +kernel, by decide +kernel⟩, (List.mem_of_getElem? (i := 81) (by decide +kernel)), by decide +kernel⟩, (fun h => absurd h (by decide)), am_ts_of am_tc200⟩
theorem am_co201 : am_allT (am_ckc prog_11_method_57_code) 3 am_c201 = true := by decide +kernel
theorem am_tc201 : am_allT (am_tck (am_at am_c201) 9) 3 am_c201 = true := by decide +kernel
set_option maxRecDepth 100000 in
theorem am_p201 : am_PI am_i201 := ⟨am_pc_of am_co201, ⟨Or.inl ⟨(List.mem_of_getElem? (i := 1341) rfl), rfl⟩, by decide +kernel, ⟨by decide +kernel, by decide +kernel⟩, (List.mem_of_getElem? (i := 81) (by decide +kernel)), by decide +kernel⟩, (fun h => absurd h (by decide)), am_ts_of am_tc201⟩
theorem am_co202 : am_allT (am_ckc prog_11_method_58_code) 5 am_c202 = true := by decide +kernel
theorem am_tc202 : am_allT (am_tck (am_at am_c202) 9) 5 am_c202 = true := by decide +kernel
set_option maxRecDepth 100000 in
theorem am_p202 : am_PI am_i202 := ⟨am_pc_of am_co202, ⟨Or.inl ⟨(List.mem_of_getElem? (i := 1345) rfl), rfl⟩, by decide +kernel, ⟨by decide +kernel, by decide +kernel⟩, (List.mem_of_getElem? (i := 81) (by decide +kernel)), by decide +kernel⟩, (fun h => absurd h (by decide)), am_ts_of am_tc202⟩
theorem am_co203 : am_allT (am_ckc prog_11_method_59_code) 3 am_c203 = true := by decide +kernel
theorem am_tc203 : am_allT (am_tck (am_at am_c203) 9) 3 am_c203 = true := by decide +kernel
set_option maxRecDepth 100000 in
theorem am_p203 : am_PI am_i203 := ⟨am_pc_of am_co203, ⟨Or.inl ⟨(List.mem_of_getElem? (i := 1349) rfl), rfl⟩, by decide +kernel, ⟨by decide +kernel, by decide +kernel⟩, (List.mem_of_getElem? (i := 81) (by decide +kernel)), by decide +kernel⟩, (fun h => absurd h (by decide)), am_ts_of am_tc203⟩
