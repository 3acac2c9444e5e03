/-! FACTS OF CLASSES AND LINKS, written by wip/tools/gen.py -/
theorem am_blt17 (n : Nat) : Nat.blt (n + 17) 17 = false := by
  cases h : Nat.blt (n + 17) 17 with
  | false => rfl
  | true => exact absurd (Nat.le_of_ble_eq_true h) (by omega)
theorem am_cls0 : am_cok 0 "PassChecker" am_F0 8 := ⟨rfl, rfl, by decide +kernel, by decide +kernel, by decide +kernel⟩
theorem am_dec0 (k : Nat) (h : (am_F0 k).2.2.2 = true) : (am_F0 k).1 = "PassChecker" := by
  unfold am_F0 at h ⊢
  split <;> first | rfl | (simp at h; done) | (split at h <;> cases h)
theorem am_cls1 : am_cok 1 "PassChecker$Program" am_F1 4 := ⟨rfl, rfl, by decide +kernel, by decide +kernel, by decide +kernel⟩
theorem am_dec1 (k : Nat) (h : (am_F1 k).2.2.2 = true) : (am_F1 k).1 = "PassChecker$Program" := by
  unfold am_F1 at h ⊢
  split <;> first | rfl | (simp at h; done) | (split at h <;> cases h)
theorem am_cls2 : am_cok 2 "PassChecker$Folder" am_F2 2 := ⟨rfl, rfl, by decide +kernel, by decide +kernel, by decide +kernel⟩
theorem am_dec2 (k : Nat) (h : (am_F2 k).2.2.2 = true) : (am_F2 k).1 = "PassChecker$Folder" := by
  unfold am_F2 at h ⊢
  split <;> first | rfl | (simp at h; done) | (split at h <;> cases h)
theorem am_cls3 : am_cok 3 "PassChecker$Reuser" am_F3 0 := ⟨rfl, rfl, by decide +kernel, by decide +kernel, by decide +kernel⟩
theorem am_dec3 (k : Nat) (h : (am_F3 k).2.2.2 = true) : (am_F3 k).1 = "PassChecker$Reuser" := by cases h
theorem am_cls4 : am_cok 4 "PassChecker$Orderer" am_F4 2 := ⟨rfl, rfl, by decide +kernel, by decide +kernel, by decide +kernel⟩
theorem am_dec4 (k : Nat) (h : (am_F4 k).2.2.2 = true) : (am_F4 k).1 = "PassChecker$Orderer" := by
  unfold am_F4 at h ⊢
  split <;> first | rfl | (simp at h; done) | (split at h <;> cases h)
theorem am_cls5 : am_cok 5 "PassChecker$Checker" am_F5 9 := ⟨rfl, rfl, by decide +kernel, by decide +kernel, by decide +kernel⟩
theorem am_dec5 (k : Nat) (h : (am_F5 k).2.2.2 = true) : (am_F5 k).1 = "PassChecker$Checker" := by
  unfold am_F5 at h ⊢
  split <;> first | rfl | (simp at h; done) | (split at h <;> cases h)
theorem am_cls6 : am_cok 6 "PassChecker$Values" am_F6 9 := ⟨rfl, rfl, by decide +kernel, by decide +kernel, by decide +kernel⟩
theorem am_dec6 (k : Nat) (h : (am_F6 k).2.2.2 = true) : (am_F6 k).1 = "PassChecker$Values" := by
  unfold am_F6 at h ⊢
  split <;> first | rfl | (simp at h; done) | (split at h <;> cases h)
theorem am_cls7 : am_cok 7 "PassChecker$Outcome" am_F7 10 := ⟨rfl, rfl, by decide +kernel, by decide +kernel, by decide +kernel⟩
theorem am_dec7 (k : Nat) (h : (am_F7 k).2.2.2 = true) : (am_F7 k).1 = "PassChecker$Outcome" := by
  unfold am_F7 at h ⊢
  split <;> first | rfl | (simp at h; done) | (split at h <;> cases h)
theorem am_cls8 : am_cok 8 "PassChecker$Machine" am_F8 6 := ⟨rfl, rfl, by decide +kernel, by decide +kernel, by decide +kernel⟩
theorem am_dec8 (k : Nat) (h : (am_F8 k).2.2.2 = true) : (am_F8 k).1 = "PassChecker$Machine" := by
  unfold am_F8 at h ⊢
  split <;> first | rfl | (simp at h; done) | (split at h <;> cases h)
theorem am_cls9 : am_cok 9 "PassCheckerModel" am_F9 36 := ⟨rfl, rfl, by decide +kernel, by decide +kernel, by decide +kernel⟩
theorem am_dec9 (k : Nat) (h : (am_F9 k).2.2.2 = true) : (am_F9 k).1 = "PassCheckerModel" := by
  unfold am_F9 at h ⊢
  split <;> first | rfl | (simp at h; done) | (split at h <;> cases h)
theorem am_pfok0 : ∀ e ∈ am_pf_0, am_fok 0 e.1 e.2.1 e.2.2 := List.forall_mem_cons.mpr ⟨⟨_, _, _, am_cls0, by decide, (List.mem_of_getElem? (i := 286) (by decide +kernel))⟩, List.forall_mem_cons.mpr ⟨⟨_, _, _, am_cls0, by decide, (List.mem_of_getElem? (i := 287) (by decide +kernel))⟩, List.forall_mem_cons.mpr ⟨⟨_, _, _, am_cls0, by decide, (List.mem_of_getElem? (i := 288) (by decide +kernel))⟩, List.forall_mem_cons.mpr ⟨⟨_, _, _, am_cls0, by decide, (List.mem_of_getElem? (i := 289) (by decide +kernel))⟩, List.forall_mem_cons.mpr ⟨⟨_, _, _, am_cls0, by decide, (List.mem_of_getElem? (i := 290) (by decide +kernel))⟩, List.forall_mem_cons.mpr ⟨⟨_, _, _, am_cls0, by decide, (List.mem_of_getElem? (i := 291) (by decide +kernel))⟩, List.forall_mem_cons.mpr ⟨⟨_, _, _, am_cls0, by decide, (List.mem_of_getElem? (i := 292) (by decide +kernel))⟩, List.forall_mem_cons.mpr ⟨⟨_, _, _, am_cls0, by decide, (List.mem_of_getElem? (i := 293) (by decide +kernel))⟩, fun _ h => absurd h List.not_mem_nil⟩⟩⟩⟩⟩⟩⟩⟩
theorem am_pfok1 : ∀ e ∈ am_pf_1, am_fok 1 e.1 e.2.1 e.2.2 := List.forall_mem_cons.mpr ⟨⟨_, _, _, am_cls1, by decide, (List.mem_of_getElem? (i := 106) (by decide +kernel))⟩, List.forall_mem_cons.mpr ⟨⟨_, _, _, am_cls1, by decide, (List.mem_of_getElem? (i := 107) (by decide +kernel))⟩, List.forall_mem_cons.mpr ⟨⟨_, _, _, am_cls1, by decide, (List.mem_of_getElem? (i := 108) (by decide +kernel))⟩, List.forall_mem_cons.mpr ⟨⟨_, _, _, am_cls1, by decide, (List.mem_of_getElem? (i := 109) (by decide +kernel))⟩, fun _ h => absurd h List.not_mem_nil⟩⟩⟩⟩
theorem am_pfok2 : ∀ e ∈ am_pf_2, am_fok 2 e.1 e.2.1 e.2.2 := List.forall_mem_cons.mpr ⟨⟨_, _, _, am_cls2, by decide, (List.mem_of_getElem? (i := 126) (by decide +kernel))⟩, List.forall_mem_cons.mpr ⟨⟨_, _, _, am_cls2, by decide, (List.mem_of_getElem? (i := 127) (by decide +kernel))⟩, fun _ h => absurd h List.not_mem_nil⟩⟩
theorem am_pfok3 : ∀ e ∈ am_pf_3, am_fok 3 e.1 e.2.1 e.2.2 := fun _ h => absurd h List.not_mem_nil
theorem am_pfok4 : ∀ e ∈ am_pf_4, am_fok 4 e.1 e.2.1 e.2.2 := List.forall_mem_cons.mpr ⟨⟨_, _, _, am_cls4, by decide, (List.mem_of_getElem? (i := 147) (by decide +kernel))⟩, List.forall_mem_cons.mpr ⟨⟨_, _, _, am_cls4, by decide, (List.mem_of_getElem? (i := 148) (by decide +kernel))⟩, fun _ h => absurd h List.not_mem_nil⟩⟩
theorem am_pfok5 : ∀ e ∈ am_pf_5, am_fok 5 e.1 e.2.1 e.2.2 := List.forall_mem_cons.mpr ⟨⟨_, _, _, am_cls5, by decide, (List.mem_of_getElem? (i := 233) (by decide +kernel))⟩, List.forall_mem_cons.mpr ⟨⟨_, _, _, am_cls5, by decide, (List.mem_of_getElem? (i := 234) (by decide +kernel))⟩, List.forall_mem_cons.mpr ⟨⟨_, _, _, am_cls5, by decide, (List.mem_of_getElem? (i := 235) (by decide +kernel))⟩, List.forall_mem_cons.mpr ⟨⟨_, _, _, am_cls5, by decide, (List.mem_of_getElem? (i := 236) (by decide +kernel))⟩, List.forall_mem_cons.mpr ⟨⟨_, _, _, am_cls5, by decide, (List.mem_of_getElem? (i := 237) (by decide +kernel))⟩, List.forall_mem_cons.mpr ⟨⟨_, _, _, am_cls5, by decide, (List.mem_of_getElem? (i := 238) (by decide +kernel))⟩, List.forall_mem_cons.mpr ⟨⟨_, _, _, am_cls5, by decide, (List.mem_of_getElem? (i := 239) (by decide +kernel))⟩, List.forall_mem_cons.mpr ⟨⟨_, _, _, am_cls5, by decide, (List.mem_of_getElem? (i := 240) (by decide +kernel))⟩, List.forall_mem_cons.mpr ⟨⟨_, _, _, am_cls5, by decide, (List.mem_of_getElem? (i := 241) (by decide +kernel))⟩, fun _ h => absurd h List.not_mem_nil⟩⟩⟩⟩⟩⟩⟩⟩⟩
theorem am_pfok6 : ∀ e ∈ am_pf_6, am_fok 6 e.1 e.2.1 e.2.2 := List.forall_mem_cons.mpr ⟨⟨_, _, _, am_cls6, by decide, (List.mem_of_getElem? (i := 168) (by decide +kernel))⟩, List.forall_mem_cons.mpr ⟨⟨_, _, _, am_cls6, by decide, (List.mem_of_getElem? (i := 169) (by decide +kernel))⟩, List.forall_mem_cons.mpr ⟨⟨_, _, _, am_cls6, by decide, (List.mem_of_getElem? (i := 170) (by decide +kernel))⟩, List.forall_mem_cons.mpr ⟨⟨_, _, _, am_cls6, by decide, (List.mem_of_getElem? (i := 171) (by decide +kernel))⟩, List.forall_mem_cons.mpr ⟨⟨_, _, _, am_cls6, by decide, (List.mem_of_getElem? (i := 172) (by decide +kernel))⟩, List.forall_mem_cons.mpr ⟨⟨_, _, _, am_cls6, by decide, (List.mem_of_getElem? (i := 173) (by decide +kernel))⟩, List.forall_mem_cons.mpr ⟨⟨_, _, _, am_cls6, by decide, (List.mem_of_getElem? (i := 174) (by decide +kernel))⟩, List.forall_mem_cons.mpr ⟨⟨_, _, _, am_cls6, by decide, (List.mem_of_getElem? (i := 175) (by decide +kernel))⟩, List.forall_mem_cons.mpr ⟨⟨_, _, _, am_cls6, by decide, (List.mem_of_getElem? (i := 176) (by decide +kernel))⟩, fun _ h => absurd h List.not_mem_nil⟩⟩⟩⟩⟩⟩⟩⟩⟩
theorem am_pfok7 : ∀ e ∈ am_pf_7, am_fok 7 e.1 e.2.1 e.2.2 := List.forall_mem_cons.mpr ⟨⟨_, _, _, am_cls7, by decide, (List.mem_of_getElem? (i := 202) (by decide +kernel))⟩, List.forall_mem_cons.mpr ⟨⟨_, _, _, am_cls7, by decide, (List.mem_of_getElem? (i := 203) (by decide +kernel))⟩, List.forall_mem_cons.mpr ⟨⟨_, _, _, am_cls7, by decide, (List.mem_of_getElem? (i := 204) (by decide +kernel))⟩, List.forall_mem_cons.mpr ⟨⟨_, _, _, am_cls7, by decide, (List.mem_of_getElem? (i := 205) (by decide +kernel))⟩, List.forall_mem_cons.mpr ⟨⟨_, _, _, am_cls7, by decide, (List.mem_of_getElem? (i := 206) (by decide +kernel))⟩, List.forall_mem_cons.mpr ⟨⟨_, _, _, am_cls7, by decide, (List.mem_of_getElem? (i := 207) (by decide +kernel))⟩, List.forall_mem_cons.mpr ⟨⟨_, _, _, am_cls7, by decide, (List.mem_of_getElem? (i := 208) (by decide +kernel))⟩, List.forall_mem_cons.mpr ⟨⟨_, _, _, am_cls7, by decide, (List.mem_of_getElem? (i := 209) (by decide +kernel))⟩, List.forall_mem_cons.mpr ⟨⟨_, _, _, am_cls7, by decide, (List.mem_of_getElem? (i := 210) (by decide +kernel))⟩, List.forall_mem_cons.mpr ⟨⟨_, _, _, am_cls7, by decide, (List.mem_of_getElem? (i := 211) (by decide +kernel))⟩, fun _ h => absurd h List.not_mem_nil⟩⟩⟩⟩⟩⟩⟩⟩⟩⟩
theorem am_pfok8 : ∀ e ∈ am_pf_8, am_fok 8 e.1 e.2.1 e.2.2 := List.forall_mem_cons.mpr ⟨⟨_, _, _, am_cls8, by decide, (List.mem_of_getElem? (i := 267) (by decide +kernel))⟩, List.forall_mem_cons.mpr ⟨⟨_, _, _, am_cls8, by decide, (List.mem_of_getElem? (i := 268) (by decide +kernel))⟩, List.forall_mem_cons.mpr ⟨⟨_, _, _, am_cls8, by decide, (List.mem_of_getElem? (i := 269) (by decide +kernel))⟩, List.forall_mem_cons.mpr ⟨⟨_, _, _, am_cls8, by decide, (List.mem_of_getElem? (i := 270) (by decide +kernel))⟩, List.forall_mem_cons.mpr ⟨⟨_, _, _, am_cls8, by decide, (List.mem_of_getElem? (i := 271) (by decide +kernel))⟩, List.forall_mem_cons.mpr ⟨⟨_, _, _, am_cls8, by decide, (List.mem_of_getElem? (i := 272) (by decide +kernel))⟩, fun _ h => absurd h List.not_mem_nil⟩⟩⟩⟩⟩⟩
theorem am_pfok9 : ∀ e ∈ am_pf_9, am_fok 9 e.1 e.2.1 e.2.2 := List.forall_mem_cons.mpr ⟨⟨_, _, _, am_cls9, by decide, (List.mem_of_getElem? (i := 1019) (by decide +kernel))⟩, List.forall_mem_cons.mpr ⟨⟨_, _, _, am_cls9, by decide, (List.mem_of_getElem? (i := 1020) (by decide +kernel))⟩, List.forall_mem_cons.mpr ⟨⟨_, _, _, am_cls9, by decide, (List.mem_of_getElem? (i := 1021) (by decide +kernel))⟩, List.forall_mem_cons.mpr ⟨⟨_, _, _, am_cls9, by decide, (List.mem_of_getElem? (i := 1022) (by decide +kernel))⟩, List.forall_mem_cons.mpr ⟨⟨_, _, _, am_cls9, by decide, (List.mem_of_getElem? (i := 1023) (by decide +kernel))⟩, List.forall_mem_cons.mpr ⟨⟨_, _, _, am_cls9, by decide, (List.mem_of_getElem? (i := 1024) (by decide +kernel))⟩, List.forall_mem_cons.mpr ⟨⟨_, _, _, am_cls9, by decide, (List.mem_of_getElem? (i := 1025) (by decide +kernel))⟩, List.forall_mem_cons.mpr ⟨⟨_, _, _, am_cls9, by decide, (List.mem_of_getElem? (i := 1026) (by decide +kernel))⟩, List.forall_mem_cons.mpr ⟨⟨_, _, _, am_cls9, by decide, (List.mem_of_getElem? (i := 1027) (by decide +kernel))⟩, List.forall_mem_cons.mpr ⟨⟨_, _, _, am_cls9, by decide, (List.mem_of_getElem? (i := 1028) (by decide +kernel))⟩, List.forall_mem_cons.mpr ⟨⟨_, _, _, am_cls9, by decide, (List.mem_of_getElem? (i := 1029) (by decide +kernel))⟩, List.forall_mem_cons.mpr ⟨⟨_, _, _, am_cls9, by decide, (List.mem_of_getElem? (i := 1030) (by decide +kernel))⟩, List.forall_mem_cons.mpr ⟨⟨_, _, _, am_cls9, by decide, (List.mem_of_getElem? (i := 1031) (by decide +kernel))⟩, List.forall_mem_cons.mpr ⟨⟨_, _, _, am_cls9, by decide, (List.mem_of_getElem? (i := 1032) (by decide +kernel))⟩, List.forall_mem_cons.mpr ⟨⟨_, _, _, am_cls9, by decide, (List.mem_of_getElem? (i := 1033) (by decide +kernel))⟩, List.forall_mem_cons.mpr ⟨⟨_, _, _, am_cls9, by decide, (List.mem_of_getElem? (i := 1034) (by decide +kernel))⟩, List.forall_mem_cons.mpr ⟨⟨_, _, _, am_cls9, by decide, (List.mem_of_getElem? (i := 1035) (by decide +kernel))⟩, List.forall_mem_cons.mpr ⟨⟨_, _, _, am_cls9, by decide, (List.mem_of_getElem? (i := 1036) (by decide +kernel))⟩, List.forall_mem_cons.mpr ⟨⟨_, _, _, am_cls9, by decide, (List.mem_of_getElem? (i := 1037) (by decide +kernel))⟩, List.forall_mem_cons.mpr ⟨⟨_, _, _, am_cls9, by decide, (List.mem_of_getElem? (i := 1038) (by decide +kernel))⟩, List.forall_mem_cons.mpr ⟨⟨_, _, _, am_cls9, by decide, (List.mem_of_getElem? (i := 1039) (by decide +kernel))⟩, List.forall_mem_cons.mpr ⟨⟨_, _, _, am_cls9, by decide, (List.mem_of_getElem? (i := 1040) (by decide +kernel))⟩, List.forall_mem_cons.mpr ⟨⟨_, _, _, am_cls9, by decide, (List.mem_of_getElem? (i := 1041) (by decide +kernel))⟩, List.forall_mem_cons.mpr ⟨⟨_, _, _, am_cls9, by decide, (List.mem_of_getElem? (i := 1042) (by decide +kernel))⟩, List.forall_mem_cons.mpr ⟨⟨_, _, _, am_cls9, by decide, (List.mem_of_getElem? (i := 1043) (by decide +kernel))⟩, List.forall_mem_cons.mpr ⟨⟨_, _, _, am_cls9, by decide, (List.mem_of_getElem? (i := 1044) (by decide +kernel))⟩, List.forall_mem_cons.mpr ⟨⟨_, _, _, am_cls9, by decide, (List.mem_of_getElem? (i := 1045) (by decide +kernel))⟩, List.forall_mem_cons.mpr ⟨⟨_, _, _, am_cls9, by decide, (List.mem_of_getElem? (i := 1046) (by decide +kernel))⟩, List.forall_mem_cons.mpr ⟨⟨_, _, _, am_cls9, by decide, (List.mem_of_getElem? (i := 1047) (by decide +kernel))⟩, List.forall_mem_cons.mpr ⟨⟨_, _, _, am_cls9, by decide, (List.mem_of_getElem? (i := 1048) (by decide +kernel))⟩, List.forall_mem_cons.mpr ⟨⟨_, _, _, am_cls9, by decide, (List.mem_of_getElem? (i := 1049) (by decide +kernel))⟩, List.forall_mem_cons.mpr ⟨⟨_, _, _, am_cls9, by decide, (List.mem_of_getElem? (i := 1050) (by decide +kernel))⟩, List.forall_mem_cons.mpr ⟨⟨_, _, _, am_cls9, by decide, (List.mem_of_getElem? (i := 1051) (by decide +kernel))⟩, List.forall_mem_cons.mpr ⟨⟨_, _, _, am_cls9, by decide, (List.mem_of_getElem? (i := 1052) (by decide +kernel))⟩, List.forall_mem_cons.mpr ⟨⟨_, _, _, am_cls9, by decide, (List.mem_of_getElem? (i := 1053) (by decide +kernel))⟩, List.forall_mem_cons.mpr ⟨⟨_, _, _, am_cls9, by decide, (List.mem_of_getElem? (i := 1054) (by decide +kernel))⟩, fun _ h => absurd h List.not_mem_nil⟩⟩⟩⟩⟩⟩⟩⟩⟩⟩⟩⟩⟩⟩⟩⟩⟩⟩⟩⟩⟩⟩⟩⟩⟩⟩⟩⟩⟩⟩⟩⟩⟩⟩⟩⟩
theorem am_pfok10 : ∀ e ∈ am_pf_10, am_fok 10 e.1 e.2.1 e.2.2 := fun _ h => absurd h List.not_mem_nil
theorem am_pfok11 : ∀ e ∈ am_pf_11, am_fok 11 e.1 e.2.1 e.2.2 := fun _ h => absurd h List.not_mem_nil
theorem am_pfok12 : ∀ e ∈ am_pf_12, am_fok 12 e.1 e.2.1 e.2.2 := fun _ h => absurd h List.not_mem_nil
theorem am_pfok13 : ∀ e ∈ am_pf_13, am_fok 13 e.1 e.2.1 e.2.2 := fun _ h => absurd h List.not_mem_nil
theorem am_pfok14 : ∀ e ∈ am_pf_14, am_fok 14 e.1 e.2.1 e.2.2 := fun _ h => absurd h List.not_mem_nil
theorem am_pfok15 : ∀ e ∈ am_pf_15, am_fok 15 e.1 e.2.1 e.2.2 := fun _ h => absurd h List.not_mem_nil
theorem am_pfok16 : ∀ e ∈ am_pf_16, am_fok 16 e.1 e.2.1 e.2.2 := fun _ h => absurd h List.not_mem_nil
theorem am_pcok0 : ∀ e ∈ am_pc_0, am_nok 0 e.1 e.2 := List.forall_mem_cons.mpr ⟨⟨_, _, _, am_cls1, (List.mem_of_getElem? (i := 100) (by decide +kernel)), (List.mem_of_getElem? (i := 101) (by decide +kernel)), (List.mem_of_getElem? (i := 73) (by decide +kernel)), by decide, by decide +kernel⟩, List.forall_mem_cons.mpr ⟨⟨_, _, _, am_cls2, (List.mem_of_getElem? (i := 120) (by decide +kernel)), (List.mem_of_getElem? (i := 121) (by decide +kernel)), (List.mem_of_getElem? (i := 74) (by decide +kernel)), by decide, by decide +kernel⟩, List.forall_mem_cons.mpr ⟨⟨_, _, _, am_cls3, (List.mem_of_getElem? (i := 134) (by decide +kernel)), (List.mem_of_getElem? (i := 135) (by decide +kernel)), (List.mem_of_getElem? (i := 75) (by decide +kernel)), by decide, by decide +kernel⟩, List.forall_mem_cons.mpr ⟨⟨_, _, _, am_cls4, (List.mem_of_getElem? (i := 141) (by decide +kernel)), (List.mem_of_getElem? (i := 142) (by decide +kernel)), (List.mem_of_getElem? (i := 76) (by decide +kernel)), by decide, by decide +kernel⟩, List.forall_mem_cons.mpr ⟨⟨_, _, _, am_cls5, (List.mem_of_getElem? (i := 154) (by decide +kernel)), (List.mem_of_getElem? (i := 155) (by decide +kernel)), (List.mem_of_getElem? (i := 77) (by decide +kernel)), by decide, by decide +kernel⟩, List.forall_mem_cons.mpr ⟨⟨_, _, _, am_cls8, (List.mem_of_getElem? (i := 261) (by decide +kernel)), (List.mem_of_getElem? (i := 262) (by decide +kernel)), (List.mem_of_getElem? (i := 80) (by decide +kernel)), by decide, by decide +kernel⟩, fun _ h => absurd h List.not_mem_nil⟩⟩⟩⟩⟩⟩
theorem am_pcok1 : ∀ e ∈ am_pc_1, am_nok 1 e.1 e.2 := fun _ h => absurd h List.not_mem_nil
theorem am_pcok2 : ∀ e ∈ am_pc_2, am_nok 2 e.1 e.2 := fun _ h => absurd h List.not_mem_nil
theorem am_pcok3 : ∀ e ∈ am_pc_3, am_nok 3 e.1 e.2 := fun _ h => absurd h List.not_mem_nil
theorem am_pcok4 : ∀ e ∈ am_pc_4, am_nok 4 e.1 e.2 := fun _ h => absurd h List.not_mem_nil
theorem am_pcok5 : ∀ e ∈ am_pc_5, am_nok 5 e.1 e.2 := List.forall_mem_cons.mpr ⟨⟨_, _, _, am_cls6, (List.mem_of_getElem? (i := 160) (by decide +kernel)), (List.mem_of_getElem? (i := 161) (by decide +kernel)), (List.mem_of_getElem? (i := 78) (by decide +kernel)), by decide, by decide +kernel⟩, List.forall_mem_cons.mpr ⟨⟨_, _, _, am_cls7, (List.mem_of_getElem? (i := 196) (by decide +kernel)), (List.mem_of_getElem? (i := 197) (by decide +kernel)), (List.mem_of_getElem? (i := 79) (by decide +kernel)), by decide, by decide +kernel⟩, fun _ h => absurd h List.not_mem_nil⟩⟩
theorem am_pcok6 : ∀ e ∈ am_pc_6, am_nok 6 e.1 e.2 := fun _ h => absurd h List.not_mem_nil
theorem am_pcok7 : ∀ e ∈ am_pc_7, am_nok 7 e.1 e.2 := fun _ h => absurd h List.not_mem_nil
theorem am_pcok8 : ∀ e ∈ am_pc_8, am_nok 8 e.1 e.2 := fun _ h => absurd h List.not_mem_nil
theorem am_pcok9 : ∀ e ∈ am_pc_9, am_nok 9 e.1 e.2 := fun _ h => absurd h List.not_mem_nil
theorem am_pcok10 : ∀ e ∈ am_pc_10, am_nok 10 e.1 e.2 := fun _ h => absurd h List.not_mem_nil
theorem am_pcok11 : ∀ e ∈ am_pc_11, am_nok 11 e.1 e.2 := fun _ h => absurd h List.not_mem_nil
theorem am_pcok12 : ∀ e ∈ am_pc_12, am_nok 12 e.1 e.2 := fun _ h => absurd h List.not_mem_nil
theorem am_pcok13 : ∀ e ∈ am_pc_13, am_nok 13 e.1 e.2 := fun _ h => absurd h List.not_mem_nil
theorem am_pcok14 : ∀ e ∈ am_pc_14, am_nok 14 e.1 e.2 := List.forall_mem_cons.mpr ⟨⟨_, _, _, am_cls0, (List.mem_of_getElem? (i := 92) (by decide +kernel)), (List.mem_of_getElem? (i := 93) (by decide +kernel)), (List.mem_of_getElem? (i := 72) (by decide +kernel)), by decide, by decide +kernel⟩, List.forall_mem_cons.mpr ⟨⟨_, _, _, am_cls9, (List.mem_of_getElem? (i := 1013) (by decide +kernel)), (List.mem_of_getElem? (i := 1014) (by decide +kernel)), (List.mem_of_getElem? (i := 81) (by decide +kernel)), by decide, by decide +kernel⟩, fun _ h => absurd h List.not_mem_nil⟩⟩
theorem am_pcok15 : ∀ e ∈ am_pc_15, am_nok 15 e.1 e.2 := fun _ h => absurd h List.not_mem_nil
theorem am_pcok16 : ∀ e ∈ am_pc_16, am_nok 16 e.1 e.2 := fun _ h => absurd h List.not_mem_nil
theorem am_pf_all : ∀ oc x ci k : Nat, am_pf oc x = some (ci, k) → am_fok oc x ci k
  | 0, x, ci, k, h => am_pfok0 (x, ci, k) (am_as_mem am_pf_0 x (ci, k) h)
  | 1, x, ci, k, h => am_pfok1 (x, ci, k) (am_as_mem am_pf_1 x (ci, k) h)
  | 2, x, ci, k, h => am_pfok2 (x, ci, k) (am_as_mem am_pf_2 x (ci, k) h)
  | 3, x, ci, k, h => am_pfok3 (x, ci, k) (am_as_mem am_pf_3 x (ci, k) h)
  | 4, x, ci, k, h => am_pfok4 (x, ci, k) (am_as_mem am_pf_4 x (ci, k) h)
  | 5, x, ci, k, h => am_pfok5 (x, ci, k) (am_as_mem am_pf_5 x (ci, k) h)
  | 6, x, ci, k, h => am_pfok6 (x, ci, k) (am_as_mem am_pf_6 x (ci, k) h)
  | 7, x, ci, k, h => am_pfok7 (x, ci, k) (am_as_mem am_pf_7 x (ci, k) h)
  | 8, x, ci, k, h => am_pfok8 (x, ci, k) (am_as_mem am_pf_8 x (ci, k) h)
  | 9, x, ci, k, h => am_pfok9 (x, ci, k) (am_as_mem am_pf_9 x (ci, k) h)
  | 10, x, ci, k, h => am_pfok10 (x, ci, k) (am_as_mem am_pf_10 x (ci, k) h)
  | 11, x, ci, k, h => am_pfok11 (x, ci, k) (am_as_mem am_pf_11 x (ci, k) h)
  | 12, x, ci, k, h => am_pfok12 (x, ci, k) (am_as_mem am_pf_12 x (ci, k) h)
  | 13, x, ci, k, h => am_pfok13 (x, ci, k) (am_as_mem am_pf_13 x (ci, k) h)
  | 14, x, ci, k, h => am_pfok14 (x, ci, k) (am_as_mem am_pf_14 x (ci, k) h)
  | 15, x, ci, k, h => am_pfok15 (x, ci, k) (am_as_mem am_pf_15 x (ci, k) h)
  | 16, x, ci, k, h => am_pfok16 (x, ci, k) (am_as_mem am_pf_16 x (ci, k) h)
  | n + 17, x, ci, k, h => by
    simp only [am_pf, am_pfs, am_blt17] at h
    cases h
theorem am_pc_all : ∀ oc x ci : Nat, am_pc oc x = some ci → am_nok oc x ci
  | 0, x, ci, h => am_pcok0 (x, ci) (am_as_mem am_pc_0 x ci h)
  | 1, x, ci, h => am_pcok1 (x, ci) (am_as_mem am_pc_1 x ci h)
  | 2, x, ci, h => am_pcok2 (x, ci) (am_as_mem am_pc_2 x ci h)
  | 3, x, ci, h => am_pcok3 (x, ci) (am_as_mem am_pc_3 x ci h)
  | 4, x, ci, h => am_pcok4 (x, ci) (am_as_mem am_pc_4 x ci h)
  | 5, x, ci, h => am_pcok5 (x, ci) (am_as_mem am_pc_5 x ci h)
  | 6, x, ci, h => am_pcok6 (x, ci) (am_as_mem am_pc_6 x ci h)
  | 7, x, ci, h => am_pcok7 (x, ci) (am_as_mem am_pc_7 x ci h)
  | 8, x, ci, h => am_pcok8 (x, ci) (am_as_mem am_pc_8 x ci h)
  | 9, x, ci, h => am_pcok9 (x, ci) (am_as_mem am_pc_9 x ci h)
  | 10, x, ci, h => am_pcok10 (x, ci) (am_as_mem am_pc_10 x ci h)
  | 11, x, ci, h => am_pcok11 (x, ci) (am_as_mem am_pc_11 x ci h)
  | 12, x, ci, h => am_pcok12 (x, ci) (am_as_mem am_pc_12 x ci h)
  | 13, x, ci, h => am_pcok13 (x, ci) (am_as_mem am_pc_13 x ci h)
  | 14, x, ci, h => am_pcok14 (x, ci) (am_as_mem am_pc_14 x ci h)
  | 15, x, ci, h => am_pcok15 (x, ci) (am_as_mem am_pc_15 x ci h)
  | 16, x, ci, h => am_pcok16 (x, ci) (am_as_mem am_pc_16 x ci h)
  | n + 17, x, ci, h => by
    simp only [am_pc, am_pcs, am_blt17] at h
    cases h
/-- what is asked of a method that is called -/
def am_kkI (I : am_MI) : Prop := I.2.2.2.2.2.1 ≤ I.2.2.1 ∧ ∃ np : Nat, (parseMethodDescriptor I.1.desc).map (fun d => d.parameters.length) = some np ∧
    ((I.2.2.2.2.1 = 2 ∧ Cond.static I.1 ∈ am_tbl ∧ I.2.2.2.2.2.1 = np) ∨ (I.2.2.2.2.1 = 1 ∧ I.1.name = "<init>" ∧ Cond.code I.1 I.2.1 I.2.2.1 none ∈ am_tbl ∧ Cond.instanceMethod I.1 ∈ am_tbl ∧ I.2.2.2.2.2.1 = np + 1) ∨
      (I.2.2.2.2.1 = 0 ∧ Cond.instanceMethod I.1 ∈ am_tbl ∧ Cond.selects I.1.cls I.1 I.1 ∈ am_tbl ∧ I.2.2.2.2.2.1 = np + 1 ∧ am_aty I.2.2.2.2.2.2.1 = none ∧ ∃ r : vw_C, am_cl[I.2.2.2.2.2.2.1]? = some r ∧ r.1 = I.1.cls))
set_option maxRecDepth 100000 in
theorem am_kk1 : am_kkI am_i1 := ⟨by decide, 0, by decide +kernel, Or.inr (Or.inl ⟨rfl, rfl, (List.mem_of_getElem? (i := 96) rfl), (List.mem_of_getElem? (i := 95) (by decide +kernel)), rfl⟩)⟩
set_option maxRecDepth 100000 in
theorem am_kk2 : am_kkI am_i2 := ⟨by decide, 0, by decide +kernel, Or.inr (Or.inl ⟨rfl, rfl, (List.mem_of_getElem? (i := 104) rfl), (List.mem_of_getElem? (i := 103) (by decide +kernel)), rfl⟩)⟩
set_option maxRecDepth 100000 in
theorem am_kk3 : am_kkI am_i3 := ⟨by decide, 0, by decide +kernel, Or.inr (Or.inl ⟨rfl, rfl, (List.mem_of_getElem? (i := 124) rfl), (List.mem_of_getElem? (i := 123) (by decide +kernel)), rfl⟩)⟩
set_option maxRecDepth 100000 in
theorem am_kk4 : am_kkI am_i4 := ⟨by decide, 0, by decide +kernel, Or.inr (Or.inl ⟨rfl, rfl, (List.mem_of_getElem? (i := 138) rfl), (List.mem_of_getElem? (i := 137) (by decide +kernel)), rfl⟩)⟩
set_option maxRecDepth 100000 in
theorem am_kk5 : am_kkI am_i5 := ⟨by decide, 0, by decide +kernel, Or.inr (Or.inl ⟨rfl, rfl, (List.mem_of_getElem? (i := 145) rfl), (List.mem_of_getElem? (i := 144) (by decide +kernel)), rfl⟩)⟩
set_option maxRecDepth 100000 in
theorem am_kk6 : am_kkI am_i6 := ⟨by decide, 0, by decide +kernel, Or.inr (Or.inl ⟨rfl, rfl, (List.mem_of_getElem? (i := 158) rfl), (List.mem_of_getElem? (i := 157) (by decide +kernel)), rfl⟩)⟩
set_option maxRecDepth 100000 in
theorem am_kk7 : am_kkI am_i7 := ⟨by decide, 0, by decide +kernel, Or.inr (Or.inl ⟨rfl, rfl, (List.mem_of_getElem? (i := 164) rfl), (List.mem_of_getElem? (i := 163) (by decide +kernel)), rfl⟩)⟩
set_option maxRecDepth 100000 in
theorem am_kk8 : am_kkI am_i8 := ⟨by decide, 0, by decide +kernel, Or.inr (Or.inl ⟨rfl, rfl, (List.mem_of_getElem? (i := 200) rfl), (List.mem_of_getElem? (i := 199) (by decide +kernel)), rfl⟩)⟩
set_option maxRecDepth 100000 in
theorem am_kk9 : am_kkI am_i9 := ⟨by decide, 0, by decide +kernel, Or.inr (Or.inl ⟨rfl, rfl, (List.mem_of_getElem? (i := 265) rfl), (List.mem_of_getElem? (i := 264) (by decide +kernel)), rfl⟩)⟩
set_option maxRecDepth 100000 in
theorem am_kk10 : am_kkI am_i10 := ⟨by decide, 0, by decide +kernel, Or.inr (Or.inr ⟨rfl, (List.mem_of_getElem? (i := 312) (by decide +kernel)), (List.mem_of_getElem? (i := 313) (by decide +kernel)), rfl, rfl, _, rfl, rfl⟩)⟩
set_option maxRecDepth 100000 in
theorem am_kk11 : am_kkI am_i11 := ⟨by decide, 1, by decide +kernel, Or.inr (Or.inr ⟨rfl, (List.mem_of_getElem? (i := 316) (by decide +kernel)), (List.mem_of_getElem? (i := 317) (by decide +kernel)), rfl, rfl, _, rfl, rfl⟩)⟩
set_option maxRecDepth 100000 in
theorem am_kk12 : am_kkI am_i12 := ⟨by decide, 0, by decide +kernel, Or.inr (Or.inr ⟨rfl, (List.mem_of_getElem? (i := 323) (by decide +kernel)), (List.mem_of_getElem? (i := 324) (by decide +kernel)), rfl, rfl, _, rfl, rfl⟩)⟩
set_option maxRecDepth 100000 in
theorem am_kk13 : am_kkI am_i13 := ⟨by decide, 0, by decide +kernel, Or.inr (Or.inr ⟨rfl, (List.mem_of_getElem? (i := 327) (by decide +kernel)), (List.mem_of_getElem? (i := 328) (by decide +kernel)), rfl, rfl, _, rfl, rfl⟩)⟩
set_option maxRecDepth 100000 in
theorem am_kk14 : am_kkI am_i14 := ⟨by decide, 0, by decide +kernel, Or.inr (Or.inr ⟨rfl, (List.mem_of_getElem? (i := 331) (by decide +kernel)), (List.mem_of_getElem? (i := 332) (by decide +kernel)), rfl, rfl, _, rfl, rfl⟩)⟩
set_option maxRecDepth 100000 in
theorem am_kk15 : am_kkI am_i15 := ⟨by decide, 0, by decide +kernel, Or.inr (Or.inr ⟨rfl, (List.mem_of_getElem? (i := 335) (by decide +kernel)), (List.mem_of_getElem? (i := 336) (by decide +kernel)), rfl, rfl, _, rfl, rfl⟩)⟩
set_option maxRecDepth 100000 in
theorem am_kk16 : am_kkI am_i16 := ⟨by decide, 3, by decide +kernel, Or.inl ⟨rfl, (List.mem_of_getElem? (i := 339) (by decide +kernel)), rfl⟩⟩
set_option maxRecDepth 100000 in
theorem am_kk17 : am_kkI am_i17 := ⟨by decide, 1, by decide +kernel, Or.inr (Or.inr ⟨rfl, (List.mem_of_getElem? (i := 344) (by decide +kernel)), (List.mem_of_getElem? (i := 345) (by decide +kernel)), rfl, rfl, _, rfl, rfl⟩)⟩
set_option maxRecDepth 100000 in
theorem am_kk18 : am_kkI am_i18 := ⟨by decide, 1, by decide +kernel, Or.inr (Or.inr ⟨rfl, (List.mem_of_getElem? (i := 349) (by decide +kernel)), (List.mem_of_getElem? (i := 0) (by decide +kernel)), rfl, rfl, _, rfl, rfl⟩)⟩
set_option maxRecDepth 100000 in
theorem am_kk19 : am_kkI am_i19 := ⟨by decide, 0, by decide +kernel, Or.inr (Or.inr ⟨rfl, (List.mem_of_getElem? (i := 421) (by decide +kernel)), (List.mem_of_getElem? (i := 422) (by decide +kernel)), rfl, rfl, _, rfl, rfl⟩)⟩
set_option maxRecDepth 100000 in
theorem am_kk20 : am_kkI am_i20 := ⟨by decide, 0, by decide +kernel, Or.inr (Or.inr ⟨rfl, (List.mem_of_getElem? (i := 441) (by decide +kernel)), (List.mem_of_getElem? (i := 442) (by decide +kernel)), rfl, rfl, _, rfl, rfl⟩)⟩
set_option maxRecDepth 100000 in
theorem am_kk21 : am_kkI am_i21 := ⟨by decide, 5, by decide +kernel, Or.inr (Or.inr ⟨rfl, (List.mem_of_getElem? (i := 445) (by decide +kernel)), (List.mem_of_getElem? (i := 446) (by decide +kernel)), rfl, rfl, _, rfl, rfl⟩)⟩
set_option maxRecDepth 100000 in
theorem am_kk22 : am_kkI am_i22 := ⟨by decide, 1, by decide +kernel, Or.inr (Or.inr ⟨rfl, (List.mem_of_getElem? (i := 449) (by decide +kernel)), (List.mem_of_getElem? (i := 450) (by decide +kernel)), rfl, rfl, _, rfl, rfl⟩)⟩
set_option maxRecDepth 100000 in
theorem am_kk23 : am_kkI am_i23 := ⟨by decide, 8, by decide +kernel, Or.inl ⟨rfl, (List.mem_of_getElem? (i := 453) (by decide +kernel)), rfl⟩⟩
set_option maxRecDepth 100000 in
theorem am_kk24 : am_kkI am_i24 := ⟨by decide, 6, by decide +kernel, Or.inr (Or.inr ⟨rfl, (List.mem_of_getElem? (i := 457) (by decide +kernel)), (List.mem_of_getElem? (i := 458) (by decide +kernel)), rfl, rfl, _, rfl, rfl⟩)⟩
set_option maxRecDepth 100000 in
theorem am_kk25 : am_kkI am_i25 := ⟨by decide, 2, by decide +kernel, Or.inl ⟨rfl, (List.mem_of_getElem? (i := 461) (by decide +kernel)), rfl⟩⟩
set_option maxRecDepth 100000 in
theorem am_kk26 : am_kkI am_i26 := ⟨by decide, 1, by decide +kernel, Or.inl ⟨rfl, (List.mem_of_getElem? (i := 482) (by decide +kernel)), rfl⟩⟩
set_option maxRecDepth 100000 in
theorem am_kk27 : am_kkI am_i27 := ⟨by decide, 2, by decide +kernel, Or.inl ⟨rfl, (List.mem_of_getElem? (i := 485) (by decide +kernel)), rfl⟩⟩
set_option maxRecDepth 100000 in
theorem am_kk28 : am_kkI am_i28 := ⟨by decide, 1, by decide +kernel, Or.inl ⟨rfl, (List.mem_of_getElem? (i := 488) (by decide +kernel)), rfl⟩⟩
set_option maxRecDepth 100000 in
theorem am_kk29 : am_kkI am_i29 := ⟨by decide, 1, by decide +kernel, Or.inl ⟨rfl, (List.mem_of_getElem? (i := 492) (by decide +kernel)), rfl⟩⟩
set_option maxRecDepth 100000 in
theorem am_kk30 : am_kkI am_i30 := ⟨by decide, 1, by decide +kernel, Or.inl ⟨rfl, (List.mem_of_getElem? (i := 495) (by decide +kernel)), rfl⟩⟩
set_option maxRecDepth 100000 in
theorem am_kk31 : am_kkI am_i31 := ⟨by decide, 1, by decide +kernel, Or.inr (Or.inr ⟨rfl, (List.mem_of_getElem? (i := 498) (by decide +kernel)), (List.mem_of_getElem? (i := 499) (by decide +kernel)), rfl, rfl, _, rfl, rfl⟩)⟩
set_option maxRecDepth 100000 in
theorem am_kk32 : am_kkI am_i32 := ⟨by decide, 5, by decide +kernel, Or.inr (Or.inr ⟨rfl, (List.mem_of_getElem? (i := 503) (by decide +kernel)), (List.mem_of_getElem? (i := 504) (by decide +kernel)), rfl, rfl, _, rfl, rfl⟩)⟩
set_option maxRecDepth 100000 in
theorem am_kk33 : am_kkI am_i33 := ⟨by decide, 6, by decide +kernel, Or.inr (Or.inr ⟨rfl, (List.mem_of_getElem? (i := 508) (by decide +kernel)), (List.mem_of_getElem? (i := 509) (by decide +kernel)), rfl, rfl, _, rfl, rfl⟩)⟩
set_option maxRecDepth 100000 in
theorem am_kk34 : am_kkI am_i34 := ⟨by decide, 2, by decide +kernel, Or.inr (Or.inr ⟨rfl, (List.mem_of_getElem? (i := 512) (by decide +kernel)), (List.mem_of_getElem? (i := 513) (by decide +kernel)), rfl, rfl, _, rfl, rfl⟩)⟩
set_option maxRecDepth 100000 in
theorem am_kk35 : am_kkI am_i35 := ⟨by decide, 7, by decide +kernel, Or.inl ⟨rfl, (List.mem_of_getElem? (i := 516) (by decide +kernel)), rfl⟩⟩
set_option maxRecDepth 100000 in
theorem am_kk36 : am_kkI am_i36 := ⟨by decide, 6, by decide +kernel, Or.inr (Or.inr ⟨rfl, (List.mem_of_getElem? (i := 519) (by decide +kernel)), (List.mem_of_getElem? (i := 520) (by decide +kernel)), rfl, rfl, _, rfl, rfl⟩)⟩
set_option maxRecDepth 100000 in
theorem am_kk37 : am_kkI am_i37 := ⟨by decide, 2, by decide +kernel, Or.inl ⟨rfl, (List.mem_of_getElem? (i := 524) (by decide +kernel)), rfl⟩⟩
set_option maxRecDepth 100000 in
theorem am_kk38 : am_kkI am_i38 := ⟨by decide, 2, by decide +kernel, Or.inl ⟨rfl, (List.mem_of_getElem? (i := 529) (by decide +kernel)), rfl⟩⟩
set_option maxRecDepth 100000 in
theorem am_kk39 : am_kkI am_i39 := ⟨by decide, 1, by decide +kernel, Or.inr (Or.inr ⟨rfl, (List.mem_of_getElem? (i := 532) (by decide +kernel)), (List.mem_of_getElem? (i := 533) (by decide +kernel)), rfl, rfl, _, rfl, rfl⟩)⟩
set_option maxRecDepth 100000 in
theorem am_kk40 : am_kkI am_i40 := ⟨by decide, 0, by decide +kernel, Or.inr (Or.inr ⟨rfl, (List.mem_of_getElem? (i := 536) (by decide +kernel)), (List.mem_of_getElem? (i := 537) (by decide +kernel)), rfl, rfl, _, rfl, rfl⟩)⟩
set_option maxRecDepth 100000 in
theorem am_kk41 : am_kkI am_i41 := ⟨by decide, 3, by decide +kernel, Or.inl ⟨rfl, (List.mem_of_getElem? (i := 540) (by decide +kernel)), rfl⟩⟩
set_option maxRecDepth 100000 in
theorem am_kk42 : am_kkI am_i42 := ⟨by decide, 1, by decide +kernel, Or.inr (Or.inr ⟨rfl, (List.mem_of_getElem? (i := 543) (by decide +kernel)), (List.mem_of_getElem? (i := 544) (by decide +kernel)), rfl, rfl, _, rfl, rfl⟩)⟩
set_option maxRecDepth 100000 in
theorem am_kk43 : am_kkI am_i43 := ⟨by decide, 0, by decide +kernel, Or.inr (Or.inr ⟨rfl, (List.mem_of_getElem? (i := 548) (by decide +kernel)), (List.mem_of_getElem? (i := 549) (by decide +kernel)), rfl, rfl, _, rfl, rfl⟩)⟩
set_option maxRecDepth 100000 in
theorem am_kk44 : am_kkI am_i44 := ⟨by decide, 3, by decide +kernel, Or.inr (Or.inr ⟨rfl, (List.mem_of_getElem? (i := 552) (by decide +kernel)), (List.mem_of_getElem? (i := 553) (by decide +kernel)), rfl, rfl, _, rfl, rfl⟩)⟩
set_option maxRecDepth 100000 in
theorem am_kk45 : am_kkI am_i45 := ⟨by decide, 1, by decide +kernel, Or.inr (Or.inr ⟨rfl, (List.mem_of_getElem? (i := 557) (by decide +kernel)), (List.mem_of_getElem? (i := 2) (by decide +kernel)), rfl, rfl, _, rfl, rfl⟩)⟩
set_option maxRecDepth 100000 in
theorem am_kk46 : am_kkI am_i46 := ⟨by decide, 4, by decide +kernel, Or.inr (Or.inr ⟨rfl, (List.mem_of_getElem? (i := 563) (by decide +kernel)), (List.mem_of_getElem? (i := 3) (by decide +kernel)), rfl, rfl, _, rfl, rfl⟩)⟩
set_option maxRecDepth 100000 in
theorem am_kk47 : am_kkI am_i47 := ⟨by decide, 3, by decide +kernel, Or.inr (Or.inr ⟨rfl, (List.mem_of_getElem? (i := 566) (by decide +kernel)), (List.mem_of_getElem? (i := 567) (by decide +kernel)), rfl, rfl, _, rfl, rfl⟩)⟩
set_option maxRecDepth 100000 in
theorem am_kk48 : am_kkI am_i48 := ⟨by decide, 2, by decide +kernel, Or.inr (Or.inr ⟨rfl, (List.mem_of_getElem? (i := 571) (by decide +kernel)), (List.mem_of_getElem? (i := 4) (by decide +kernel)), rfl, rfl, _, rfl, rfl⟩)⟩
set_option maxRecDepth 100000 in
theorem am_kk49 : am_kkI am_i49 := ⟨by decide, 1, by decide +kernel, Or.inr (Or.inr ⟨rfl, (List.mem_of_getElem? (i := 575) (by decide +kernel)), (List.mem_of_getElem? (i := 5) (by decide +kernel)), rfl, rfl, _, rfl, rfl⟩)⟩
set_option maxRecDepth 100000 in
theorem am_kk50 : am_kkI am_i50 := ⟨by decide, 1, by decide +kernel, Or.inr (Or.inr ⟨rfl, (List.mem_of_getElem? (i := 579) (by decide +kernel)), (List.mem_of_getElem? (i := 6) (by decide +kernel)), rfl, rfl, _, rfl, rfl⟩)⟩
set_option maxRecDepth 100000 in
theorem am_kk51 : am_kkI am_i51 := ⟨by decide, 1, by decide +kernel, Or.inl ⟨rfl, (List.mem_of_getElem? (i := 583) (by decide +kernel)), rfl⟩⟩
set_option maxRecDepth 100000 in
theorem am_kk52 : am_kkI am_i52 := ⟨by decide, 3, by decide +kernel, Or.inr (Or.inr ⟨rfl, (List.mem_of_getElem? (i := 587) (by decide +kernel)), (List.mem_of_getElem? (i := 7) (by decide +kernel)), rfl, rfl, _, rfl, rfl⟩)⟩
set_option maxRecDepth 100000 in
theorem am_kk53 : am_kkI am_i53 := ⟨by decide, 2, by decide +kernel, Or.inl ⟨rfl, (List.mem_of_getElem? (i := 590) (by decide +kernel)), rfl⟩⟩
set_option maxRecDepth 100000 in
theorem am_kk54 : am_kkI am_i54 := ⟨by decide, 3, by decide +kernel, Or.inl ⟨rfl, (List.mem_of_getElem? (i := 593) (by decide +kernel)), rfl⟩⟩
set_option maxRecDepth 100000 in
theorem am_kk55 : am_kkI am_i55 := ⟨by decide, 3, by decide +kernel, Or.inr (Or.inr ⟨rfl, (List.mem_of_getElem? (i := 598) (by decide +kernel)), (List.mem_of_getElem? (i := 8) (by decide +kernel)), rfl, rfl, _, rfl, rfl⟩)⟩
set_option maxRecDepth 100000 in
theorem am_kk56 : am_kkI am_i56 := ⟨by decide, 2, by decide +kernel, Or.inr (Or.inr ⟨rfl, (List.mem_of_getElem? (i := 601) (by decide +kernel)), (List.mem_of_getElem? (i := 602) (by decide +kernel)), rfl, rfl, _, rfl, rfl⟩)⟩
set_option maxRecDepth 100000 in
theorem am_kk57 : am_kkI am_i57 := ⟨by decide, 3, by decide +kernel, Or.inr (Or.inr ⟨rfl, (List.mem_of_getElem? (i := 606) (by decide +kernel)), (List.mem_of_getElem? (i := 607) (by decide +kernel)), rfl, rfl, _, rfl, rfl⟩)⟩
set_option maxRecDepth 100000 in
theorem am_kk58 : am_kkI am_i58 := ⟨by decide, 3, by decide +kernel, Or.inr (Or.inr ⟨rfl, (List.mem_of_getElem? (i := 614) (by decide +kernel)), (List.mem_of_getElem? (i := 9) (by decide +kernel)), rfl, rfl, _, rfl, rfl⟩)⟩
set_option maxRecDepth 100000 in
theorem am_kk59 : am_kkI am_i59 := ⟨by decide, 4, by decide +kernel, Or.inr (Or.inr ⟨rfl, (List.mem_of_getElem? (i := 618) (by decide +kernel)), (List.mem_of_getElem? (i := 10) (by decide +kernel)), rfl, rfl, _, rfl, rfl⟩)⟩
set_option maxRecDepth 100000 in
theorem am_kk60 : am_kkI am_i60 := ⟨by decide, 4, by decide +kernel, Or.inr (Or.inr ⟨rfl, (List.mem_of_getElem? (i := 622) (by decide +kernel)), (List.mem_of_getElem? (i := 11) (by decide +kernel)), rfl, rfl, _, rfl, rfl⟩)⟩
set_option maxRecDepth 100000 in
theorem am_kk61 : am_kkI am_i61 := ⟨by decide, 3, by decide +kernel, Or.inr (Or.inr ⟨rfl, (List.mem_of_getElem? (i := 625) (by decide +kernel)), (List.mem_of_getElem? (i := 626) (by decide +kernel)), rfl, rfl, _, rfl, rfl⟩)⟩
set_option maxRecDepth 100000 in
theorem am_kk62 : am_kkI am_i62 := ⟨by decide, 2, by decide +kernel, Or.inr (Or.inr ⟨rfl, (List.mem_of_getElem? (i := 632) (by decide +kernel)), (List.mem_of_getElem? (i := 633) (by decide +kernel)), rfl, rfl, _, rfl, rfl⟩)⟩
set_option maxRecDepth 100000 in
theorem am_kk63 : am_kkI am_i63 := ⟨by decide, 3, by decide +kernel, Or.inr (Or.inr ⟨rfl, (List.mem_of_getElem? (i := 638) (by decide +kernel)), (List.mem_of_getElem? (i := 639) (by decide +kernel)), rfl, rfl, _, rfl, rfl⟩)⟩
set_option maxRecDepth 100000 in
theorem am_kk64 : am_kkI am_i64 := ⟨by decide, 2, by decide +kernel, Or.inl ⟨rfl, (List.mem_of_getElem? (i := 643) (by decide +kernel)), rfl⟩⟩
set_option maxRecDepth 100000 in
theorem am_kk65 : am_kkI am_i65 := ⟨by decide, 4, by decide +kernel, Or.inr (Or.inr ⟨rfl, (List.mem_of_getElem? (i := 647) (by decide +kernel)), (List.mem_of_getElem? (i := 12) (by decide +kernel)), rfl, rfl, _, rfl, rfl⟩)⟩
set_option maxRecDepth 100000 in
theorem am_kk66 : am_kkI am_i66 := ⟨by decide, 4, by decide +kernel, Or.inr (Or.inr ⟨rfl, (List.mem_of_getElem? (i := 651) (by decide +kernel)), (List.mem_of_getElem? (i := 13) (by decide +kernel)), rfl, rfl, _, rfl, rfl⟩)⟩
set_option maxRecDepth 100000 in
theorem am_kk67 : am_kkI am_i67 := ⟨by decide, 2, by decide +kernel, Or.inl ⟨rfl, (List.mem_of_getElem? (i := 657) (by decide +kernel)), rfl⟩⟩
set_option maxRecDepth 100000 in
theorem am_kk68 : am_kkI am_i68 := ⟨by decide, 3, by decide +kernel, Or.inr (Or.inr ⟨rfl, (List.mem_of_getElem? (i := 663) (by decide +kernel)), (List.mem_of_getElem? (i := 14) (by decide +kernel)), rfl, rfl, _, rfl, rfl⟩)⟩
set_option maxRecDepth 100000 in
theorem am_kk69 : am_kkI am_i69 := ⟨by decide, 3, by decide +kernel, Or.inr (Or.inr ⟨rfl, (List.mem_of_getElem? (i := 667) (by decide +kernel)), (List.mem_of_getElem? (i := 15) (by decide +kernel)), rfl, rfl, _, rfl, rfl⟩)⟩
set_option maxRecDepth 100000 in
theorem am_kk70 : am_kkI am_i70 := ⟨by decide, 1, by decide +kernel, Or.inr (Or.inr ⟨rfl, (List.mem_of_getElem? (i := 671) (by decide +kernel)), (List.mem_of_getElem? (i := 672) (by decide +kernel)), rfl, rfl, _, rfl, rfl⟩)⟩
set_option maxRecDepth 100000 in
theorem am_kk71 : am_kkI am_i71 := ⟨by decide, 3, by decide +kernel, Or.inr (Or.inr ⟨rfl, (List.mem_of_getElem? (i := 676) (by decide +kernel)), (List.mem_of_getElem? (i := 16) (by decide +kernel)), rfl, rfl, _, rfl, rfl⟩)⟩
set_option maxRecDepth 100000 in
theorem am_kk72 : am_kkI am_i72 := ⟨by decide, 2, by decide +kernel, Or.inr (Or.inr ⟨rfl, (List.mem_of_getElem? (i := 680) (by decide +kernel)), (List.mem_of_getElem? (i := 17) (by decide +kernel)), rfl, rfl, _, rfl, rfl⟩)⟩
set_option maxRecDepth 100000 in
theorem am_kk73 : am_kkI am_i73 := ⟨by decide, 6, by decide +kernel, Or.inl ⟨rfl, (List.mem_of_getElem? (i := 684) (by decide +kernel)), rfl⟩⟩
set_option maxRecDepth 100000 in
theorem am_kk74 : am_kkI am_i74 := ⟨by decide, 4, by decide +kernel, Or.inr (Or.inr ⟨rfl, (List.mem_of_getElem? (i := 687) (by decide +kernel)), (List.mem_of_getElem? (i := 688) (by decide +kernel)), rfl, rfl, _, rfl, rfl⟩)⟩
set_option maxRecDepth 100000 in
theorem am_kk75 : am_kkI am_i75 := ⟨by decide, 5, by decide +kernel, Or.inl ⟨rfl, (List.mem_of_getElem? (i := 695) (by decide +kernel)), rfl⟩⟩
set_option maxRecDepth 100000 in
theorem am_kk76 : am_kkI am_i76 := ⟨by decide, 3, by decide +kernel, Or.inr (Or.inr ⟨rfl, (List.mem_of_getElem? (i := 698) (by decide +kernel)), (List.mem_of_getElem? (i := 699) (by decide +kernel)), rfl, rfl, _, rfl, rfl⟩)⟩
set_option maxRecDepth 100000 in
theorem am_kk77 : am_kkI am_i77 := ⟨by decide, 2, by decide +kernel, Or.inl ⟨rfl, (List.mem_of_getElem? (i := 704) (by decide +kernel)), rfl⟩⟩
set_option maxRecDepth 100000 in
theorem am_kk78 : am_kkI am_i78 := ⟨by decide, 0, by decide +kernel, Or.inr (Or.inr ⟨rfl, (List.mem_of_getElem? (i := 708) (by decide +kernel)), (List.mem_of_getElem? (i := 709) (by decide +kernel)), rfl, rfl, _, rfl, rfl⟩)⟩
set_option maxRecDepth 100000 in
theorem am_kk79 : am_kkI am_i79 := ⟨by decide, 0, by decide +kernel, Or.inr (Or.inr ⟨rfl, (List.mem_of_getElem? (i := 712) (by decide +kernel)), (List.mem_of_getElem? (i := 713) (by decide +kernel)), rfl, rfl, _, rfl, rfl⟩)⟩
set_option maxRecDepth 100000 in
theorem am_kk80 : am_kkI am_i80 := ⟨by decide, 2, by decide +kernel, Or.inl ⟨rfl, (List.mem_of_getElem? (i := 716) (by decide +kernel)), rfl⟩⟩
set_option maxRecDepth 100000 in
theorem am_kk81 : am_kkI am_i81 := ⟨by decide, 2, by decide +kernel, Or.inr (Or.inr ⟨rfl, (List.mem_of_getElem? (i := 720) (by decide +kernel)), (List.mem_of_getElem? (i := 18) (by decide +kernel)), rfl, rfl, _, rfl, rfl⟩)⟩
set_option maxRecDepth 100000 in
theorem am_kk82 : am_kkI am_i82 := ⟨by decide, 3, by decide +kernel, Or.inr (Or.inr ⟨rfl, (List.mem_of_getElem? (i := 724) (by decide +kernel)), (List.mem_of_getElem? (i := 19) (by decide +kernel)), rfl, rfl, _, rfl, rfl⟩)⟩
set_option maxRecDepth 100000 in
theorem am_kk83 : am_kkI am_i83 := ⟨by decide, 1, by decide +kernel, Or.inr (Or.inr ⟨rfl, (List.mem_of_getElem? (i := 727) (by decide +kernel)), (List.mem_of_getElem? (i := 728) (by decide +kernel)), rfl, rfl, _, rfl, rfl⟩)⟩
set_option maxRecDepth 100000 in
theorem am_kk84 : am_kkI am_i84 := ⟨by decide, 1, by decide +kernel, Or.inr (Or.inr ⟨rfl, (List.mem_of_getElem? (i := 731) (by decide +kernel)), (List.mem_of_getElem? (i := 732) (by decide +kernel)), rfl, rfl, _, rfl, rfl⟩)⟩
set_option maxRecDepth 100000 in
theorem am_kk85 : am_kkI am_i85 := ⟨by decide, 1, by decide +kernel, Or.inr (Or.inr ⟨rfl, (List.mem_of_getElem? (i := 735) (by decide +kernel)), (List.mem_of_getElem? (i := 736) (by decide +kernel)), rfl, rfl, _, rfl, rfl⟩)⟩
set_option maxRecDepth 100000 in
theorem am_kk86 : am_kkI am_i86 := ⟨by decide, 4, by decide +kernel, Or.inr (Or.inr ⟨rfl, (List.mem_of_getElem? (i := 739) (by decide +kernel)), (List.mem_of_getElem? (i := 740) (by decide +kernel)), rfl, rfl, _, rfl, rfl⟩)⟩
set_option maxRecDepth 100000 in
theorem am_kk87 : am_kkI am_i87 := ⟨by decide, 0, by decide +kernel, Or.inr (Or.inr ⟨rfl, (List.mem_of_getElem? (i := 743) (by decide +kernel)), (List.mem_of_getElem? (i := 744) (by decide +kernel)), rfl, rfl, _, rfl, rfl⟩)⟩
set_option maxRecDepth 100000 in
theorem am_kk88 : am_kkI am_i88 := ⟨by decide, 3, by decide +kernel, Or.inr (Or.inr ⟨rfl, (List.mem_of_getElem? (i := 747) (by decide +kernel)), (List.mem_of_getElem? (i := 748) (by decide +kernel)), rfl, rfl, _, rfl, rfl⟩)⟩
set_option maxRecDepth 100000 in
theorem am_kk89 : am_kkI am_i89 := ⟨by decide, 0, by decide +kernel, Or.inr (Or.inr ⟨rfl, (List.mem_of_getElem? (i := 753) (by decide +kernel)), (List.mem_of_getElem? (i := 20) (by decide +kernel)), rfl, rfl, _, rfl, rfl⟩)⟩
set_option maxRecDepth 100000 in
theorem am_kk90 : am_kkI am_i90 := ⟨by decide, 3, by decide +kernel, Or.inr (Or.inr ⟨rfl, (List.mem_of_getElem? (i := 757) (by decide +kernel)), (List.mem_of_getElem? (i := 758) (by decide +kernel)), rfl, rfl, _, rfl, rfl⟩)⟩
set_option maxRecDepth 100000 in
theorem am_kk91 : am_kkI am_i91 := ⟨by decide, 1, by decide +kernel, Or.inr (Or.inr ⟨rfl, (List.mem_of_getElem? (i := 763) (by decide +kernel)), (List.mem_of_getElem? (i := 764) (by decide +kernel)), rfl, rfl, _, rfl, rfl⟩)⟩
set_option maxRecDepth 100000 in
theorem am_kk92 : am_kkI am_i92 := ⟨by decide, 4, by decide +kernel, Or.inr (Or.inr ⟨rfl, (List.mem_of_getElem? (i := 769) (by decide +kernel)), (List.mem_of_getElem? (i := 21) (by decide +kernel)), rfl, rfl, _, rfl, rfl⟩)⟩
set_option maxRecDepth 100000 in
theorem am_kk93 : am_kkI am_i93 := ⟨by decide, 3, by decide +kernel, Or.inr (Or.inr ⟨rfl, (List.mem_of_getElem? (i := 773) (by decide +kernel)), (List.mem_of_getElem? (i := 22) (by decide +kernel)), rfl, rfl, _, rfl, rfl⟩)⟩
set_option maxRecDepth 100000 in
theorem am_kk94 : am_kkI am_i94 := ⟨by decide, 1, by decide +kernel, Or.inr (Or.inr ⟨rfl, (List.mem_of_getElem? (i := 776) (by decide +kernel)), (List.mem_of_getElem? (i := 777) (by decide +kernel)), rfl, rfl, _, rfl, rfl⟩)⟩
set_option maxRecDepth 100000 in
theorem am_kk95 : am_kkI am_i95 := ⟨by decide, 1, by decide +kernel, Or.inr (Or.inr ⟨rfl, (List.mem_of_getElem? (i := 780) (by decide +kernel)), (List.mem_of_getElem? (i := 781) (by decide +kernel)), rfl, rfl, _, rfl, rfl⟩)⟩
set_option maxRecDepth 100000 in
theorem am_kk96 : am_kkI am_i96 := ⟨by decide, 2, by decide +kernel, Or.inr (Or.inr ⟨rfl, (List.mem_of_getElem? (i := 785) (by decide +kernel)), (List.mem_of_getElem? (i := 23) (by decide +kernel)), rfl, rfl, _, rfl, rfl⟩)⟩
set_option maxRecDepth 100000 in
theorem am_kk97 : am_kkI am_i97 := ⟨by decide, 3, by decide +kernel, Or.inr (Or.inr ⟨rfl, (List.mem_of_getElem? (i := 789) (by decide +kernel)), (List.mem_of_getElem? (i := 24) (by decide +kernel)), rfl, rfl, _, rfl, rfl⟩)⟩
set_option maxRecDepth 100000 in
theorem am_kk98 : am_kkI am_i98 := ⟨by decide, 4, by decide +kernel, Or.inr (Or.inr ⟨rfl, (List.mem_of_getElem? (i := 793) (by decide +kernel)), (List.mem_of_getElem? (i := 25) (by decide +kernel)), rfl, rfl, _, rfl, rfl⟩)⟩
set_option maxRecDepth 100000 in
theorem am_kk99 : am_kkI am_i99 := ⟨by decide, 1, by decide +kernel, Or.inl ⟨rfl, (List.mem_of_getElem? (i := 796) (by decide +kernel)), rfl⟩⟩
set_option maxRecDepth 100000 in
theorem am_kk100 : am_kkI am_i100 := ⟨by decide, 1, by decide +kernel, Or.inr (Or.inr ⟨rfl, (List.mem_of_getElem? (i := 799) (by decide +kernel)), (List.mem_of_getElem? (i := 800) (by decide +kernel)), rfl, rfl, _, rfl, rfl⟩)⟩
set_option maxRecDepth 100000 in
theorem am_kk101 : am_kkI am_i101 := ⟨by decide, 0, by decide +kernel, Or.inr (Or.inr ⟨rfl, (List.mem_of_getElem? (i := 804) (by decide +kernel)), (List.mem_of_getElem? (i := 26) (by decide +kernel)), rfl, rfl, _, rfl, rfl⟩)⟩
set_option maxRecDepth 100000 in
theorem am_kk102 : am_kkI am_i102 := ⟨by decide, 1, by decide +kernel, Or.inr (Or.inr ⟨rfl, (List.mem_of_getElem? (i := 808) (by decide +kernel)), (List.mem_of_getElem? (i := 27) (by decide +kernel)), rfl, rfl, _, rfl, rfl⟩)⟩
set_option maxRecDepth 100000 in
theorem am_kk103 : am_kkI am_i103 := ⟨by decide, 4, by decide +kernel, Or.inr (Or.inr ⟨rfl, (List.mem_of_getElem? (i := 812) (by decide +kernel)), (List.mem_of_getElem? (i := 28) (by decide +kernel)), rfl, rfl, _, rfl, rfl⟩)⟩
set_option maxRecDepth 100000 in
theorem am_kk104 : am_kkI am_i104 := ⟨by decide, 3, by decide +kernel, Or.inr (Or.inr ⟨rfl, (List.mem_of_getElem? (i := 818) (by decide +kernel)), (List.mem_of_getElem? (i := 819) (by decide +kernel)), rfl, rfl, _, rfl, rfl⟩)⟩
set_option maxRecDepth 100000 in
theorem am_kk105 : am_kkI am_i105 := ⟨by decide, 2, by decide +kernel, Or.inr (Or.inr ⟨rfl, (List.mem_of_getElem? (i := 822) (by decide +kernel)), (List.mem_of_getElem? (i := 823) (by decide +kernel)), rfl, rfl, _, rfl, rfl⟩)⟩
set_option maxRecDepth 100000 in
theorem am_kk106 : am_kkI am_i106 := ⟨by decide, 2, by decide +kernel, Or.inr (Or.inr ⟨rfl, (List.mem_of_getElem? (i := 830) (by decide +kernel)), (List.mem_of_getElem? (i := 831) (by decide +kernel)), rfl, rfl, _, rfl, rfl⟩)⟩
set_option maxRecDepth 100000 in
theorem am_kk107 : am_kkI am_i107 := ⟨by decide, 2, by decide +kernel, Or.inr (Or.inr ⟨rfl, (List.mem_of_getElem? (i := 835) (by decide +kernel)), (List.mem_of_getElem? (i := 29) (by decide +kernel)), rfl, rfl, _, rfl, rfl⟩)⟩
set_option maxRecDepth 100000 in
theorem am_kk108 : am_kkI am_i108 := ⟨by decide, 2, by decide +kernel, Or.inr (Or.inr ⟨rfl, (List.mem_of_getElem? (i := 839) (by decide +kernel)), (List.mem_of_getElem? (i := 840) (by decide +kernel)), rfl, rfl, _, rfl, rfl⟩)⟩
set_option maxRecDepth 100000 in
theorem am_kk109 : am_kkI am_i109 := ⟨by decide, 2, by decide +kernel, Or.inr (Or.inr ⟨rfl, (List.mem_of_getElem? (i := 845) (by decide +kernel)), (List.mem_of_getElem? (i := 30) (by decide +kernel)), rfl, rfl, _, rfl, rfl⟩)⟩
set_option maxRecDepth 100000 in
theorem am_kk110 : am_kkI am_i110 := ⟨by decide, 3, by decide +kernel, Or.inr (Or.inr ⟨rfl, (List.mem_of_getElem? (i := 849) (by decide +kernel)), (List.mem_of_getElem? (i := 31) (by decide +kernel)), rfl, rfl, _, rfl, rfl⟩)⟩
set_option maxRecDepth 100000 in
theorem am_kk111 : am_kkI am_i111 := ⟨by decide, 2, by decide +kernel, Or.inr (Or.inr ⟨rfl, (List.mem_of_getElem? (i := 853) (by decide +kernel)), (List.mem_of_getElem? (i := 854) (by decide +kernel)), rfl, rfl, _, rfl, rfl⟩)⟩
set_option maxRecDepth 100000 in
theorem am_kk112 : am_kkI am_i112 := ⟨by decide, 1, by decide +kernel, Or.inr (Or.inr ⟨rfl, (List.mem_of_getElem? (i := 857) (by decide +kernel)), (List.mem_of_getElem? (i := 858) (by decide +kernel)), rfl, rfl, _, rfl, rfl⟩)⟩
set_option maxRecDepth 100000 in
theorem am_kk113 : am_kkI am_i113 := ⟨by decide, 1, by decide +kernel, Or.inr (Or.inr ⟨rfl, (List.mem_of_getElem? (i := 861) (by decide +kernel)), (List.mem_of_getElem? (i := 862) (by decide +kernel)), rfl, rfl, _, rfl, rfl⟩)⟩
set_option maxRecDepth 100000 in
theorem am_kk114 : am_kkI am_i114 := ⟨by decide, 0, by decide +kernel, Or.inr (Or.inr ⟨rfl, (List.mem_of_getElem? (i := 865) (by decide +kernel)), (List.mem_of_getElem? (i := 866) (by decide +kernel)), rfl, rfl, _, rfl, rfl⟩)⟩
set_option maxRecDepth 100000 in
theorem am_kk115 : am_kkI am_i115 := ⟨by decide, 1, by decide +kernel, Or.inr (Or.inr ⟨rfl, (List.mem_of_getElem? (i := 869) (by decide +kernel)), (List.mem_of_getElem? (i := 870) (by decide +kernel)), rfl, rfl, _, rfl, rfl⟩)⟩
set_option maxRecDepth 100000 in
theorem am_kk116 : am_kkI am_i116 := ⟨by decide, 0, by decide +kernel, Or.inr (Or.inr ⟨rfl, (List.mem_of_getElem? (i := 874) (by decide +kernel)), (List.mem_of_getElem? (i := 32) (by decide +kernel)), rfl, rfl, _, rfl, rfl⟩)⟩
set_option maxRecDepth 100000 in
theorem am_kk117 : am_kkI am_i117 := ⟨by decide, 0, by decide +kernel, Or.inr (Or.inr ⟨rfl, (List.mem_of_getElem? (i := 877) (by decide +kernel)), (List.mem_of_getElem? (i := 878) (by decide +kernel)), rfl, rfl, _, rfl, rfl⟩)⟩
set_option maxRecDepth 100000 in
theorem am_kk118 : am_kkI am_i118 := ⟨by decide, 0, by decide +kernel, Or.inr (Or.inr ⟨rfl, (List.mem_of_getElem? (i := 881) (by decide +kernel)), (List.mem_of_getElem? (i := 882) (by decide +kernel)), rfl, rfl, _, rfl, rfl⟩)⟩
set_option maxRecDepth 100000 in
theorem am_kk119 : am_kkI am_i119 := ⟨by decide, 0, by decide +kernel, Or.inr (Or.inr ⟨rfl, (List.mem_of_getElem? (i := 885) (by decide +kernel)), (List.mem_of_getElem? (i := 886) (by decide +kernel)), rfl, rfl, _, rfl, rfl⟩)⟩
set_option maxRecDepth 100000 in
theorem am_kk120 : am_kkI am_i120 := ⟨by decide, 0, by decide +kernel, Or.inr (Or.inr ⟨rfl, (List.mem_of_getElem? (i := 905) (by decide +kernel)), (List.mem_of_getElem? (i := 906) (by decide +kernel)), rfl, rfl, _, rfl, rfl⟩)⟩
set_option maxRecDepth 100000 in
theorem am_kk121 : am_kkI am_i121 := ⟨by decide, 3, by decide +kernel, Or.inl ⟨rfl, (List.mem_of_getElem? (i := 909) (by decide +kernel)), rfl⟩⟩
set_option maxRecDepth 100000 in
theorem am_kk122 : am_kkI am_i122 := ⟨by decide, 1, by decide +kernel, Or.inr (Or.inr ⟨rfl, (List.mem_of_getElem? (i := 912) (by decide +kernel)), (List.mem_of_getElem? (i := 913) (by decide +kernel)), rfl, rfl, _, rfl, rfl⟩)⟩
set_option maxRecDepth 100000 in
theorem am_kk123 : am_kkI am_i123 := ⟨by decide, 0, by decide +kernel, Or.inr (Or.inr ⟨rfl, (List.mem_of_getElem? (i := 916) (by decide +kernel)), (List.mem_of_getElem? (i := 917) (by decide +kernel)), rfl, rfl, _, rfl, rfl⟩)⟩
set_option maxRecDepth 100000 in
theorem am_kk124 : am_kkI am_i124 := ⟨by decide, 0, by decide +kernel, Or.inr (Or.inr ⟨rfl, (List.mem_of_getElem? (i := 920) (by decide +kernel)), (List.mem_of_getElem? (i := 921) (by decide +kernel)), rfl, rfl, _, rfl, rfl⟩)⟩
set_option maxRecDepth 100000 in
theorem am_kk125 : am_kkI am_i125 := ⟨by decide, 6, by decide +kernel, Or.inl ⟨rfl, (List.mem_of_getElem? (i := 925) (by decide +kernel)), rfl⟩⟩
set_option maxRecDepth 100000 in
theorem am_kk126 : am_kkI am_i126 := ⟨by decide, 4, by decide +kernel, Or.inr (Or.inr ⟨rfl, (List.mem_of_getElem? (i := 928) (by decide +kernel)), (List.mem_of_getElem? (i := 929) (by decide +kernel)), rfl, rfl, _, rfl, rfl⟩)⟩
set_option maxRecDepth 100000 in
theorem am_kk127 : am_kkI am_i127 := ⟨by decide, 2, by decide +kernel, Or.inr (Or.inr ⟨rfl, (List.mem_of_getElem? (i := 932) (by decide +kernel)), (List.mem_of_getElem? (i := 933) (by decide +kernel)), rfl, rfl, _, rfl, rfl⟩)⟩
set_option maxRecDepth 100000 in
theorem am_kk128 : am_kkI am_i128 := ⟨by decide, 4, by decide +kernel, Or.inl ⟨rfl, (List.mem_of_getElem? (i := 937) (by decide +kernel)), rfl⟩⟩
set_option maxRecDepth 100000 in
theorem am_kk129 : am_kkI am_i129 := ⟨by decide, 2, by decide +kernel, Or.inr (Or.inr ⟨rfl, (List.mem_of_getElem? (i := 940) (by decide +kernel)), (List.mem_of_getElem? (i := 941) (by decide +kernel)), rfl, rfl, _, rfl, rfl⟩)⟩
set_option maxRecDepth 100000 in
theorem am_kk130 : am_kkI am_i130 := ⟨by decide, 2, by decide +kernel, Or.inr (Or.inr ⟨rfl, (List.mem_of_getElem? (i := 944) (by decide +kernel)), (List.mem_of_getElem? (i := 945) (by decide +kernel)), rfl, rfl, _, rfl, rfl⟩)⟩
set_option maxRecDepth 100000 in
theorem am_kk131 : am_kkI am_i131 := ⟨by decide, 0, by decide +kernel, Or.inr (Or.inr ⟨rfl, (List.mem_of_getElem? (i := 948) (by decide +kernel)), (List.mem_of_getElem? (i := 949) (by decide +kernel)), rfl, rfl, _, rfl, rfl⟩)⟩
set_option maxRecDepth 100000 in
theorem am_kk132 : am_kkI am_i132 := ⟨by decide, 6, by decide +kernel, Or.inl ⟨rfl, (List.mem_of_getElem? (i := 952) (by decide +kernel)), rfl⟩⟩
set_option maxRecDepth 100000 in
theorem am_kk133 : am_kkI am_i133 := ⟨by decide, 4, by decide +kernel, Or.inr (Or.inr ⟨rfl, (List.mem_of_getElem? (i := 955) (by decide +kernel)), (List.mem_of_getElem? (i := 956) (by decide +kernel)), rfl, rfl, _, rfl, rfl⟩)⟩
set_option maxRecDepth 100000 in
theorem am_kk134 : am_kkI am_i134 := ⟨by decide, 4, by decide +kernel, Or.inr (Or.inr ⟨rfl, (List.mem_of_getElem? (i := 960) (by decide +kernel)), (List.mem_of_getElem? (i := 961) (by decide +kernel)), rfl, rfl, _, rfl, rfl⟩)⟩
set_option maxRecDepth 100000 in
theorem am_kk135 : am_kkI am_i135 := ⟨by decide, 2, by decide +kernel, Or.inr (Or.inr ⟨rfl, (List.mem_of_getElem? (i := 965) (by decide +kernel)), (List.mem_of_getElem? (i := 33) (by decide +kernel)), rfl, rfl, _, rfl, rfl⟩)⟩
set_option maxRecDepth 100000 in
theorem am_kk136 : am_kkI am_i136 := ⟨by decide, 2, by decide +kernel, Or.inr (Or.inr ⟨rfl, (List.mem_of_getElem? (i := 970) (by decide +kernel)), (List.mem_of_getElem? (i := 34) (by decide +kernel)), rfl, rfl, _, rfl, rfl⟩)⟩
set_option maxRecDepth 100000 in
theorem am_kk137 : am_kkI am_i137 := ⟨by decide, 1, by decide +kernel, Or.inr (Or.inr ⟨rfl, (List.mem_of_getElem? (i := 976) (by decide +kernel)), (List.mem_of_getElem? (i := 35) (by decide +kernel)), rfl, rfl, _, rfl, rfl⟩)⟩
set_option maxRecDepth 100000 in
theorem am_kk138 : am_kkI am_i138 := ⟨by decide, 1, by decide +kernel, Or.inr (Or.inr ⟨rfl, (List.mem_of_getElem? (i := 981) (by decide +kernel)), (List.mem_of_getElem? (i := 36) (by decide +kernel)), rfl, rfl, _, rfl, rfl⟩)⟩
set_option maxRecDepth 100000 in
theorem am_kk139 : am_kkI am_i139 := ⟨by decide, 3, by decide +kernel, Or.inr (Or.inr ⟨rfl, (List.mem_of_getElem? (i := 985) (by decide +kernel)), (List.mem_of_getElem? (i := 37) (by decide +kernel)), rfl, rfl, _, rfl, rfl⟩)⟩
set_option maxRecDepth 100000 in
theorem am_kk140 : am_kkI am_i140 := ⟨by decide, 1, by decide +kernel, Or.inr (Or.inr ⟨rfl, (List.mem_of_getElem? (i := 990) (by decide +kernel)), (List.mem_of_getElem? (i := 991) (by decide +kernel)), rfl, rfl, _, rfl, rfl⟩)⟩
set_option maxRecDepth 100000 in
theorem am_kk141 : am_kkI am_i141 := ⟨by decide, 2, by decide +kernel, Or.inr (Or.inr ⟨rfl, (List.mem_of_getElem? (i := 995) (by decide +kernel)), (List.mem_of_getElem? (i := 38) (by decide +kernel)), rfl, rfl, _, rfl, rfl⟩)⟩
set_option maxRecDepth 100000 in
theorem am_kk142 : am_kkI am_i142 := ⟨by decide, 1, by decide +kernel, Or.inr (Or.inr ⟨rfl, (List.mem_of_getElem? (i := 1000) (by decide +kernel)), (List.mem_of_getElem? (i := 39) (by decide +kernel)), rfl, rfl, _, rfl, rfl⟩)⟩
set_option maxRecDepth 100000 in
theorem am_kk143 : am_kkI am_i143 := ⟨by decide, 3, by decide +kernel, Or.inl ⟨rfl, (List.mem_of_getElem? (i := 1004) (by decide +kernel)), rfl⟩⟩
set_option maxRecDepth 100000 in
theorem am_kk144 : am_kkI am_i144 := ⟨by decide, 1, by decide +kernel, Or.inr (Or.inr ⟨rfl, (List.mem_of_getElem? (i := 1007) (by decide +kernel)), (List.mem_of_getElem? (i := 1008) (by decide +kernel)), rfl, rfl, _, rfl, rfl⟩)⟩
set_option maxRecDepth 100000 in
theorem am_kk145 : am_kkI am_i145 := ⟨by decide, 0, by decide +kernel, Or.inr (Or.inl ⟨rfl, rfl, (List.mem_of_getElem? (i := 1017) rfl), (List.mem_of_getElem? (i := 1016) (by decide +kernel)), rfl⟩)⟩
set_option maxRecDepth 100000 in
theorem am_kk146 : am_kkI am_i146 := ⟨by decide, 0, by decide +kernel, Or.inr (Or.inr ⟨rfl, (List.mem_of_getElem? (i := 1129) (by decide +kernel)), (List.mem_of_getElem? (i := 1130) (by decide +kernel)), rfl, rfl, _, rfl, rfl⟩)⟩
set_option maxRecDepth 100000 in
theorem am_kk147 : am_kkI am_i147 := ⟨by decide, 1, by decide +kernel, Or.inr (Or.inr ⟨rfl, (List.mem_of_getElem? (i := 1133) (by decide +kernel)), (List.mem_of_getElem? (i := 1134) (by decide +kernel)), rfl, rfl, _, rfl, rfl⟩)⟩
set_option maxRecDepth 100000 in
theorem am_kk148 : am_kkI am_i148 := ⟨by decide, 2, by decide +kernel, Or.inl ⟨rfl, (List.mem_of_getElem? (i := 1137) (by decide +kernel)), rfl⟩⟩
set_option maxRecDepth 100000 in
theorem am_kk149 : am_kkI am_i149 := ⟨by decide, 5, by decide +kernel, Or.inr (Or.inr ⟨rfl, (List.mem_of_getElem? (i := 1141) (by decide +kernel)), (List.mem_of_getElem? (i := 40) (by decide +kernel)), rfl, rfl, _, rfl, rfl⟩)⟩
set_option maxRecDepth 100000 in
theorem am_kk150 : am_kkI am_i150 := ⟨by decide, 0, by decide +kernel, Or.inr (Or.inr ⟨rfl, (List.mem_of_getElem? (i := 1145) (by decide +kernel)), (List.mem_of_getElem? (i := 41) (by decide +kernel)), rfl, rfl, _, rfl, rfl⟩)⟩
set_option maxRecDepth 100000 in
theorem am_kk151 : am_kkI am_i151 := ⟨by decide, 6, by decide +kernel, Or.inr (Or.inr ⟨rfl, (List.mem_of_getElem? (i := 1148) (by decide +kernel)), (List.mem_of_getElem? (i := 1149) (by decide +kernel)), rfl, rfl, _, rfl, rfl⟩)⟩
set_option maxRecDepth 100000 in
theorem am_kk152 : am_kkI am_i152 := ⟨by decide, 2, by decide +kernel, Or.inr (Or.inr ⟨rfl, (List.mem_of_getElem? (i := 1153) (by decide +kernel)), (List.mem_of_getElem? (i := 42) (by decide +kernel)), rfl, rfl, _, rfl, rfl⟩)⟩
set_option maxRecDepth 100000 in
theorem am_kk153 : am_kkI am_i153 := ⟨by decide, 1, by decide +kernel, Or.inr (Or.inr ⟨rfl, (List.mem_of_getElem? (i := 1157) (by decide +kernel)), (List.mem_of_getElem? (i := 43) (by decide +kernel)), rfl, rfl, _, rfl, rfl⟩)⟩
set_option maxRecDepth 100000 in
theorem am_kk154 : am_kkI am_i154 := ⟨by decide, 1, by decide +kernel, Or.inl ⟨rfl, (List.mem_of_getElem? (i := 1160) (by decide +kernel)), rfl⟩⟩
set_option maxRecDepth 100000 in
theorem am_kk155 : am_kkI am_i155 := ⟨by decide, 1, by decide +kernel, Or.inl ⟨rfl, (List.mem_of_getElem? (i := 1163) (by decide +kernel)), rfl⟩⟩
set_option maxRecDepth 100000 in
theorem am_kk156 : am_kkI am_i156 := ⟨by decide, 1, by decide +kernel, Or.inl ⟨rfl, (List.mem_of_getElem? (i := 1166) (by decide +kernel)), rfl⟩⟩
set_option maxRecDepth 100000 in
theorem am_kk157 : am_kkI am_i157 := ⟨by decide, 5, by decide +kernel, Or.inr (Or.inr ⟨rfl, (List.mem_of_getElem? (i := 1170) (by decide +kernel)), (List.mem_of_getElem? (i := 44) (by decide +kernel)), rfl, rfl, _, rfl, rfl⟩)⟩
set_option maxRecDepth 100000 in
theorem am_kk158 : am_kkI am_i158 := ⟨by decide, 6, by decide +kernel, Or.inr (Or.inr ⟨rfl, (List.mem_of_getElem? (i := 1173) (by decide +kernel)), (List.mem_of_getElem? (i := 1174) (by decide +kernel)), rfl, rfl, _, rfl, rfl⟩)⟩
set_option maxRecDepth 100000 in
theorem am_kk159 : am_kkI am_i159 := ⟨by decide, 1, by decide +kernel, Or.inr (Or.inr ⟨rfl, (List.mem_of_getElem? (i := 1177) (by decide +kernel)), (List.mem_of_getElem? (i := 1178) (by decide +kernel)), rfl, rfl, _, rfl, rfl⟩)⟩
set_option maxRecDepth 100000 in
theorem am_kk160 : am_kkI am_i160 := ⟨by decide, 0, by decide +kernel, Or.inr (Or.inr ⟨rfl, (List.mem_of_getElem? (i := 1181) (by decide +kernel)), (List.mem_of_getElem? (i := 1182) (by decide +kernel)), rfl, rfl, _, rfl, rfl⟩)⟩
set_option maxRecDepth 100000 in
theorem am_kk161 : am_kkI am_i161 := ⟨by decide, 2, by decide +kernel, Or.inr (Or.inr ⟨rfl, (List.mem_of_getElem? (i := 1186) (by decide +kernel)), (List.mem_of_getElem? (i := 45) (by decide +kernel)), rfl, rfl, _, rfl, rfl⟩)⟩
set_option maxRecDepth 100000 in
theorem am_kk162 : am_kkI am_i162 := ⟨by decide, 4, by decide +kernel, Or.inr (Or.inr ⟨rfl, (List.mem_of_getElem? (i := 1189) (by decide +kernel)), (List.mem_of_getElem? (i := 1190) (by decide +kernel)), rfl, rfl, _, rfl, rfl⟩)⟩
set_option maxRecDepth 100000 in
theorem am_kk163 : am_kkI am_i163 := ⟨by decide, 3, by decide +kernel, Or.inr (Or.inr ⟨rfl, (List.mem_of_getElem? (i := 1193) (by decide +kernel)), (List.mem_of_getElem? (i := 1194) (by decide +kernel)), rfl, rfl, _, rfl, rfl⟩)⟩
set_option maxRecDepth 100000 in
theorem am_kk164 : am_kkI am_i164 := ⟨by decide, 1, by decide +kernel, Or.inr (Or.inr ⟨rfl, (List.mem_of_getElem? (i := 1197) (by decide +kernel)), (List.mem_of_getElem? (i := 1198) (by decide +kernel)), rfl, rfl, _, rfl, rfl⟩)⟩
set_option maxRecDepth 100000 in
theorem am_kk165 : am_kkI am_i165 := ⟨by decide, 1, by decide +kernel, Or.inr (Or.inr ⟨rfl, (List.mem_of_getElem? (i := 1202) (by decide +kernel)), (List.mem_of_getElem? (i := 46) (by decide +kernel)), rfl, rfl, _, rfl, rfl⟩)⟩
set_option maxRecDepth 100000 in
theorem am_kk166 : am_kkI am_i166 := ⟨by decide, 3, by decide +kernel, Or.inl ⟨rfl, (List.mem_of_getElem? (i := 1205) (by decide +kernel)), rfl⟩⟩
set_option maxRecDepth 100000 in
theorem am_kk167 : am_kkI am_i167 := ⟨by decide, 1, by decide +kernel, Or.inr (Or.inr ⟨rfl, (List.mem_of_getElem? (i := 1209) (by decide +kernel)), (List.mem_of_getElem? (i := 47) (by decide +kernel)), rfl, rfl, _, rfl, rfl⟩)⟩
set_option maxRecDepth 100000 in
theorem am_kk168 : am_kkI am_i168 := ⟨by decide, 3, by decide +kernel, Or.inr (Or.inr ⟨rfl, (List.mem_of_getElem? (i := 1213) (by decide +kernel)), (List.mem_of_getElem? (i := 48) (by decide +kernel)), rfl, rfl, _, rfl, rfl⟩)⟩
set_option maxRecDepth 100000 in
theorem am_kk169 : am_kkI am_i169 := ⟨by decide, 3, by decide +kernel, Or.inr (Or.inr ⟨rfl, (List.mem_of_getElem? (i := 1217) (by decide +kernel)), (List.mem_of_getElem? (i := 49) (by decide +kernel)), rfl, rfl, _, rfl, rfl⟩)⟩
set_option maxRecDepth 100000 in
theorem am_kk170 : am_kkI am_i170 := ⟨by decide, 1, by decide +kernel, Or.inr (Or.inr ⟨rfl, (List.mem_of_getElem? (i := 1221) (by decide +kernel)), (List.mem_of_getElem? (i := 50) (by decide +kernel)), rfl, rfl, _, rfl, rfl⟩)⟩
set_option maxRecDepth 100000 in
theorem am_kk171 : am_kkI am_i171 := ⟨by decide, 3, by decide +kernel, Or.inr (Or.inr ⟨rfl, (List.mem_of_getElem? (i := 1225) (by decide +kernel)), (List.mem_of_getElem? (i := 51) (by decide +kernel)), rfl, rfl, _, rfl, rfl⟩)⟩
set_option maxRecDepth 100000 in
theorem am_kk172 : am_kkI am_i172 := ⟨by decide, 3, by decide +kernel, Or.inr (Or.inr ⟨rfl, (List.mem_of_getElem? (i := 1229) (by decide +kernel)), (List.mem_of_getElem? (i := 52) (by decide +kernel)), rfl, rfl, _, rfl, rfl⟩)⟩
set_option maxRecDepth 100000 in
theorem am_kk173 : am_kkI am_i173 := ⟨by decide, 1, by decide +kernel, Or.inl ⟨rfl, (List.mem_of_getElem? (i := 1232) (by decide +kernel)), rfl⟩⟩
set_option maxRecDepth 100000 in
theorem am_kk174 : am_kkI am_i174 := ⟨by decide, 1, by decide +kernel, Or.inr (Or.inr ⟨rfl, (List.mem_of_getElem? (i := 1236) (by decide +kernel)), (List.mem_of_getElem? (i := 53) (by decide +kernel)), rfl, rfl, _, rfl, rfl⟩)⟩
set_option maxRecDepth 100000 in
theorem am_kk175 : am_kkI am_i175 := ⟨by decide, 0, by decide +kernel, Or.inr (Or.inr ⟨rfl, (List.mem_of_getElem? (i := 1239) (by decide +kernel)), (List.mem_of_getElem? (i := 1240) (by decide +kernel)), rfl, rfl, _, rfl, rfl⟩)⟩
set_option maxRecDepth 100000 in
theorem am_kk176 : am_kkI am_i176 := ⟨by decide, 2, by decide +kernel, Or.inr (Or.inr ⟨rfl, (List.mem_of_getElem? (i := 1244) (by decide +kernel)), (List.mem_of_getElem? (i := 54) (by decide +kernel)), rfl, rfl, _, rfl, rfl⟩)⟩
set_option maxRecDepth 100000 in
theorem am_kk177 : am_kkI am_i177 := ⟨by decide, 2, by decide +kernel, Or.inr (Or.inr ⟨rfl, (List.mem_of_getElem? (i := 1248) (by decide +kernel)), (List.mem_of_getElem? (i := 55) (by decide +kernel)), rfl, rfl, _, rfl, rfl⟩)⟩
set_option maxRecDepth 100000 in
theorem am_kk178 : am_kkI am_i178 := ⟨by decide, 0, by decide +kernel, Or.inr (Or.inr ⟨rfl, (List.mem_of_getElem? (i := 1252) (by decide +kernel)), (List.mem_of_getElem? (i := 56) (by decide +kernel)), rfl, rfl, _, rfl, rfl⟩)⟩
set_option maxRecDepth 100000 in
theorem am_kk179 : am_kkI am_i179 := ⟨by decide, 3, by decide +kernel, Or.inl ⟨rfl, (List.mem_of_getElem? (i := 1255) (by decide +kernel)), rfl⟩⟩
set_option maxRecDepth 100000 in
theorem am_kk180 : am_kkI am_i180 := ⟨by decide, 3, by decide +kernel, Or.inr (Or.inr ⟨rfl, (List.mem_of_getElem? (i := 1259) (by decide +kernel)), (List.mem_of_getElem? (i := 57) (by decide +kernel)), rfl, rfl, _, rfl, rfl⟩)⟩
set_option maxRecDepth 100000 in
theorem am_kk181 : am_kkI am_i181 := ⟨by decide, 2, by decide +kernel, Or.inr (Or.inr ⟨rfl, (List.mem_of_getElem? (i := 1263) (by decide +kernel)), (List.mem_of_getElem? (i := 58) (by decide +kernel)), rfl, rfl, _, rfl, rfl⟩)⟩
set_option maxRecDepth 100000 in
theorem am_kk182 : am_kkI am_i182 := ⟨by decide, 6, by decide +kernel, Or.inr (Or.inr ⟨rfl, (List.mem_of_getElem? (i := 1267) (by decide +kernel)), (List.mem_of_getElem? (i := 59) (by decide +kernel)), rfl, rfl, _, rfl, rfl⟩)⟩
set_option maxRecDepth 100000 in
theorem am_kk183 : am_kkI am_i183 := ⟨by decide, 4, by decide +kernel, Or.inl ⟨rfl, (List.mem_of_getElem? (i := 1270) (by decide +kernel)), rfl⟩⟩
set_option maxRecDepth 100000 in
theorem am_kk184 : am_kkI am_i184 := ⟨by decide, 3, by decide +kernel, Or.inr (Or.inr ⟨rfl, (List.mem_of_getElem? (i := 1274) (by decide +kernel)), (List.mem_of_getElem? (i := 60) (by decide +kernel)), rfl, rfl, _, rfl, rfl⟩)⟩
set_option maxRecDepth 100000 in
theorem am_kk185 : am_kkI am_i185 := ⟨by decide, 2, by decide +kernel, Or.inl ⟨rfl, (List.mem_of_getElem? (i := 1277) (by decide +kernel)), rfl⟩⟩
set_option maxRecDepth 100000 in
theorem am_kk186 : am_kkI am_i186 := ⟨by decide, 6, by decide +kernel, Or.inr (Or.inr ⟨rfl, (List.mem_of_getElem? (i := 1281) (by decide +kernel)), (List.mem_of_getElem? (i := 61) (by decide +kernel)), rfl, rfl, _, rfl, rfl⟩)⟩
set_option maxRecDepth 100000 in
theorem am_kk187 : am_kkI am_i187 := ⟨by decide, 4, by decide +kernel, Or.inl ⟨rfl, (List.mem_of_getElem? (i := 1284) (by decide +kernel)), rfl⟩⟩
set_option maxRecDepth 100000 in
theorem am_kk188 : am_kkI am_i188 := ⟨by decide, 5, by decide +kernel, Or.inr (Or.inr ⟨rfl, (List.mem_of_getElem? (i := 1288) (by decide +kernel)), (List.mem_of_getElem? (i := 62) (by decide +kernel)), rfl, rfl, _, rfl, rfl⟩)⟩
set_option maxRecDepth 100000 in
theorem am_kk189 : am_kkI am_i189 := ⟨by decide, 1, by decide +kernel, Or.inr (Or.inr ⟨rfl, (List.mem_of_getElem? (i := 1292) (by decide +kernel)), (List.mem_of_getElem? (i := 63) (by decide +kernel)), rfl, rfl, _, rfl, rfl⟩)⟩
set_option maxRecDepth 100000 in
theorem am_kk190 : am_kkI am_i190 := ⟨by decide, 2, by decide +kernel, Or.inr (Or.inr ⟨rfl, (List.mem_of_getElem? (i := 1296) (by decide +kernel)), (List.mem_of_getElem? (i := 64) (by decide +kernel)), rfl, rfl, _, rfl, rfl⟩)⟩
set_option maxRecDepth 100000 in
theorem am_kk191 : am_kkI am_i191 := ⟨by decide, 3, by decide +kernel, Or.inr (Or.inr ⟨rfl, (List.mem_of_getElem? (i := 1300) (by decide +kernel)), (List.mem_of_getElem? (i := 65) (by decide +kernel)), rfl, rfl, _, rfl, rfl⟩)⟩
set_option maxRecDepth 100000 in
theorem am_kk192 : am_kkI am_i192 := ⟨by decide, 2, by decide +kernel, Or.inr (Or.inr ⟨rfl, (List.mem_of_getElem? (i := 1304) (by decide +kernel)), (List.mem_of_getElem? (i := 66) (by decide +kernel)), rfl, rfl, _, rfl, rfl⟩)⟩
set_option maxRecDepth 100000 in
theorem am_kk193 : am_kkI am_i193 := ⟨by decide, 0, by decide +kernel, Or.inr (Or.inr ⟨rfl, (List.mem_of_getElem? (i := 1308) (by decide +kernel)), (List.mem_of_getElem? (i := 67) (by decide +kernel)), rfl, rfl, _, rfl, rfl⟩)⟩
set_option maxRecDepth 100000 in
theorem am_kk194 : am_kkI am_i194 := ⟨by decide, 0, by decide +kernel, Or.inr (Or.inr ⟨rfl, (List.mem_of_getElem? (i := 1312) (by decide +kernel)), (List.mem_of_getElem? (i := 68) (by decide +kernel)), rfl, rfl, _, rfl, rfl⟩)⟩
set_option maxRecDepth 100000 in
theorem am_kk195 : am_kkI am_i195 := ⟨by decide, 0, by decide +kernel, Or.inr (Or.inr ⟨rfl, (List.mem_of_getElem? (i := 1316) (by decide +kernel)), (List.mem_of_getElem? (i := 69) (by decide +kernel)), rfl, rfl, _, rfl, rfl⟩)⟩
set_option maxRecDepth 100000 in
theorem am_kk196 : am_kkI am_i196 := ⟨by decide, 1, by decide +kernel, Or.inr (Or.inr ⟨rfl, (List.mem_of_getElem? (i := 1319) (by decide +kernel)), (List.mem_of_getElem? (i := 1320) (by decide +kernel)), rfl, rfl, _, rfl, rfl⟩)⟩
set_option maxRecDepth 100000 in
theorem am_kk197 : am_kkI am_i197 := ⟨by decide, 4, by decide +kernel, Or.inr (Or.inr ⟨rfl, (List.mem_of_getElem? (i := 1323) (by decide +kernel)), (List.mem_of_getElem? (i := 1324) (by decide +kernel)), rfl, rfl, _, rfl, rfl⟩)⟩
set_option maxRecDepth 100000 in
theorem am_kk198 : am_kkI am_i198 := ⟨by decide, 2, by decide +kernel, Or.inr (Or.inr ⟨rfl, (List.mem_of_getElem? (i := 1327) (by decide +kernel)), (List.mem_of_getElem? (i := 1328) (by decide +kernel)), rfl, rfl, _, rfl, rfl⟩)⟩
set_option maxRecDepth 100000 in
theorem am_kk199 : am_kkI am_i199 := ⟨by decide, 4, by decide +kernel, Or.inr (Or.inr ⟨rfl, (List.mem_of_getElem? (i := 1331) (by decide +kernel)), (List.mem_of_getElem? (i := 1332) (by decide +kernel)), rfl, rfl, _, rfl, rfl⟩)⟩
set_option maxRecDepth 100000 in
theorem am_kk200 : am_kkI am_i200 := ⟨by decide, 1, by decide +kernel, Or.inr (Or.inr ⟨rfl, (List.mem_of_getElem? (i := 1336) (by decide +kernel)), (List.mem_of_getElem? (i := 70) (by decide +kernel)), rfl, rfl, _, rfl, rfl⟩)⟩
set_option maxRecDepth 100000 in
theorem am_kk201 : am_kkI am_i201 := ⟨by decide, 0, by decide +kernel, Or.inr (Or.inr ⟨rfl, (List.mem_of_getElem? (i := 1339) (by decide +kernel)), (List.mem_of_getElem? (i := 1340) (by decide +kernel)), rfl, rfl, _, rfl, rfl⟩)⟩
set_option maxRecDepth 100000 in
theorem am_kk202 : am_kkI am_i202 := ⟨by decide, 1, by decide +kernel, Or.inr (Or.inr ⟨rfl, (List.mem_of_getElem? (i := 1343) (by decide +kernel)), (List.mem_of_getElem? (i := 1344) (by decide +kernel)), rfl, rfl, _, rfl, rfl⟩)⟩
set_option maxRecDepth 100000 in
theorem am_kk203 : am_kkI am_i203 := ⟨by decide, 0, by decide +kernel, Or.inr (Or.inr ⟨rfl, (List.mem_of_getElem? (i := 1347) (by decide +kernel)), (List.mem_of_getElem? (i := 1348) (by decide +kernel)), rfl, rfl, _, rfl, rfl⟩)⟩
