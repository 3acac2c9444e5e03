/-! the operations of the law -/
section LFA
variable {xs : List Int32} {H : am_H} {v : vm_V} {x : vm_Y}
theorem lf_block (hI : lw_I xs H) (hw : vw v H) {i : Int32} {l5 l6 : Value} (e : vE 0 120 [.ref 0, .ref 2, .ref 64, .ref 93, .int i, l5, l6] [] v x) : ∃ (w1 : Int32) (v1 : vm_V) (H1 : am_H) (w2 : Int32) (v2 : vm_V) (H2 : am_H), vE 16 0 [.ref 2, .int (v.1 0 (i + 1).toNatClampNeg), .ref 93, .retAddr 0] [] v (vr w1 v1) ∧ (lw_I xs H1 ∧ vw v1 H1 ∧ ty_un [2, 3, 5, 6, 7, 9, 10, 93] H H1) ∧ vE 147 0 [.ref 64, .int (v1.1 0 (i + 1).toNatClampNeg), .retAddr 0] [] v1 (vr w2 v2) ∧ (lw_I xs H2 ∧ vw v2 H2 ∧ ty_un [64, 65, 66, 68] H1 H2) ∧ vE 0 806 [.ref 0, .ref 2, .ref 64, .ref 93, .int i, .int w1, .int w2] [] v2 x := by
  simp only [q0_120, q0_121, q0_122, q0_124, q0_125, q0_126, q0_127, q0_128] at e
  obtain ⟨y1, a1, b1⟩ := e
  obtain ⟨w1, v1, H1, rfl, g1⟩ := gh_r (C := tc_559) (tm_ok _ tm_m559) hI hw rfl (by decide) rfl rfl rfl a1 (And.intro (fun _ => rfl) (And.intro (fun _ => gh_i _) (And.intro (fun _ => rfl) (And.intro (fun h => absurd h (by decide)) trivial))))
  simp only [vB_r, vB_d, Nat.reduceAdd, q0_131, q0_133, q0_134, q0_135, q0_137, q0_138, q0_139, q0_140] at b1
  obtain ⟨y2, a2, b2⟩ := b1
  obtain ⟨w2, v2, H2, rfl, g2⟩ := gh_r (C := tc_221) (tm_ok _ tm_m221) g1.1 g1.2.1 rfl (by decide) rfl rfl rfl a2 (And.intro (fun _ => rfl) (And.intro (fun _ => gh_i _) (And.intro (fun h => absurd h (by decide)) trivial)))
  simp only [vB_r, vB_d, Nat.reduceAdd, q0_143, q0_145] at b2
  exact ⟨w1, v1, H1, w2, v2, H2, a1, g1, a2, g2, b2⟩

theorem lf_code (hI : lw_I xs H) (hw : vw v H) {i : Int32} {l5 l6 : Value} (e : vE 0 148 [.ref 0, .ref 2, .ref 64, .ref 93, .int i, l5, l6] [] v x) : ∃ (w1 : Int32) (v1 : vm_V) (H1 : am_H) (w2 : Int32) (v2 : vm_V) (H2 : am_H), vE 23 0 [.ref 2, .int (v.1 0 (i + 1).toNatClampNeg), .int (v.1 0 (i + 2).toNatClampNeg), .int (v.1 0 (i + 3).toNatClampNeg), .int (v.1 0 (i + 4).toNatClampNeg), .int (v.1 0 (i + 5).toNatClampNeg), .int (v.1 0 (i + 6).toNatClampNeg), .ref 93, .retAddr 0] [] v (vr w1 v1) ∧ (lw_I xs H1 ∧ vw v1 H1 ∧ ty_un [2, 4, 6, 8, 10, 93] H H1) ∧ vE 151 0 [.ref 64, .int (v1.1 0 (i + 1).toNatClampNeg), .int (v1.1 0 (i + 2).toNatClampNeg), .int (v1.1 0 (i + 3).toNatClampNeg), .int (v1.1 0 (i + 4).toNatClampNeg), .int (v1.1 0 (i + 5).toNatClampNeg), .int (v1.1 0 (i + 6).toNatClampNeg), .retAddr 0] [] v1 (vr w2 v2) ∧ (lw_I xs H2 ∧ vw v2 H2 ∧ ty_un [64, 66, 67] H1 H2) ∧ vE 0 806 [.ref 0, .ref 2, .ref 64, .ref 93, .int i, .int w1, .int w2] [] v2 x := by
  simp only [q0_148, q0_149, q0_150, q0_152, q0_153, q0_154, q0_155, q0_156, q0_158, q0_159, q0_160, q0_161, q0_162, q0_164, q0_165, q0_166, q0_167, q0_168, q0_170, q0_171, q0_172, q0_173, q0_174, q0_176, q0_177, q0_178, q0_179, q0_180, q0_182, q0_184, q0_185, q0_186, q0_187] at e
  obtain ⟨y1, a1, b1⟩ := e
  obtain ⟨w1, v1, H1, rfl, g1⟩ := gh_r (C := tc_560) (tm_ok _ tm_m560) hI hw rfl (by decide) rfl rfl rfl a1 (And.intro (fun _ => rfl) (And.intro (fun _ => gh_i _) (And.intro (fun _ => gh_i _) (And.intro (fun _ => gh_i _) (And.intro (fun _ => gh_i _) (And.intro (fun _ => gh_i _) (And.intro (fun _ => gh_i _) (And.intro (fun _ => rfl) (And.intro (fun h => absurd h (by decide)) trivial)))))))))
  simp only [vB_r, vB_d, Nat.reduceAdd, q0_190, q0_192, q0_193, q0_194, q0_196, q0_197, q0_198, q0_199, q0_200, q0_202, q0_203, q0_204, q0_205, q0_206, q0_208, q0_209, q0_210, q0_211, q0_212, q0_214, q0_215, q0_216, q0_217, q0_218, q0_220, q0_221, q0_222, q0_223, q0_224, q0_226, q0_228, q0_229, q0_230] at b1
  obtain ⟨y2, a2, b2⟩ := b1
  obtain ⟨w2, v2, H2, rfl, g2⟩ := gh_r (C := tc_227) (tm_ok _ tm_m227) g1.1 g1.2.1 rfl (by decide) rfl rfl rfl a2 (And.intro (fun _ => rfl) (And.intro (fun _ => gh_i _) (And.intro (fun _ => gh_i _) (And.intro (fun _ => gh_i _) (And.intro (fun _ => gh_i _) (And.intro (fun _ => gh_i _) (And.intro (fun _ => gh_i _) (And.intro (fun h => absurd h (by decide)) trivial))))))))
  simp only [vB_r, vB_d, Nat.reduceAdd, q0_233, q0_235] at b2
  exact ⟨w1, v1, H1, w2, v2, H2, a1, g1, a2, g2, b2⟩

theorem lf_end (hI : lw_I xs H) (hw : vw v H) {i : Int32} {l5 l6 : Value} (e : vE 0 238 [.ref 0, .ref 2, .ref 64, .ref 93, .int i, l5, l6] [] v x) : ∃ (w1 : Int32) (v1 : vm_V) (H1 : am_H) (v2 : vm_V) (H2 : am_H), vE 35 0 [.ref 2, .int (v.1 0 (i + 1).toNatClampNeg), .int (v.1 0 (i + 2).toNatClampNeg), .int (v.1 0 (i + 3).toNatClampNeg), .int (v.1 0 (i + 4).toNatClampNeg), .int (v.1 0 (i + 5).toNatClampNeg), .int (v.1 0 (i + 6).toNatClampNeg), .retAddr 0] [] v (vr w1 v1) ∧ (lw_I xs H1 ∧ vw v1 H1 ∧ ty_un [2, 5, 9] H H1) ∧ vE 158 0 [.ref 64, .int (v1.1 0 (i + 1).toNatClampNeg), .int (v1.1 0 (i + 2).toNatClampNeg), .int (v1.1 0 (i + 3).toNatClampNeg), .int (v1.1 0 (i + 4).toNatClampNeg), .int (v1.1 0 (i + 5).toNatClampNeg), .int (v1.1 0 (i + 6).toNatClampNeg)] [] v1 (vd v2) ∧ (lw_I xs H2 ∧ vw v2 H2 ∧ ty_un [64, 68] H1 H2) ∧ vE 0 806 [.ref 0, .ref 2, .ref 64, .ref 93, .int i, .int w1, l6] [] v2 x := by
  simp only [q0_238, q0_239, q0_240, q0_242, q0_243, q0_244, q0_245, q0_246, q0_248, q0_249, q0_250, q0_251, q0_252, q0_254, q0_255, q0_256, q0_257, q0_258, q0_260, q0_261, q0_262, q0_263, q0_264, q0_266, q0_267, q0_268, q0_269, q0_270, q0_272, q0_274, q0_275, q0_276] at e
  obtain ⟨y1, a1, b1⟩ := e
  obtain ⟨w1, v1, H1, rfl, g1⟩ := gh_r (C := tc_561) (tm_ok _ tm_m561) hI hw rfl (by decide) rfl rfl rfl a1 (And.intro (fun _ => rfl) (And.intro (fun _ => gh_i _) (And.intro (fun _ => gh_i _) (And.intro (fun _ => gh_i _) (And.intro (fun _ => gh_i _) (And.intro (fun _ => gh_i _) (And.intro (fun _ => gh_i _) (And.intro (fun h => absurd h (by decide)) trivial))))))))
  simp only [vB_r, vB_d, Nat.reduceAdd, q0_279, q0_281, q0_282, q0_283, q0_285, q0_286, q0_287, q0_288, q0_289, q0_291, q0_292, q0_293, q0_294, q0_295, q0_297, q0_298, q0_299, q0_300, q0_301, q0_303, q0_304, q0_305, q0_306, q0_307, q0_309, q0_310, q0_311, q0_312, q0_313, q0_315, q0_317, q0_318, q0_319] at b1
  obtain ⟨y2, a2, b2⟩ := b1
  obtain ⟨v2, H2, rfl, g2⟩ := gh_v (C := tc_228) (tm_ok _ tm_m228) g1.1 g1.2.1 rfl (by decide) rfl rfl rfl a2 (And.intro (fun _ => rfl) (And.intro (fun _ => gh_i _) (And.intro (fun _ => gh_i _) (And.intro (fun _ => gh_i _) (And.intro (fun _ => gh_i _) (And.intro (fun _ => gh_i _) (And.intro (fun _ => gh_i _) trivial)))))))
  simp only [vB_r, vB_d, Nat.reduceAdd, q0_322] at b2
  exact ⟨w1, v1, H1, v2, H2, a1, g1, a2, g2, b2⟩

theorem lf_pass (hI : lw_I xs H) (hw : vw v H) {i : Int32} {l5 l6 : Value} (e : vE 0 350 [.ref 0, .ref 2, .ref 64, .ref 93, .int i, l5, l6] [] v x) : ∃ (w1 : Int32) (v1 : vm_V) (H1 : am_H) (w2 : Int32) (v2 : vm_V) (H2 : am_H), vE 41 0 [.ref 2, .int (v.1 0 (i + 1).toNatClampNeg), .ref 93, .retAddr 0] [] v (vr w1 v1) ∧ (lw_I xs H1 ∧ vw v1 H1 ∧ ty_un [2, 7, 8, 9, 10, 12, 13, 16, 17, 93] H H1) ∧ vE 164 0 [.ref 64, .int (v1.1 0 (i + 1).toNatClampNeg), .retAddr 0, .retAddr 0] [] v1 (vr w2 v2) ∧ (lw_I xs H2 ∧ vw v2 H2 ∧ ty_un [64, 65, 66, 67, 68, 86, 87, 88, 89] H1 H2) ∧ vE 0 806 [.ref 0, .ref 2, .ref 64, .ref 93, .int i, .int w1, .int w2] [] v2 x := by
  simp only [q0_350, q0_351, q0_352, q0_354, q0_355, q0_356, q0_357, q0_358] at e
  obtain ⟨y1, a1, b1⟩ := e
  obtain ⟨w1, v1, H1, rfl, g1⟩ := gh_r (C := tc_562) (tm_ok _ tm_m562) hI hw rfl (by decide) rfl rfl rfl a1 (And.intro (fun _ => rfl) (And.intro (fun _ => gh_i _) (And.intro (fun _ => rfl) (And.intro (fun h => absurd h (by decide)) trivial))))
  simp only [vB_r, vB_d, Nat.reduceAdd, q0_361, q0_363, q0_364, q0_365, q0_367, q0_368, q0_369, q0_370] at b1
  obtain ⟨y2, a2, b2⟩ := b1
  obtain ⟨w2, v2, H2, rfl, g2⟩ := gh_r (C := tc_256) (tm_ok _ tm_m256) g1.1 g1.2.1 rfl (by decide) rfl rfl rfl a2 (And.intro (fun _ => rfl) (And.intro (fun _ => gh_i _) (And.intro (fun h => absurd h (by decide)) (And.intro (fun h => absurd h (by decide)) trivial))))
  simp only [vB_r, vB_d, Nat.reduceAdd, q0_373, q0_375] at b2
  exact ⟨w1, v1, H1, w2, v2, H2, a1, g1, a2, g2, b2⟩

theorem lf_take (hI : lw_I xs H) (hw : vw v H) {i : Int32} {l5 l6 : Value} (e : vE 0 378 [.ref 0, .ref 2, .ref 64, .ref 93, .int i, l5, l6] [] v x) : ∃ (v1 : vm_V) (H1 : am_H) (v2 : vm_V) (H2 : am_H), vE 10 0 [.ref 2] [] v (vd v1) ∧ (lw_I xs H1 ∧ vw v1 H1 ∧ ty_un [2, 3, 4, 5, 6] H H1) ∧ vE 160 0 [.ref 64] [] v1 (vd v2) ∧ (lw_I xs H2 ∧ vw v2 H2 ∧ ty_un [64, 65, 66, 67, 68] H1 H2) ∧ vE 0 806 [.ref 0, .ref 2, .ref 64, .ref 93, .int i, l5, l6] [] v2 x := by
  simp only [q0_378, q0_379] at e
  obtain ⟨y1, a1, b1⟩ := e
  obtain ⟨v1, H1, rfl, g1⟩ := gh_v (C := tc_1) (tm_ok _ tm_m1) hI hw rfl (by decide) rfl rfl rfl a1 (And.intro (fun _ => rfl) trivial)
  simp only [vB_r, vB_d, Nat.reduceAdd, q0_382, q0_383] at b1
  obtain ⟨y2, a2, b2⟩ := b1
  obtain ⟨v2, H2, rfl, g2⟩ := gh_v (C := tc_231) (tm_ok _ tm_m231) g1.1 g1.2.1 rfl (by decide) rfl rfl rfl a2 (And.intro (fun _ => rfl) trivial)
  simp only [vB_r, vB_d, Nat.reduceAdd, q0_386] at b2
  exact ⟨v1, H1, v2, H2, a1, g1, a2, g2, b2⟩

theorem lf_instruction (hI : lw_I xs H) (hw : vw v H) {i : Int32} {l5 l6 : Value} (e : vE 0 389 [.ref 0, .ref 2, .ref 64, .ref 93, .int i, l5, l6] [] v x) : ∃ (w1 : Int32) (v1 : vm_V) (H1 : am_H) (w2 : Int32) (v2 : vm_V) (H2 : am_H), vE 73 0 [.ref 2, .int (v.1 0 (i + 1).toNatClampNeg), .int (v.1 0 (i + 2).toNatClampNeg), .int (v.1 0 (i + 3).toNatClampNeg), .int (v.1 0 (i + 4).toNatClampNeg), .ref 93, .retAddr 0] [] v (vr w1 v1) ∧ (lw_I xs H1 ∧ vw v1 H1 ∧ ty_un [93] H H1) ∧ vE 162 0 [.ref 64, .int (v1.1 0 (i + 1).toNatClampNeg), .int (v1.1 0 (i + 2).toNatClampNeg), .int (v1.1 0 (i + 3).toNatClampNeg), .int (v1.1 0 (i + 4).toNatClampNeg)] [] v1 (vr w2 v2) ∧ (lw_I xs H2 ∧ vw v2 H2 ∧ ty_un [64] H1 H2) ∧ vE 0 806 [.ref 0, .ref 2, .ref 64, .ref 93, .int i, .int w1, .int w2] [] v2 x := by
  simp only [q0_389, q0_390, q0_391, q0_393, q0_394, q0_395, q0_396, q0_397, q0_399, q0_400, q0_401, q0_402, q0_403, q0_405, q0_406, q0_407, q0_408, q0_409, q0_411, q0_412, q0_413, q0_414, q0_415] at e
  obtain ⟨y1, a1, b1⟩ := e
  obtain ⟨w1, v1, H1, rfl, g1⟩ := gh_r (C := tc_563) (tm_ok _ tm_m563) hI hw rfl (by decide) rfl rfl rfl a1 (And.intro (fun _ => rfl) (And.intro (fun _ => gh_i _) (And.intro (fun _ => gh_i _) (And.intro (fun _ => gh_i _) (And.intro (fun _ => gh_i _) (And.intro (fun _ => rfl) (And.intro (fun h => absurd h (by decide)) trivial)))))))
  simp only [vB_r, vB_d, Nat.reduceAdd, q0_418, q0_420, q0_421, q0_422, q0_424, q0_425, q0_426, q0_427, q0_428, q0_430, q0_431, q0_432, q0_433, q0_434, q0_436, q0_437, q0_438, q0_439, q0_440, q0_442, q0_443, q0_444, q0_445] at b1
  obtain ⟨y2, a2, b2⟩ := b1
  obtain ⟨w2, v2, H2, rfl, g2⟩ := gh_r (C := tc_232) (tm_ok _ tm_m232) g1.1 g1.2.1 rfl (by decide) rfl rfl rfl a2 (And.intro (fun _ => rfl) (And.intro (fun _ => gh_i _) (And.intro (fun _ => gh_i _) (And.intro (fun _ => gh_i _) (And.intro (fun _ => gh_i _) trivial)))))
  simp only [vB_r, vB_d, Nat.reduceAdd, q0_448, q0_450] at b2
  exact ⟨w1, v1, H1, w2, v2, H2, a1, g1, a2, g2, b2⟩

theorem lf_ending (hI : lw_I xs H) (hw : vw v H) {i : Int32} {l5 l6 : Value} (e : vE 0 453 [.ref 0, .ref 2, .ref 64, .ref 93, .int i, l5, l6] [] v x) : ∃ (w1 : Int32) (v1 : vm_V) (H1 : am_H) (w2 : Int32) (v2 : vm_V) (H2 : am_H), vE 75 0 [.ref 2, .int (v.1 0 (i + 1).toNatClampNeg), .int (v.1 0 (i + 2).toNatClampNeg), .int (v.1 0 (i + 3).toNatClampNeg), .ref 93, .retAddr 0] [] v (vr w1 v1) ∧ (lw_I xs H1 ∧ vw v1 H1 ∧ ty_un [93] H H1) ∧ vE 163 0 [.ref 64, .int (v1.1 0 (i + 1).toNatClampNeg), .int (v1.1 0 (i + 2).toNatClampNeg), .int (v1.1 0 (i + 3).toNatClampNeg)] [] v1 (vr w2 v2) ∧ (lw_I xs H2 ∧ vw v2 H2 ∧ ty_un [64] H1 H2) ∧ vE 0 806 [.ref 0, .ref 2, .ref 64, .ref 93, .int i, .int w1, .int w2] [] v2 x := by
  simp only [q0_453, q0_454, q0_455, q0_457, q0_458, q0_459, q0_460, q0_461, q0_463, q0_464, q0_465, q0_466, q0_467, q0_469, q0_470, q0_471, q0_472, q0_473] at e
  obtain ⟨y1, a1, b1⟩ := e
  obtain ⟨w1, v1, H1, rfl, g1⟩ := gh_r (C := tc_564) (tm_ok _ tm_m564) hI hw rfl (by decide) rfl rfl rfl a1 (And.intro (fun _ => rfl) (And.intro (fun _ => gh_i _) (And.intro (fun _ => gh_i _) (And.intro (fun _ => gh_i _) (And.intro (fun _ => rfl) (And.intro (fun h => absurd h (by decide)) trivial))))))
  simp only [vB_r, vB_d, Nat.reduceAdd, q0_476, q0_478, q0_479, q0_480, q0_482, q0_483, q0_484, q0_485, q0_486, q0_488, q0_489, q0_490, q0_491, q0_492, q0_494, q0_495, q0_496, q0_497] at b1
  obtain ⟨y2, a2, b2⟩ := b1
  obtain ⟨w2, v2, H2, rfl, g2⟩ := gh_r (C := tc_233) (tm_ok _ tm_m233) g1.1 g1.2.1 rfl (by decide) rfl rfl rfl a2 (And.intro (fun _ => rfl) (And.intro (fun _ => gh_i _) (And.intro (fun _ => gh_i _) (And.intro (fun _ => gh_i _) trivial))))
  simp only [vB_r, vB_d, Nat.reduceAdd, q0_500, q0_502] at b2
  exact ⟨w1, v1, H1, w2, v2, H2, a1, g1, a2, g2, b2⟩

theorem lf_check (hI : lw_I xs H) (hw : vw v H) {i : Int32} {l5 l6 : Value} (e : vE 0 505 [.ref 0, .ref 2, .ref 64, .ref 93, .int i, l5, l6] [] v x) : ∃ (w1 : Int32) (v1 : vm_V) (H1 : am_H) (w2 : Int32) (v2 : vm_V) (H2 : am_H), vE 77 0 [.ref 2, .ref 93, .retAddr 0] [] v (vr w1 v1) ∧ (lw_I xs H1 ∧ vw v1 H1 ∧ ty_un [2, 18, 19, 21, 22, 23, 24, 25, 26, 27, 28, 29, 30, 31, 32, 33, 34, 35, 36, 37, 38, 39, 40, 41, 42, 43, 44, 45, 46, 47, 48, 49, 50, 51, 52, 53, 54, 55, 56, 57, 58, 59, 60, 93] H H1) ∧ vE 175 0 [.ref 64, .retAddr 0] [] v1 (vr w2 v2) ∧ (lw_I xs H2 ∧ vw v2 H2 ∧ ty_un lk_mods H1 H2) ∧ vE 0 806 [.ref 0, .ref 2, .ref 64, .ref 93, .int i, .int w1, .int w2] [] v2 x := by
  simp only [q0_505, q0_506, q0_507] at e
  obtain ⟨y1, a1, b1⟩ := e
  obtain ⟨w1, v1, H1, rfl, g1⟩ := gh_r (C := tc_565) (tm_ok _ tm_m565) hI hw rfl (by decide) rfl rfl rfl a1 (And.intro (fun _ => rfl) (And.intro (fun _ => rfl) (And.intro (fun h => absurd h (by decide)) trivial)))
  simp only [vB_r, vB_d, Nat.reduceAdd, q0_510, q0_512, q0_513] at b1
  obtain ⟨y2, a2, b2⟩ := b1
  obtain ⟨w2, v2, H2, rfl, g2⟩ := gh_r (C := ck_C) ck_ok g1.1 g1.2.1 rfl (by decide) rfl rfl rfl a2 (And.intro (fun _ => rfl) (And.intro (fun h => absurd h (by decide)) trivial))
  simp only [vB_r, vB_d, Nat.reduceAdd, q0_516, q0_518] at b2
  exact ⟨w1, v1, H1, w2, v2, H2, a1, g1, a2, g2, b2⟩

theorem lf_refused (hI : lw_I xs H) (hw : vw v H) {i : Int32} {l5 l6 : Value} (e : vE 0 521 [.ref 0, .ref 2, .ref 64, .ref 93, .int i, l5, l6] [] v x) : ∃ (w1 : Int32) (v1 : vm_V) (H1 : am_H) (w2 : Int32) (v2 : vm_V) (H2 : am_H), vE 121 0 [.ref 2, .int (v.1 0 (i + 1).toNatClampNeg), .ref 93, .retAddr 0] [] v (vr w1 v1) ∧ (lw_I xs H1 ∧ vw v1 H1 ∧ ty_un [93] H H1) ∧ vE 196 0 [.ref 64, .int (v1.1 0 (i + 1).toNatClampNeg)] [] v1 (vr w2 v2) ∧ (lw_I xs H2 ∧ vw v2 H2 ∧ ty_un [64] H1 H2) ∧ vE 0 806 [.ref 0, .ref 2, .ref 64, .ref 93, .int i, .int w1, .int w2] [] v2 x := by
  simp only [q0_521, q0_522, q0_523, q0_525, q0_526, q0_527, q0_528, q0_529] at e
  obtain ⟨y1, a1, b1⟩ := e
  obtain ⟨w1, v1, H1, rfl, g1⟩ := gh_r (C := tc_566) (tm_ok _ tm_m566) hI hw rfl (by decide) rfl rfl rfl a1 (And.intro (fun _ => rfl) (And.intro (fun _ => gh_i _) (And.intro (fun _ => rfl) (And.intro (fun h => absurd h (by decide)) trivial))))
  simp only [vB_r, vB_d, Nat.reduceAdd, q0_532, q0_534, q0_535, q0_536, q0_538, q0_539, q0_540, q0_541] at b1
  obtain ⟨y2, a2, b2⟩ := b1
  obtain ⟨w2, v2, H2, rfl, g2⟩ := gh_r (C := tc_272) (tm_ok _ tm_m272) g1.1 g1.2.1 rfl (by decide) rfl rfl rfl a2 (And.intro (fun _ => rfl) (And.intro (fun _ => gh_i _) trivial))
  simp only [vB_r, vB_d, Nat.reduceAdd, q0_544, q0_546] at b2
  exact ⟨w1, v1, H1, w2, v2, H2, a1, g1, a2, g2, b2⟩

theorem lf_same (hI : lw_I xs H) (hw : vw v H) {i : Int32} {l5 l6 : Value} (e : vE 0 549 [.ref 0, .ref 2, .ref 64, .ref 93, .int i, l5, l6] [] v x) : ∃ (w1 : Int32) (v1 : vm_V) (H1 : am_H) (w2 : Int32) (v2 : vm_V) (H2 : am_H), vE 125 0 [.ref 2, .int (v.1 0 (i + 1).toNatClampNeg), .int (v.1 0 (i + 2).toNatClampNeg), .int (v.1 0 (i + 3).toNatClampNeg), .int (v.1 0 (i + 4).toNatClampNeg), .ref 93, .retAddr 0] [] v (vr w1 v1) ∧ (lw_I xs H1 ∧ vw v1 H1 ∧ ty_un [19, 21, 22, 23, 24, 25, 26, 27, 28, 29, 30, 31, 32, 33, 34, 35, 36, 37, 38, 39, 40, 41, 42, 43, 44, 45, 46, 47, 48, 49, 50, 51, 52, 53, 54, 55, 56, 57, 58, 93] H H1) ∧ vE 197 0 [.ref 64, .int (v1.1 0 (i + 1).toNatClampNeg), .int (v1.1 0 (i + 2).toNatClampNeg), .int (v1.1 0 (i + 3).toNatClampNeg), .int (v1.1 0 (i + 4).toNatClampNeg)] [] v1 (vr w2 v2) ∧ (lw_I xs H2 ∧ vw v2 H2 ∧ ty_un [64, 69, 70, 71, 72, 73, 74, 75, 76, 77, 78, 79, 80, 81, 82, 92] H1 H2) ∧ vE 0 610 [.ref 0, .ref 2, .ref 64, .ref 93, .int i, .int w1, .int w2] [] v2 x := by
  simp only [q0_549, q0_550, q0_551, q0_553, q0_554, q0_555, q0_556, q0_557, q0_559, q0_560, q0_561, q0_562, q0_563, q0_565, q0_566, q0_567, q0_568, q0_569, q0_571, q0_572, q0_573, q0_574, q0_575] at e
  obtain ⟨y1, a1, b1⟩ := e
  obtain ⟨w1, v1, H1, rfl, g1⟩ := gh_r (C := tc_567) (tm_ok _ tm_m567) hI hw rfl (by decide) rfl rfl rfl a1 (And.intro (fun _ => rfl) (And.intro (fun _ => gh_i _) (And.intro (fun _ => gh_i _) (And.intro (fun _ => gh_i _) (And.intro (fun _ => gh_i _) (And.intro (fun _ => rfl) (And.intro (fun h => absurd h (by decide)) trivial)))))))
  simp only [vB_r, vB_d, Nat.reduceAdd, q0_578, q0_580, q0_581, q0_582, q0_584, q0_585, q0_586, q0_587, q0_588, q0_590, q0_591, q0_592, q0_593, q0_594, q0_596, q0_597, q0_598, q0_599, q0_600, q0_602, q0_603, q0_604, q0_605] at b1
  obtain ⟨y2, a2, b2⟩ := b1
  obtain ⟨w2, v2, H2, rfl, g2⟩ := gh_r (C := tc_543) (tm_ok _ tm_m543) g1.1 g1.2.1 rfl (by decide) rfl rfl rfl a2 (And.intro (fun _ => rfl) (And.intro (fun _ => gh_i _) (And.intro (fun _ => gh_i _) (And.intro (fun _ => gh_i _) (And.intro (fun _ => gh_i _) trivial)))))
  simp only [vB_r, vB_d, Nat.reduceAdd, q0_608] at b2
  exact ⟨w1, v1, H1, w2, v2, H2, a1, g1, a2, g2, b2⟩

theorem lf_effects (hI : lw_I xs H) (hw : vw v H) {i : Int32} {l5 l6 : Value} (e : vE 0 648 [.ref 0, .ref 2, .ref 64, .ref 93, .int i, l5, l6] [] v x) : ∃ (w1 : Int32) (v1 : vm_V) (H1 : am_H) (w2 : Int32) (v2 : vm_V) (H2 : am_H), vE 128 0 [.ref 2, .int (v.1 0 (i + 1).toNatClampNeg), .int (v.1 0 (i + 2).toNatClampNeg), .ref 93, .retAddr 0] [] v (vr w1 v1) ∧ (lw_I xs H1 ∧ vw v1 H1 ∧ ty_un [19, 21, 22, 23, 24, 25, 26, 27, 28, 29, 30, 31, 32, 33, 34, 35, 36, 37, 38, 39, 40, 41, 42, 43, 44, 45, 46, 47, 48, 49, 50, 51, 52, 53, 93] H H1) ∧ vE 198 0 [.ref 64, .int (v1.1 0 (i + 1).toNatClampNeg), .int (v1.1 0 (i + 2).toNatClampNeg)] [] v1 (vr w2 v2) ∧ (lw_I xs H2 ∧ vw v2 H2 ∧ ty_un [64, 69, 70, 71, 72, 73, 74, 75, 76, 77, 78, 79, 80, 81, 82, 92] H1 H2) ∧ vE 0 806 [.ref 0, .ref 2, .ref 64, .ref 93, .int i, .int w1, .int w2] [] v2 x := by
  simp only [q0_648, q0_649, q0_650, q0_652, q0_653, q0_654, q0_655, q0_656, q0_658, q0_659, q0_660, q0_661, q0_662] at e
  obtain ⟨y1, a1, b1⟩ := e
  obtain ⟨w1, v1, H1, rfl, g1⟩ := gh_r (C := tc_568) (tm_ok _ tm_m568) hI hw rfl (by decide) rfl rfl rfl a1 (And.intro (fun _ => rfl) (And.intro (fun _ => gh_i _) (And.intro (fun _ => gh_i _) (And.intro (fun _ => rfl) (And.intro (fun h => absurd h (by decide)) trivial)))))
  simp only [vB_r, vB_d, Nat.reduceAdd, q0_665, q0_667, q0_668, q0_669, q0_671, q0_672, q0_673, q0_674, q0_675, q0_677, q0_678, q0_679, q0_680] at b1
  obtain ⟨y2, a2, b2⟩ := b1
  obtain ⟨w2, v2, H2, rfl, g2⟩ := gh_r (C := tc_544) (tm_ok _ tm_m544) g1.1 g1.2.1 rfl (by decide) rfl rfl rfl a2 (And.intro (fun _ => rfl) (And.intro (fun _ => gh_i _) (And.intro (fun _ => gh_i _) trivial)))
  simp only [vB_r, vB_d, Nat.reduceAdd, q0_683, q0_685] at b2
  exact ⟨w1, v1, H1, w2, v2, H2, a1, g1, a2, g2, b2⟩

theorem lf_run (hI : lw_I xs H) (hw : vw v H) {i : Int32} {l5 l6 : Value} (e : vE 0 688 [.ref 0, .ref 2, .ref 64, .ref 93, .int i, l5, l6] [] v x) : ∃ (w1 : Int32) (v1 : vm_V) (H1 : am_H) (w2 : Int32) (v2 : vm_V) (H2 : am_H), vE 132 0 [.ref 2, .int (v.1 0 (i + 1).toNatClampNeg), .int (v.1 0 (i + 2).toNatClampNeg), .int (v.1 0 (i + 3).toNatClampNeg), .int (v.1 0 (i + 4).toNatClampNeg), .ref 93, .retAddr 0] [] v (vr w1 v1) ∧ (lw_I xs H1 ∧ vw v1 H1 ∧ ty_un [61, 62, 63, 93] H H1) ∧ vE 199 0 [.ref 64, .int (v1.1 0 (i + 1).toNatClampNeg), .int (v1.1 0 (i + 2).toNatClampNeg), .int (v1.1 0 (i + 3).toNatClampNeg), .int (v1.1 0 (i + 4).toNatClampNeg), .retAddr 0, .retAddr 0, .retAddr 0, .retAddr 0, .retAddr 0, .retAddr 0] [] v1 (vr w2 v2) ∧ (lw_I xs H2 ∧ vw v2 H2 ∧ ty_un [64, 90, 91] H1 H2) ∧ vE 0 806 [.ref 0, .ref 2, .ref 64, .ref 93, .int i, .int w1, .int w2] [] v2 x := by
  simp only [q0_688, q0_689, q0_690, q0_692, q0_693, q0_694, q0_695, q0_696, q0_698, q0_699, q0_700, q0_701, q0_702, q0_704, q0_705, q0_706, q0_707, q0_708, q0_710, q0_711, q0_712, q0_713, q0_714] at e
  obtain ⟨y1, a1, b1⟩ := e
  obtain ⟨w1, v1, H1, rfl, g1⟩ := gh_r (C := tc_569) (tm_ok _ tm_m569) hI hw rfl (by decide) rfl rfl rfl a1 (And.intro (fun _ => rfl) (And.intro (fun _ => gh_i _) (And.intro (fun _ => gh_i _) (And.intro (fun _ => gh_i _) (And.intro (fun _ => gh_i _) (And.intro (fun _ => rfl) (And.intro (fun h => absurd h (by decide)) trivial)))))))
  simp only [vB_r, vB_d, Nat.reduceAdd, q0_717, q0_719, q0_720, q0_721, q0_723, q0_724, q0_725, q0_726, q0_727, q0_729, q0_730, q0_731, q0_732, q0_733, q0_735, q0_736, q0_737, q0_738, q0_739, q0_741, q0_742, q0_743, q0_744] at b1
  obtain ⟨y2, a2, b2⟩ := b1
  obtain ⟨w2, v2, H2, rfl, g2⟩ := gh_r (C := tc_546) (tm_ok _ tm_m546) g1.1 g1.2.1 rfl (by decide) rfl rfl rfl a2 (And.intro (fun _ => rfl) (And.intro (fun _ => gh_i _) (And.intro (fun _ => gh_i _) (And.intro (fun _ => gh_i _) (And.intro (fun _ => gh_i _) (And.intro (fun h => absurd h (by decide)) (And.intro (fun h => absurd h (by decide)) (And.intro (fun h => absurd h (by decide)) (And.intro (fun h => absurd h (by decide)) (And.intro (fun h => absurd h (by decide)) (And.intro (fun h => absurd h (by decide)) trivial)))))))))))
  simp only [vB_r, vB_d, Nat.reduceAdd, q0_747, q0_749] at b2
  exact ⟨w1, v1, H1, w2, v2, H2, a1, g1, a2, g2, b2⟩

theorem lf_returned (hI : lw_I xs H) (hw : vw v H) {i : Int32} {l5 l6 : Value} (e : vE 0 752 [.ref 0, .ref 2, .ref 64, .ref 93, .int i, l5, l6] [] v x) : ∃ (w1 : Int32) (v1 : vm_V) (H1 : am_H) (w2 : Int32) (v2 : vm_V) (H2 : am_H), vE 12 0 [.ref 2] [] v (vr w1 v1) ∧ (lw_I xs H1 ∧ vw v1 H1 ∧ ty_un [] H H1) ∧ vE 201 0 [.ref 64] [] v1 (vr w2 v2) ∧ (lw_I xs H2 ∧ vw v2 H2 ∧ ty_un [64] H1 H2) ∧ vE 0 806 [.ref 0, .ref 2, .ref 64, .ref 93, .int i, l5, l6] [] v2 x := by
  simp only [q0_752, q0_753] at e
  obtain ⟨y1, a1, b1⟩ := e
  obtain ⟨w1, v1, H1, rfl, g1⟩ := gh_r (C := tc_3) (tm_ok _ tm_m3) hI hw rfl (by decide) rfl rfl rfl a1 (And.intro (fun _ => rfl) trivial)
  simp only [vB_r, vB_d, Nat.reduceAdd, q0_756, q0_757, q0_758] at b1
  obtain ⟨y2, a2, b2⟩ := b1
  obtain ⟨w2, v2, H2, rfl, g2⟩ := gh_r (C := tc_550) (tm_ok _ tm_m550) g1.1 g1.2.1 rfl (by decide) rfl rfl rfl a2 (And.intro (fun _ => rfl) trivial)
  simp only [vB_r, vB_d, Nat.reduceAdd, q0_761, q0_762] at b2
  exact ⟨w1, v1, H1, w2, v2, H2, a1, g1, a2, g2, b2⟩

theorem lf_word (hI : lw_I xs H) (hw : vw v H) {i : Int32} {l5 l6 : Value} (e : vE 0 765 [.ref 0, .ref 2, .ref 64, .ref 93, .int i, l5, l6] [] v x) : ∃ (w1 : Int32) (v1 : vm_V) (H1 : am_H) (w2 : Int32) (v2 : vm_V) (H2 : am_H), vE 143 0 [.ref 2, .int (v.1 0 (i + 1).toNatClampNeg), .ref 93, .retAddr 0] [] v (vr w1 v1) ∧ (lw_I xs H1 ∧ vw v1 H1 ∧ ty_un [93] H H1) ∧ vE 202 0 [.ref 64, .int (v1.1 0 (i + 1).toNatClampNeg)] [] v1 (vr w2 v2) ∧ (lw_I xs H2 ∧ vw v2 H2 ∧ ty_un [64] H1 H2) ∧ vE 0 806 [.ref 0, .ref 2, .ref 64, .ref 93, .int i, .int w1, .int w2] [] v2 x := by
  simp only [q0_765, q0_766, q0_767, q0_769, q0_770, q0_771, q0_772, q0_773] at e
  obtain ⟨y1, a1, b1⟩ := e
  obtain ⟨w1, v1, H1, rfl, g1⟩ := gh_r (C := tc_570) (tm_ok _ tm_m570) hI hw rfl (by decide) rfl rfl rfl a1 (And.intro (fun _ => rfl) (And.intro (fun _ => gh_i _) (And.intro (fun _ => rfl) (And.intro (fun h => absurd h (by decide)) trivial))))
  simp only [vB_r, vB_d, Nat.reduceAdd, q0_776, q0_778, q0_779, q0_780, q0_782, q0_783, q0_784, q0_785] at b1
  obtain ⟨y2, a2, b2⟩ := b1
  obtain ⟨w2, v2, H2, rfl, g2⟩ := gh_r (C := tc_551) (tm_ok _ tm_m551) g1.1 g1.2.1 rfl (by decide) rfl rfl rfl a2 (And.intro (fun _ => rfl) (And.intro (fun _ => gh_i _) trivial))
  simp only [vB_r, vB_d, Nat.reduceAdd, q0_788, q0_790] at b2
  exact ⟨w1, v1, H1, w2, v2, H2, a1, g1, a2, g2, b2⟩

theorem lf_steps (hI : lw_I xs H) (hw : vw v H) {i : Int32} {l5 l6 : Value} (e : vE 0 793 [.ref 0, .ref 2, .ref 64, .ref 93, .int i, l5, l6] [] v x) : ∃ (w1 : Int32) (v1 : vm_V) (H1 : am_H) (w2 : Int32) (v2 : vm_V) (H2 : am_H), vE 14 0 [.ref 2] [] v (vr w1 v1) ∧ (lw_I xs H1 ∧ vw v1 H1 ∧ ty_un [] H H1) ∧ vE 203 0 [.ref 64] [] v1 (vr w2 v2) ∧ (lw_I xs H2 ∧ vw v2 H2 ∧ ty_un [64] H1 H2) ∧ vE 0 806 [.ref 0, .ref 2, .ref 64, .ref 93, .int i, l5, l6] [] v2 x := by
  simp only [q0_793, q0_794] at e
  obtain ⟨y1, a1, b1⟩ := e
  obtain ⟨w1, v1, H1, rfl, g1⟩ := gh_r (C := tc_5) (tm_ok _ tm_m5) hI hw rfl (by decide) rfl rfl rfl a1 (And.intro (fun _ => rfl) trivial)
  simp only [vB_r, vB_d, Nat.reduceAdd, q0_797, q0_798, q0_799] at b1
  obtain ⟨y2, a2, b2⟩ := b1
  obtain ⟨w2, v2, H2, rfl, g2⟩ := gh_r (C := tc_552) (tm_ok _ tm_m552) g1.1 g1.2.1 rfl (by decide) rfl rfl rfl a2 (And.intro (fun _ => rfl) trivial)
  simp only [vB_r, vB_d, Nat.reduceAdd, q0_802, q0_803] at b2
  exact ⟨w1, v1, H1, w2, v2, H2, a1, g1, a2, g2, b2⟩

theorem gh_neg {a : Int32} (h : a < 0) : ty_vok (0, -2147483648, -1) (.int a) := by
  have nb := ty_nb_full (σ := fun _ => a) 0 a
  exact ⟨a, rfl, nb.1, by have := Int32.lt_iff_toInt_lt.mp h; have e : (0 : Int32).toInt = 0 := rfl; show a.toInt ≤ -1; omega⟩
theorem gh_01 {a : Int32} (h : ¬ a < 0) (h2 : a < 2) : ty_vok (0, 0, 1) (.int a) := by
  exact ⟨a, rfl, by have := Int32.le_iff_toInt_le.mp (Int32.not_lt.mp h); have e : (0 : Int32).toInt = 0 := rfl; show 0 ≤ a.toInt; omega, by have := Int32.lt_iff_toInt_lt.mp h2; have e : (2 : Int32).toInt = 2 := rfl; show a.toInt ≤ 1; omega⟩
theorem gh_big {a : Int32} (h2 : ¬ a < 2) : ty_vok (0, 2, 2147483647) (.int a) := by
  have nb := ty_nb_full (σ := fun _ => a) 0 a
  exact ⟨a, rfl, by have := Int32.le_iff_toInt_le.mp (Int32.not_lt.mp h2); have e : (2 : Int32).toInt = 2 := rfl; show 2 ≤ a.toInt; omega, nb.2.1⟩
theorem gh_w1 (hI : lw_I xs H) (hw : vw v H) {a : Int32} {y : vm_Y} (e : vE 38 0 [.ref 2, .int a, .retAddr 0] [] v y) : ∃ (w1 : Int32) (v1 : vm_V) (H1 : am_H), y = vr w1 v1 ∧ lw_I xs H1 ∧ vw v1 H1 ∧ ty_un [2, 3, 7] H H1 := by
  have mo : ∀ {A B : am_H}, ty_un [] A B → ty_un [2, 3, 7] A B := fun h p _ x hx => h p List.not_mem_nil x hx
  by_cases h0 : a < 0
  · obtain ⟨w, v1, H1, e1, e2, e3, e4⟩ := gh_r (C := tc_554) (tm_ok _ tm_m554) hI hw rfl (by decide) rfl rfl rfl e (And.intro (fun _ => rfl) (And.intro (fun _ => gh_neg h0) (And.intro (fun h => absurd h (by decide)) trivial)))
    exact ⟨w, v1, H1, e1, e2, e3, mo e4⟩
  · by_cases h2 : a < 2
    · exact gh_r (C := tc_556) (tm_ok _ tm_m556) hI hw rfl (by decide) rfl rfl rfl e (And.intro (fun _ => rfl) (And.intro (fun _ => gh_01 h0 h2) (And.intro (fun h => absurd h (by decide)) trivial)))
    · obtain ⟨w, v1, H1, e1, e2, e3, e4⟩ := gh_r (C := tc_558) (tm_ok _ tm_m558) hI hw rfl (by decide) rfl rfl rfl e (And.intro (fun _ => rfl) (And.intro (fun _ => gh_big h2) (And.intro (fun h => absurd h (by decide)) trivial)))
      exact ⟨w, v1, H1, e1, e2, e3, mo e4⟩
theorem gh_w2 (hI : lw_I xs H) (hw : vw v H) {a : Int32} {y : vm_Y} (e : vE 159 0 [.ref 64, .int a] [] v y) : ∃ (v1 : vm_V) (H1 : am_H), y = vd v1 ∧ lw_I xs H1 ∧ vw v1 H1 ∧ ty_un [64, 65] H H1 := by
  have mo : ∀ {A B : am_H}, ty_un [64] A B → ty_un [64, 65] A B := fun h p hp x hx => h p (fun q => hp (by rw [List.mem_singleton] at q; rw [q]; exact List.mem_cons_self)) x hx
  by_cases h0 : a < 0
  · obtain ⟨v1, H1, e1, e2, e3, e4⟩ := gh_v (C := tc_553) (tm_ok _ tm_m553) hI hw rfl (by decide) rfl rfl rfl e (And.intro (fun _ => rfl) (And.intro (fun _ => gh_neg h0) trivial))
    exact ⟨v1, H1, e1, e2, e3, mo e4⟩
  · by_cases h2 : a < 2
    · exact gh_v (C := tc_555) (tm_ok _ tm_m555) hI hw rfl (by decide) rfl rfl rfl e (And.intro (fun _ => rfl) (And.intro (fun _ => gh_01 h0 h2) trivial))
    · obtain ⟨v1, H1, e1, e2, e3, e4⟩ := gh_v (C := tc_557) (tm_ok _ tm_m557) hI hw rfl (by decide) rfl rfl rfl e (And.intro (fun _ => rfl) (And.intro (fun _ => gh_big h2) trivial))
      exact ⟨v1, H1, e1, e2, e3, mo e4⟩
theorem lf_wipe (hI : lw_I xs H) (hw : vw v H) {i : Int32} {l5 l6 : Value} (e : vE 0 325 [.ref 0, .ref 2, .ref 64, .ref 93, .int i, l5, l6] [] v x) : ∃ (w1 : Int32) (v1 : vm_V) (H1 : am_H) (v2 : vm_V) (H2 : am_H), vE 38 0 [.ref 2, .int (v.1 0 (i + 1).toNatClampNeg), .retAddr 0] [] v (vr w1 v1) ∧ (lw_I xs H1 ∧ vw v1 H1 ∧ ty_un [2, 3, 7] H H1) ∧ vE 159 0 [.ref 64, .int (v1.1 0 (i + 1).toNatClampNeg)] [] v1 (vd v2) ∧ (lw_I xs H2 ∧ vw v2 H2 ∧ ty_un [64, 65] H1 H2) ∧ vE 0 806 [.ref 0, .ref 2, .ref 64, .ref 93, .int i, .int w1, l6] [] v2 x := by
  simp only [q0_325, q0_326, q0_327, q0_329, q0_330, q0_331, q0_332] at e
  obtain ⟨y1, a1, b1⟩ := e
  obtain ⟨w1, v1, H1, rfl, g1⟩ := gh_w1 hI hw a1
  simp only [vB_r, vB_d, Nat.reduceAdd, q0_335, q0_337, q0_338, q0_339, q0_341, q0_342, q0_343, q0_344] at b1
  obtain ⟨y2, a2, b2⟩ := b1
  obtain ⟨v2, H2, rfl, g2⟩ := gh_w2 g1.1 g1.2.1 a2
  simp only [vB_r, vB_d, Nat.reduceAdd, q0_347] at b2
  exact ⟨w1, v1, H1, v2, H2, a1, g1, a2, g2, b2⟩

end LFA
