/-! put: its five contracts -/
section HPB
theorem hp_c (c : Int) (x : Int32) (h : ty_vok (7, c, 0) (.int x)) : x = Int32.ofInt c := by
  cases h
  rfl
theorem hp_t222 : ∀ (d : Nat × Nat) (L : List Value) (h : am_H), ty_ar0 tc_g tc_222 d L h → ty_vd tc_g tc_222 d L h := hp_ok (C := tc_222) (by decide) rfl rfl rfl rfl rfl rfl rfl (s0 := (0, 2, 7)) (s3 := (0, 0, 5)) (by decide +kernel) (fun x h => by
  obtain ⟨y, e, h1, h2⟩ := h
  cases e
  dsimp only at h1 h2
  exact ⟨x, rfl, by show (0 : Int) ≤ _; omega, by show _ ≤ (9 : Int); omega⟩) (fun _ _ _ h => Or.inr h)
theorem hp_t223 : ∀ (d : Nat × Nat) (L : List Value) (h : am_H), ty_ar0 tc_g tc_223 d L h → ty_vd tc_g tc_223 d L h := hp_ok (C := tc_223) (by decide) rfl rfl rfl rfl rfl rfl rfl (s0 := (7, 8, 0)) (s3 := (0, 0, 5)) (by decide +kernel) (fun x h => by
  rw [hp_c 8 x h]
  exact ⟨_, rfl, by decide, by decide⟩) (fun _ _ _ h => Or.inr h)
theorem hp_t224 : ∀ (d : Nat × Nat) (L : List Value) (h : am_H), ty_ar0 tc_g tc_224 d L h → ty_vd tc_g tc_224 d L h := hp_ok (C := tc_224) (by decide) rfl rfl rfl rfl rfl rfl rfl (s0 := (7, 1, 0)) (s3 := (0, 0, 5)) (by decide +kernel) (fun x h => by
  rw [hp_c 1 x h]
  exact ⟨_, rfl, by decide, by decide⟩) (fun _ _ _ h => Or.inr h)
theorem hp_t225 : ∀ (d : Nat × Nat) (L : List Value) (h : am_H), ty_ar0 tc_g tc_225 d L h → ty_vd tc_g tc_225 d L h := hp_ok (C := tc_225) (by decide) rfl rfl rfl rfl rfl rfl rfl (s0 := (7, 0, 0)) (s3 := (0, -2147483648, 2147483647)) (by decide +kernel) (fun x h => by
  rw [hp_c 0 x h]
  exact ⟨_, rfl, by decide, by decide⟩) (fun x _ h _ => Or.inl (hp_c 0 x h))
theorem hp_t226 : ∀ (d : Nat × Nat) (L : List Value) (h : am_H), ty_ar0 tc_g tc_226 d L h → ty_vd tc_g tc_226 d L h := hp_ok (C := tc_226) (by decide) rfl rfl rfl rfl rfl rfl rfl (s0 := (7, 9, 0)) (s3 := (0, 0, 5)) (by decide +kernel) (fun x h => by
  rw [hp_c 9 x h]
  exact ⟨_, rfl, by decide, by decide⟩) (fun _ _ _ h => Or.inr h)
end HPB
