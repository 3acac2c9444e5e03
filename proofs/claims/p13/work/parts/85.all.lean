/-! THE FACTS, ALL TOLD -/
theorem am_decl : ∀ (ci k : Nat) (C : String) (T : u_T) (N : Nat), am_cl[ci]? = some (C, T, N) → (T k).2.2.2 = true → (T k).1 = C ∧ am_on ci = C
  | 0, k, _, _, _, h => by cases h; exact fun hk => ⟨am_dec0 k hk, by decide +kernel⟩
  | 1, k, _, _, _, h => by cases h; exact fun hk => ⟨am_dec1 k hk, by decide +kernel⟩
  | 2, k, _, _, _, h => by cases h; exact fun hk => ⟨am_dec2 k hk, by decide +kernel⟩
  | 3, k, _, _, _, h => by cases h; exact fun hk => ⟨am_dec3 k hk, by decide +kernel⟩
  | 4, k, _, _, _, h => by cases h; exact fun hk => ⟨am_dec4 k hk, by decide +kernel⟩
  | 5, k, _, _, _, h => by cases h; exact fun hk => ⟨am_dec5 k hk, by decide +kernel⟩
  | 6, k, _, _, _, h => by cases h; exact fun hk => ⟨am_dec6 k hk, by decide +kernel⟩
  | 7, k, _, _, _, h => by cases h; exact fun hk => ⟨am_dec7 k hk, by decide +kernel⟩
  | 8, k, _, _, _, h => by cases h; exact fun hk => ⟨am_dec8 k hk, by decide +kernel⟩
  | 9, k, _, _, _, h => by cases h; exact fun hk => ⟨am_dec9 k hk, by decide +kernel⟩
  | 10, k, _, _, _, h => by cases h; exact fun hk => by cases hk
  | 11, k, _, _, _, h => by cases h; exact fun hk => by cases hk
  | 12, k, _, _, _, h => by cases h; exact fun hk => by cases hk
  | 13, k, _, _, _, h => by cases h; exact fun hk => by cases hk
  | n + 14, k, _, _, _, h => by simp [am_cl] at h
theorem am_fn_all (mid ci k : Nat) : am_fnok mid ci k := by
  intro C T N hc hf
  have hff : am_ff ci k = (T k).2.2.2 := by
    unfold am_ff
    rw [List.getD_eq_getElem?_getD, hc]
    rfl
  cases ht : (T k).2.2.2 with
  | false => exact Or.inl rfl
  | true =>
    right
    unfold am_fin at hf
    rw [hff, ht] at hf
    simp only [Bool.not_true, Bool.false_or, Bool.and_eq_true] at hf
    have h1 := Nat.eq_of_beq_eq_true hf.1
    have h2 := Nat.eq_of_beq_eq_true hf.2
    obtain ⟨d1, d2⟩ := am_decl ci k C T N hc ht
    have h3 := (am_mok_all mid).2.2.2.2
    refine ⟨rfl, (am_pall mid).2.2.1 h1, ?_⟩
    rw [h3, h2, d2]
    exact d1
theorem am_not_all : ∀ X Y : Nat, 10 ≤ X → X < 14 → 10 ≤ Y → Y < 14 → X ≠ Y → ∀ rX rY : vw_C, am_cl[X]? = some rX → am_cl[Y]? = some rY → Cond.not (.castable rX.1 rY.1) ∈ am_tbl := by
  intro X Y a1 a2 b1 b2 hne rX rY hX hY
  rcases (show X = 10 ∨ X = 11 ∨ X = 12 ∨ X = 13 by omega) with rfl | rfl | rfl | rfl <;> rcases (show Y = 10 ∨ Y = 11 ∨ Y = 12 ∨ Y = 13 by omega) with rfl | rfl | rfl | rfl <;> first | exact absurd rfl hne | (cases hX; cases hY; decide +kernel)
theorem am_cast_all : ∀ X : Nat, 10 ≤ X → X < 14 → ∀ rX : vw_C, am_cl[X]? = some rX → Cond.castable rX.1 rX.1 ∈ am_tbl ∧ rX.2.2 = 0 ∧ am_aty X = none := by
  intro X a1 a2 rX hX
  rcases (show X = 10 ∨ X = 11 ∨ X = 12 ∨ X = 13 by omega) with rfl | rfl | rfl | rfl <;> (cases hX; exact ⟨by decide +kernel, rfl, rfl⟩)
theorem am_ma_all (oc x : Nat) (h : am_ma oc x = true) : Cond.classLink (am_on oc) x "[[I" ∈ am_tbl := by
  unfold am_ma at h
  simp only [Bool.and_eq_true] at h
  obtain rfl := Nat.eq_of_beq_eq_true h.1
  obtain rfl := Nat.eq_of_beq_eq_true h.2
  decide +kernel
theorem am_ps_all (oc x q : Nat) (h : am_ps oc x = some q) : q = 1 ∧ Cond.fieldLink (am_on oc) x "PassChecker$Orderer" "TAKES" "[I" ∈ am_tbl := by
  unfold am_ps at h
  split at h
  · rename_i hq
    simp only [Bool.and_eq_true] at hq
    obtain rfl := Nat.eq_of_beq_eq_true hq.1
    obtain rfl := Nat.eq_of_beq_eq_true hq.2
    cases h
    exact ⟨rfl, by decide +kernel⟩
  · cases h
theorem am_facts : am_Fc := by
  refine ⟨fun mid => (am_pall mid).1, am_pf_all, am_fn_all, am_pc_all, am_ma_all, am_pm_all, ?_, am_not_all, am_cast_all, am_ps_all⟩
  intro mid pc x X it ic h1 h2 h3 h4
  obtain ⟨e1, e2⟩ := (am_pall mid).2.2.2 pc x X it ic h1 h2 h3 h4
  have e3 := (am_mok_all mid).2.2.2.2
  have e4 : (am_y mid).cls = "PassChecker" := by
    rw [e3]
    show am_on (am_oc mid) = _
    rw [show am_oc mid = 0 from e1]
    decide +kernel
  obtain ⟨Xn, tx, g1, g2⟩ := am_sites_ok _ e2
  exact ⟨Xn, tx, by rw [e4]; exact g1, g2⟩
