/-! BOUNDS: what the refinements and the reckonings say -/
section TYA
variable {σ : Nat → Int32}
theorem ty_leq {a b : Int} : ty_le a b = true ↔ a ≤ b := by simp [ty_le]
/-- a value that has bounds is an int within them -/
theorem ty_bd_ok {iv : List ty_B} (hiv : ty_ivok iv σ) {v : Value} {l u : Int} (h : ty_bd iv v = some (l, u)) : ∃ x : Int32, sx_v σ v = .int x ∧ l ≤ x.toInt ∧ x.toInt ≤ u := by
  match v, h with
  | .int x, h =>
    simp only [ty_bd, Option.some.injEq, Prod.mk.injEq] at h
    exact ⟨x, rfl, by omega, by omega⟩
  | .retAddr (k + 1), h =>
    simp only [ty_bd] at h
    split at h
    · rename_i b hb
      simp only [Option.some.injEq, Prod.mk.injEq] at h
      have := hiv k b hb
      exact ⟨σ k, rfl, by rw [← h.1]; exact this.1, by rw [← h.2]; exact this.2.1⟩
    · cases h
theorem ty_res_ok {iv : List ty_B} (h : ty_ivok iv σ) {v : Value} {x : Int32} (hv : sx_v σ v = .int x) (hr : ty_res iv v < 4) : x.toInt % 4 = (ty_res iv v : Int) := by
  match v, hv, hr with
  | .int y, hv, hr =>
    cases hv
    show x.toInt % 4 = ((x.toInt % 4).toNat : Int)
    omega
  | .retAddr (k + 1), hv, hr =>
    cases hv
    simp only [ty_res] at hr ⊢
    cases hb : iv[k]? with
    | none => rw [hb] at hr; exact absurd hr (by decide)
    | some b =>
      rw [hb] at hr
      exact (h k b hb).2.2.2 hr
theorem ty_32_ok {l u : Int} (h : ty_32 l u = true) : -2147483648 ≤ l ∧ u ≤ 2147483647 := by
  simpa [ty_32, ty_leq] using h
theorem ty_fit_ok {iv : List ty_B} (hiv : ty_ivok iv σ) {s : ty_V} {v : Value} (h : ty_fit iv s v = true) : ty_vok s (sx_v σ v) := by
  unfold ty_fit at h
  unfold ty_vok
  split at h
  · rename_i hs
    split at h
    · rename_i l u hb
      obtain ⟨x, h1, h2, h3⟩ := ty_bd_ok hiv hb
      simp only [Bool.and_eq_true, ty_leq] at h
      exact ⟨x, h1, by omega, by omega⟩
    · cases h
  · rename_i hs
    split at h
    · rename_i p
      exact congrArg Value.ref (Nat.eq_of_beq_eq_true h)
    · cases h
  · rename_i hs
    split at h
    · rename_i x
      exact ⟨x, rfl⟩
    · cases h
  · cases h
  · rename_i hs
    split at h
    · rename_i l u hb
      obtain ⟨x, h1, h2, h3⟩ := ty_bd_ok hiv hb
      simp only [Bool.and_eq_true, ty_leq] at h
      have hr := Nat.eq_of_beq_eq_true h.2.2
      have h4 := ty_res_ok hiv h1 (by rw [hr]; decide)
      rw [hr] at h4
      exact ⟨x, h1, by omega, by omega, h4⟩
    · cases h
  · rename_i hs
    split at h
    · rename_i l u hb
      obtain ⟨x, h1, h2, h3⟩ := ty_bd_ok hiv hb
      simp only [Bool.and_eq_true, ty_leq] at h
      have h4 := ty_32_ok h.2.2
      have e : x = Int32.ofInt s.2.1 := by
        rw [show s.2.1 = x.toInt by omega, Int32.ofInt_toInt]
      show sx_v σ v = .int (Int32.ofInt s.2.1)
      rw [h1, e]
    · cases h
  · trivial
theorem ty_ivok_set {iv : List ty_B} (hiv : ty_ivok iv σ) {k : Nat} {b : ty_B} (hb : ty_bok σ k b) : ty_ivok (iv.set k b) σ := by
  intro j e hj
  by_cases q : k = j
  · subst q
    by_cases hl : k < iv.length
    · rw [List.getElem?_set_self hl] at hj
      cases hj
      exact hb
    · rw [List.getElem?_eq_none (by simp; omega)] at hj
      cases hj
  · rw [List.getElem?_set_ne q] at hj
    exact hiv j e hj
theorem ty_hi_ok {iv : List ty_B} (hiv : ty_ivok iv σ) {v : Value} {m : Int} {x : Int32} (hv : sx_v σ v = .int x) (hx : x.toInt ≤ m) : ∃ w, ty_hi iv v m = some w ∧ ty_ivok w σ := by
  match v, hv with
  | .int y, hv =>
    cases hv
    exact ⟨iv, by simp only [ty_hi]; rw [if_pos (ty_leq.mpr hx)], hiv⟩
  | .retAddr (k + 1), hv =>
    cases hv
    simp only [ty_hi]
    cases hk : iv[k]? with
    | none => exact ⟨iv, rfl, hiv⟩
    | some b =>
      have hb := hiv k b hk
      dsimp only
      split
      · exact ⟨iv, rfl, hiv⟩
      · have h1 : b.1 ≤ m := by have := hb.1; omega
        rw [if_pos (ty_leq.mpr h1)]
        exact ⟨_, rfl, ty_ivok_set hiv ⟨hb.1, hx, hb.2.2⟩⟩
theorem ty_lo_ok {iv : List ty_B} (hiv : ty_ivok iv σ) {v : Value} {m : Int} {x : Int32} (hv : sx_v σ v = .int x) (hx : m ≤ x.toInt) : ∃ w, ty_lo iv v m = some w ∧ ty_ivok w σ := by
  match v, hv with
  | .int y, hv =>
    cases hv
    exact ⟨iv, by simp only [ty_lo]; rw [if_pos (ty_leq.mpr hx)], hiv⟩
  | .retAddr (k + 1), hv =>
    cases hv
    simp only [ty_lo]
    cases hk : iv[k]? with
    | none => exact ⟨iv, rfl, hiv⟩
    | some b =>
      have hb := hiv k b hk
      dsimp only
      split
      · exact ⟨iv, rfl, hiv⟩
      · have h1 : m ≤ b.2.1 := by have := hb.2.1; omega
        rw [if_pos (ty_leq.mpr h1)]
        exact ⟨_, rfl, ty_ivok_set hiv ⟨hx, hb.2.1, hb.2.2⟩⟩
/-- where the condition holds, one of the bounds holds -/
theorem ty_rf_ok {iv : List ty_B} (hiv : ty_ivok iv σ) {c : Jvm.ClassFile.Cond} {v w : Value} {x y : Int32} (hv : sx_v σ v = .int x) (hw : sx_v σ w = .int y) (hc : sx_rel c x y) : ∃ iv' ∈ ty_rf iv c v w, ty_ivok iv' σ := by
  unfold ty_rf
  cases h1 : ty_bd iv v with
  | none => exact ⟨iv, List.mem_singleton.mpr rfl, hiv⟩
  | some b1 =>
    obtain ⟨l1, u1⟩ := b1
    dsimp only
    cases h2 : ty_bd iv w with
    | none => exact ⟨iv, List.mem_singleton.mpr rfl, hiv⟩
    | some b2 =>
      obtain ⟨l2, u2⟩ := b2
      dsimp only
      obtain ⟨x', e1, a1, a2⟩ := ty_bd_ok hiv h1
      obtain ⟨y', e2, a3, a4⟩ := ty_bd_ok hiv h2
      obtain rfl : x' = x := by rw [hv] at e1; cases e1; rfl
      obtain rfl : y' = y := by rw [hw] at e2; cases e2; rfl
      cases c <;> simp only [sx_rel, Int32.lt_iff_toInt_lt, Int32.le_iff_toInt_le] at hc <;> dsimp only
      · -- eq
        subst hc
        obtain ⟨w1, q1, o1⟩ := ty_lo_ok hiv hv (m := l2) (by omega)
        obtain ⟨w2, q2, o2⟩ := ty_hi_ok o1 hv (m := u2) (by omega)
        obtain ⟨w3, q3, o3⟩ := ty_lo_ok o2 hw (m := l1) (by omega)
        obtain ⟨w4, q4, o4⟩ := ty_hi_ok o3 hw (m := u1) (by omega)
        exact ⟨w4, by simp [ty_and, q1, q2, q3, q4], o4⟩
      · -- ne
        have hne : x'.toInt ≠ y'.toInt := fun q => hc (Int32.toInt_inj.mp q)
        split
        · by_cases hz : x'.toInt ≤ l2 - 1
          · obtain ⟨w1, q1, o1⟩ := ty_hi_ok hiv hv hz
            exact ⟨w1, by simp [q1], o1⟩
          · obtain ⟨w1, q1, o1⟩ := ty_lo_ok hiv hv (m := l2 + 1) (by omega)
            exact ⟨w1, by simp [q1], o1⟩
        · split
          · by_cases hz : y'.toInt ≤ l1 - 1
            · obtain ⟨w1, q1, o1⟩ := ty_hi_ok hiv hw hz
              exact ⟨w1, by simp [q1], o1⟩
            · obtain ⟨w1, q1, o1⟩ := ty_lo_ok hiv hw (m := l1 + 1) (by omega)
              exact ⟨w1, by simp [q1], o1⟩
          · exact ⟨iv, List.mem_singleton.mpr rfl, hiv⟩
      · -- lt
        obtain ⟨w1, q1, o1⟩ := ty_hi_ok hiv hv (m := u2 - 1) (by omega)
        obtain ⟨w2, q2, o2⟩ := ty_lo_ok o1 hw (m := l1 + 1) (by omega)
        exact ⟨w2, by simp [ty_and, q1, q2], o2⟩
      · -- ge
        obtain ⟨w1, q1, o1⟩ := ty_lo_ok hiv hv (m := l2) (by omega)
        obtain ⟨w2, q2, o2⟩ := ty_hi_ok o1 hw (m := u1) (by omega)
        exact ⟨w2, by simp [ty_and, q1, q2], o2⟩
      · -- gt
        obtain ⟨w1, q1, o1⟩ := ty_lo_ok hiv hv (m := l2 + 1) (by omega)
        obtain ⟨w2, q2, o2⟩ := ty_hi_ok o1 hw (m := u1 - 1) (by omega)
        exact ⟨w2, by simp [ty_and, q1, q2], o2⟩
      · -- le
        obtain ⟨w1, q1, o1⟩ := ty_hi_ok hiv hv (m := u2) (by omega)
        obtain ⟨w2, q2, o2⟩ := ty_lo_ok o1 hw (m := l1) (by omega)
        exact ⟨w2, by simp [ty_and, q1, q2], o2⟩
theorem ty_neg_ok {c : Jvm.ClassFile.Cond} {x y : Int32} : ¬ sx_rel c x y ↔ sx_rel (ty_neg c) x y := by
  cases c <;> simp only [sx_rel, ty_neg, Int32.lt_iff_toInt_lt, Int32.le_iff_toInt_le, Int.not_lt, Int.not_le, Classical.not_not]
end TYA
