/-! Arrays.fill; the machine's begin; its loop -/
section DJ
variable {x : vm_Y} {v : vm_V}
def v_fl (p : Nat) (z : Int32) : Nat → Nat → vm_V → vm_V
  | 0, _, v => v
  | k + 1, i, v => v_fl p z k (i + 1) (vm_si v p i z)
theorem v_fl1 {p : Nat} {z : Int32} {q j : Nat} : ∀ (k i : Nat) (v : vm_V), (v_fl p z k i v).1 q j = if q = p ∧ i ≤ j ∧ j < i + k then z else v.1 q j
  | 0, i, v => by
    unfold v_fl
    rw [if_neg (by omega)]
  | k + 1, i, v => by
    unfold v_fl
    rw [v_fl1 k (i + 1), vm_si1b]
    by_cases e : q = p
    · by_cases h : i + 1 ≤ j ∧ j < i + 1 + k
      · rw [if_pos ⟨e, h⟩, if_pos ⟨e, by omega⟩]
      · rw [if_neg (fun y => h y.2)]
        by_cases h2 : j = i
        · rw [if_pos ⟨e, h2⟩, if_pos ⟨e, by omega⟩]
        · rw [if_neg (fun y => h2 y.2), if_neg (fun y => by omega)]
    · rw [if_neg (fun y => e y.1), if_neg (fun y => e y.1), if_neg (fun y => e y.1)]
theorem v_fl2 {p : Nat} {z : Int32} : ∀ (k i : Nat) (v : vm_V), (v_fl p z k i v).2 = v.2
  | 0, _, _ => rfl
  | k + 1, i, v => by
    unfold v_fl
    rw [v_fl2 k]
    rfl
theorem lp80 {p n : Nat} {z : Int32} (hn : n < 1000) : ∀ (k i : Nat) (v : vm_V), i + k = n → (vE 80 5 [.ref p, .int z, .int (Int32.ofNat i), .int (Int32.ofNat n)] [] v x ↔ x = vd (v_fl p z k i v))
  | 0, i, v, h => by
    have e : i = n := by omega
    subst e
    simp only [q80_5, q80_6, q80_7]
    rw [if_pos (Int32.le_refl _)]
    simp only [q80_20]
    rfl
  | k + 1, i, v, h => by
    rw [show v_fl p z (k + 1) i v = v_fl p z k (i + 1) (vm_si v p i z) from rfl, q80_5]
    simp only [q80_6, q80_7]
    rw [if_neg (nl (by omega) (by omega) (by omega))]
    simp only [q80_10, q80_11, q80_12, q80_13, q80_14, q80_17, nn_s]
    rw [nn_nat (by omega)]
    exact lp80 hn k (i + 1) _ (by omega)
theorem ct80 {p n : Nat} {z : Int32} (hl : v.2.2.2 p = n) (hn : n < 1000) : vE 80 0 [.ref p, .int z, .retAddr 0, .retAddr 0] [] v x ↔ x = vd (v_fl p z n 0 v) := by
  simp only [q80_0, q80_1, q80_2, q80_3, q80_4, hl]
  exact lp80 hn n 0 v (Nat.zero_add n)
def c_begin (v : vm_V) (f s : Int32) : vm_V := vm_si (vm_si (vm_si (vm_si (c_mput (c_mput (v_fl 63 0 8 0 (v_fl 62 0 6 0 v)) 0 f) 1 s) 61 2 0) 61 3 0) 61 4 0) 61 5 0
theorem ct135 {f s : Int32} (h62 : v.2.2.2 62 = 6) (h63 : v.2.2.2 63 = 8) : vE 135 0 [.ref 61, .int f, .int s] [] v x ↔ x = vd (c_begin v f s) := by
  have h2 : (v_fl 62 0 6 0 v).2.2.2 63 = 8 := by
    rw [v_fl2]
    exact h63
  simp only [q135_0, q135_1, q135_4, q135_5, Nat.reduceAdd, ct80 h62 (by omega), exists_eq_left, vB_d, q135_8, q135_9, q135_12, q135_13, ct80 h2 (by omega), q135_16, q135_17, q135_18, q135_19, ct136, q135_22, q135_23, q135_24, q135_25, q135_28, q135_29, q135_30, q135_33, q135_34, q135_35, q135_38, q135_39, q135_40, q135_43, q135_44, q135_45, q135_48, c_begin]
theorem dc_r {p : Nat} : ∃ (a : Int32) (v' : vm_V), c_doCode v p = vr a v' := by
  generalize hY : c_doCode v p = Y
  unfold c_doCode at hY
  repeat' split at hY
  all_goals
    subst hY
    exact ⟨_, _, rfl⟩
theorem de_r {p : Nat} : ∃ (a : Int32) (v' : vm_V), c_doEnd v p = vr a v' := by
  unfold c_doEnd
  by_cases h : c_endAt v p (v.1 61 2) 0 = 2
  · rw [if_pos h]
    exact ⟨_, _, rfl⟩
  · rw [if_neg h]
    exact ⟨_, _, rfl⟩
def c_stp (v : vm_V) (p : Nat) : vm_Y := if c_lengthOf v p (v.1 61 2) ≤ v.1 61 3 then c_doEnd v p else c_doCode v p
def exR (p : Nat) : Nat → Int32 → vm_V → vm_Y
  | 0, st, v => vr st v
  | k + 1, st, v => if st = 0 then match c_stp v p with
      | (.inl (some (.int a)), v') => exR p k a v'
      | y => y
    else vr st v
theorem lp134 {p lim : Nat} {l2 l3 : Value} (hl : lim < 1000) : ∀ (k i : Nat) (st : Int32) (v : vm_V), i + k = lim → (vE 134 12 [.ref 61, .ref p, l2, l3, .int (Int32.ofNat lim), .int st, .int (Int32.ofNat i)] [] v x ↔ x = exR p k st v)
  | 0, i, st, v, h => by
    have e : i = lim := by omega
    subst e
    rw [q134_12]
    simp only [q134_14, q134_16]
    rw [if_pos (Int32.le_refl _)]
    simp only [q134_60, q134_62]
    rfl
  | k + 1, i, st, v, h => by
    rw [q134_12]
    simp only [q134_14, q134_16]
    rw [if_neg (nl (by omega) (by omega) (by omega))]
    simp only [q134_19, q134_21]
    by_cases s0 : st = 0
    · rw [if_pos s0, show exR p (k + 1) st v = (match c_stp v p with
        | (.inl (some (.int a)), v') => exR p k a v'
        | y => y) from if_pos s0]
      simp only [q134_24, q134_25, q134_28, q134_29, q134_30, q134_33, ct31, exists_eq_left, vB_r, Nat.reduceAdd, q134_36]
      by_cases q : c_lengthOf v p (v.1 61 2) ≤ v.1 61 3
      · obtain ⟨a, v', e⟩ := de_r (v := v) (p := p)
        rw [if_pos q, show c_stp v p = vr a v' from (if_pos q).trans e]
        simp only [q134_47, q134_48, q134_49, ct142, exists_eq_left, e, vB_r, Nat.reduceAdd, q134_52, q134_54, q134_57, nn_s]
        exact lp134 hl k (i + 1) a v' (by omega)
      · obtain ⟨a, v', e⟩ := dc_r (v := v) (p := p)
        rw [if_neg q, show c_stp v p = vr a v' from (if_neg q).trans e]
        simp only [q134_39, q134_40, q134_41, ct137, exists_eq_left, e, vB_r, Nat.reduceAdd, q134_44, q134_52, q134_54, q134_57, nn_s]
        exact lp134 hl k (i + 1) a v' (by omega)
    · rw [if_neg s0, show exR p (k + 1) st v = vr st v from if_neg s0]
      simp only [q134_60, q134_62]
end DJ
