/-! pass and take: what becomes of the numbers of blocks and of the lengths -/
section RSB
variable {xs : List Int32} {H H1 : am_H} {v v1 w : vm_V} {x : vm_Y}
theorem vm_si1 {v : vm_V} {a k b j : Nat} {z : Int32} : (vm_si v a k z).1 b j = if b = a ∧ j = k then z else v.1 b j := rfl
theorem vm_sl1 {v : vm_V} {a k : Nat} {z : Int64} : (vm_sl v a k z).1 = v.1 := rfl
theorem vm_nx1 {v : vm_V} : (vm_nx v).1 = v.1 := rfl
theorem vm_cp1 {v : vm_V} {n dp b sp a c k : Nat} : (vm_cp v n dp b sp a).1 c k = if c = b ∧ dp ≤ k ∧ k < dp + n then v.1 a (sp + (k - dp)) else v.1 c k := rfl
theorem n6 : (6 : Int32).toNatClampNeg = 6 := rfl
theorem n0 : (0 : Int32).toNatClampNeg = 0 := rfl
theorem n1 : (1 : Int32).toNatClampNeg = 1 := rfl
theorem n24 : (24 : Int32).toNatClampNeg = 24 := rfl
theorem n192 : (192 : Int32).toNatClampNeg = 192 := rfl
theorem r_changed1 {v : vm_V} {p k : Nat} (h : p ≠ 64) : (r_changed v).1 p k = v.1 p k := by
  simp [r_changed, vm_si1, h]
theorem r_setEnd1 {v : vm_V} {b k a s t : Int32} {p j : Nat} (h : p ≠ 68) : (r_setEnd v b k a s t).1 p j = v.1 p j := by
  simp [r_setEnd, vm_si1, h]
theorem c_setEnd1 {v : vm_V} {q : Nat} {b k a s t : Int32} {p j : Nat} (h : p ≠ q + 2) : (c_setEnd v q b k a s t).1 p j = v.1 p j := by
  unfold c_setEnd
  split
  · rfl
  · simp [vm_si1, h]
theorem fs_ch : fs_eq v (r_changed v) := ⟨r_changed1 (by omega), r_changed1 (by omega), fun _ _ => r_changed1 (by omega), fun _ _ => r_changed1 (by omega), fun _ _ => r_changed1 (by omega), fun _ _ => r_changed1 (by omega)⟩
theorem fs_s64 {k : Nat} {z : Int32} : fs_eq v (vm_si v 64 k z) := by
  refine ⟨?_, ?_, ?_, ?_, ?_, ?_⟩ <;> simp [vm_si1]
theorem fs_s2 {k : Nat} {z : Int32} : fs_eq v (vm_si v 2 k z) := by
  refine ⟨?_, ?_, ?_, ?_, ?_, ?_⟩ <;> simp [vm_si1]
/-- the target is as the source: the class's, the reference's -/
def cpc (v w : vm_V) : Prop := w.1 3 3 = v.1 3 3 ∧ w.1 7 3 = v.1 3 3 ∧ (∀ k : Nat, k < 2 → w.1 65 k = v.1 65 k) ∧ (∀ k : Nat, k < 6 → w.1 6 k = v.1 6 k) ∧ (∀ k : Nat, k < 6 → w.1 10 k = v.1 6 k) ∧ ∀ k : Nat, k < 12 → w.1 66 k = v.1 66 k
def cpr (v w : vm_V) : Prop := w.1 3 3 = v.1 3 3 ∧ w.1 7 3 = v.1 7 3 ∧ (w.1 65 0 = v.1 65 0 ∧ w.1 65 1 = v.1 65 0) ∧ (∀ k : Nat, k < 6 → w.1 6 k = v.1 6 k) ∧ (∀ k : Nat, k < 6 → w.1 10 k = v.1 10 k) ∧ (∀ k : Nat, k < 6 → w.1 66 k = v.1 66 k) ∧ ∀ k : Nat, k < 6 → w.1 66 (6 + k) = v.1 66 k
theorem cpc_fs {u : vm_V} (h1 : fs_eq u v) (h2 : cpc v w) : cpc u w := ⟨h2.1.trans h1.1, h2.2.1.trans h1.1, fun k hk => (h2.2.2.1 k hk).trans (h1.2.2.1 k hk), fun k hk => (h2.2.2.2.1 k hk).trans (h1.2.2.2.1 k hk), fun k hk => (h2.2.2.2.2.1 k hk).trans (h1.2.2.2.1 k hk), fun k hk => (h2.2.2.2.2.2 k hk).trans (h1.2.2.2.2.2 k hk)⟩
theorem fs_cpc {u : vm_V} (h1 : cpc u v) (h2 : fs_eq v w) : cpc u w := ⟨h2.1.trans h1.1, h2.2.1.trans h1.2.1, fun k hk => (h2.2.2.1 k hk).trans (h1.2.2.1 k hk), fun k hk => (h2.2.2.2.1 k hk).trans (h1.2.2.2.1 k hk), fun k hk => (h2.2.2.2.2.1 k hk).trans (h1.2.2.2.2.1 k hk), fun k hk => (h2.2.2.2.2.2 k hk).trans (h1.2.2.2.2.2 k hk)⟩
theorem cpr_fs {u : vm_V} (h1 : fs_eq u v) (h2 : cpr v w) : cpr u w := ⟨h2.1.trans h1.1, h2.2.1.trans h1.2.1, ⟨h2.2.2.1.1.trans (h1.2.2.1 0 (by omega)), h2.2.2.1.2.trans (h1.2.2.1 0 (by omega))⟩, fun k hk => (h2.2.2.2.1 k hk).trans (h1.2.2.2.1 k hk), fun k hk => (h2.2.2.2.2.1 k hk).trans (h1.2.2.2.2.1 k hk), fun k hk => (h2.2.2.2.2.2.1 k hk).trans (h1.2.2.2.2.2 k (by omega)), fun k hk => (h2.2.2.2.2.2.2 k hk).trans (h1.2.2.2.2.2 k (by omega))⟩
theorem fs_cpr {u : vm_V} (h1 : cpr u v) (h2 : fs_eq v w) : cpr u w := ⟨h2.1.trans h1.1, h2.2.1.trans h1.2.1, ⟨(h2.2.2.1 0 (by omega)).trans h1.2.2.1.1, (h2.2.2.1 1 (by omega)).trans h1.2.2.1.2⟩, fun k hk => (h2.2.2.2.1 k hk).trans (h1.2.2.2.1 k hk), fun k hk => (h2.2.2.2.2.1 k hk).trans (h1.2.2.2.2.1 k hk), fun k hk => (h2.2.2.2.2.2 k (by omega)).trans (h1.2.2.2.2.2.1 k hk), fun k hk => (h2.2.2.2.2.2 (6 + k) (by omega)).trans (h1.2.2.2.2.2.2 k hk)⟩
theorem cpc_copy : cpc v (c_copyFrom v 7 3) := by
  refine ⟨?_, ?_, ?_, ?_, ?_, ?_⟩
  · simp [c_copyFrom, vm_si1, vm_cp1]
  · simp [c_copyFrom, vm_si1, vm_cp1]
  · intro k hk
    simp [c_copyFrom, vm_si1, vm_cp1]
  · intro k hk
    simp [c_copyFrom, vm_si1, vm_cp1]
  · intro k hk
    simp [c_copyFrom, vm_si1, vm_cp1, n6, n0, hk]
  · intro k hk
    simp [c_copyFrom, vm_si1, vm_cp1]
theorem cpr_copy : cpr v (r_copy v 0 1) := by
  refine ⟨?_, ?_, ⟨?_, ?_⟩, ?_, ?_, ?_, ?_⟩
  · simp [r_copy, vm_si1, vm_cp1]
  · simp [r_copy, vm_si1, vm_cp1]
  · simp [r_copy, vm_si1, vm_cp1]
  · simp [r_copy, vm_si1, vm_cp1]
  · intro k hk
    simp [r_copy, vm_si1, vm_cp1]
  · intro k hk
    simp [r_copy, vm_si1, vm_cp1]
  · intro k hk
    have h1 : ¬ (6 ≤ k ∧ k < 12) := by omega
    simp [r_copy, vm_si1, vm_cp1, h1]
  · intro k hk
    have h1 : 6 + k < 12 := by omega
    simp [r_copy, vm_si1, vm_cp1, h1]
/-- pass, the class's -/
theorem ps_c (hI : lw_I xs H) (hw : vw v H) (hc : (v.1 3 3).toInt ≤ 100) {a w1 : Int32} (e : vE 41 0 [.ref 2, .int a, .ref 93, .retAddr 0] [] v (vr w1 v1)) : (¬ a < 0 ∧ a ≤ 2 ∧ cpc v v1) ∨ ((a < 0 ∨ ¬ a ≤ 2) ∧ fs_eq v v1) := by
  simp only [q41_0, q41_1, q41_2, q41_3, q41_4] at e
  obtain ⟨y, e1, e2⟩ := e
  simp only [q42_0, q42_1] at e1
  have bad : y = vt 12 v → fs_eq v v1 := by
    intro h
    subst h
    simp only [qh41_4_12, q41_12, q41_13, q41_14] at e2
    cases e2
    exact fs_rf v
  by_cases h0 : a < 0
  · rw [if_pos h0] at e1
    simp only [q42_9] at e1
    exact Or.inr ⟨Or.inl h0, bad e1⟩
  · rw [if_neg h0] at e1
    simp only [q42_4, q42_5, q42_6] at e1
    by_cases h2 : a ≤ 2
    · rw [if_pos h2] at e1
      simp only [q42_19, q42_20, q42_21, q42_24, q42_25, q42_28, q42_29, q42_32, Nat.reduceAdd] at e1
      obtain ⟨y1, a1, b1⟩ := e1
      obtain ⟨Ha, ga1, ga2, ga3⟩ := gh_put hI hw (p := 2) (k := 7) (z := 0) rfl (by omega) rfl rfl (by decide) (by decide) ⟨by omega, by omega⟩
      obtain ⟨vb, Hb, rfl, gb1, gb2, gb3⟩ := gh_v (C := tc_24) (tm_ok _ tm_m24) ga1 ga2 rfl (by decide) rfl rfl rfl a1 (And.intro (fun _ => rfl) (And.intro (fun _ => rfl) trivial))
      rw [ct11] at a1
      obtain rfl : vb = c_copyFrom (vm_si v 2 7 0) 7 3 := by cases a1; rfl
      simp only [vB_d, vB_r, Nat.reduceAdd, q42_35, q42_36, q42_39, ct43, exists_eq_left, q42_42, q42_43, q42_44] at b1
      have hn : (c_blockCount (c_copyFrom (vm_si v 2 7 0) 7 3) 3).toInt ≤ ((0 : Nat) : Int) + (100 : Nat) := by
        have : c_blockCount (c_copyFrom (vm_si v 2 7 0) 7 3) 3 = v.1 3 3 := by
          unfold c_blockCount
          rw [cpc_copy.1]
          simp [vm_si1]
        rw [this]
        omega
      obtain ⟨w0, v0, rfl, r2⟩ := ps_loop 100 0 hn (by omega) _ Hb gb1 gb2 y b1
      simp only [vB_r, Nat.reduceAdd, q41_7, q41_8, q41_9, q41_15, q41_16] at e2
      cases e2
      exact Or.inl ⟨h0, h2, fs_cpc (cpc_fs fs_s2 cpc_copy) r2⟩
    · rw [if_neg h2] at e1
      simp only [q42_9] at e1
      exact Or.inr ⟨Or.inr h2, bad e1⟩
/-- pass's loop, the reference's -/
theorem pr_loop {a : Int32} : ∀ (k j : Nat), 6 ≤ j + k → j + k < 1000 → ∀ (v : vm_V) (H : am_H) (s : Int32), lw_I xs H → vw v H → ∀ y : vm_Y, vE 164 36 [.ref 64, .int a, .int s, .int (Int32.ofNat j)] [] v y → ∃ (w0 : Int32) (v0 : vm_V), y = vr w0 v0 ∧ fs_eq v v0 := by
  have fin : ∀ (j : Nat) (v : vm_V) (s : Int32), ∀ y : vm_Y, vE 164 90 [.ref 64, .int a, .int s, .int (Int32.ofNat j)] [] v y → ∃ (w0 : Int32) (v0 : vm_V), y = vr w0 v0 ∧ fs_eq v v0 := by
    intro j v s y e
    simp only [q164_90, q164_91, ct150, exists_eq_left, vB_d, Nat.reduceAdd, q164_94, q164_95] at e
    exact ⟨s, _, e, fs_ch⟩
  intro k
  induction k with
  | zero =>
    intro j h1 h2 v H s hI hw y e
    rw [q164_36] at e
    simp only [q164_37, q164_38, q164_41, q164_42, q164_43, Nat.reduceAdd, n0] at e
    have b0 := gh_bd hI hw (p := 65) (n := 2) (k := 0) (lo := 0) (hi := 6) rfl (by omega)
    have hn : v.1 65 0 ≤ Int32.ofNat j := Int32.le_iff_toInt_le.mpr (by rw [Int32.toInt_ofNat_of_lt (by omega)]; omega)
    rw [if_pos hn] at e
    exact fin j v s y e
  | succ k ih =>
    intro j h1 h2 v H s hI hw y e
    rw [q164_36] at e
    simp only [q164_37, q164_38, q164_41, q164_42, q164_43, Nat.reduceAdd, n0] at e
    by_cases hn : v.1 65 0 ≤ Int32.ofNat j
    · rw [if_pos hn] at e
      exact fin j v s y e
    · rw [if_neg hn] at e
      have b0 := gh_bd hI hw (p := 65) (n := 2) (k := 0) (lo := 0) (hi := 6) rfl (by omega)
      have hj : j ≤ 5 := by
        have := Int32.lt_iff_toInt_lt.mp (Int32.not_le.mp hn)
        rw [Int32.toInt_ofNat_of_lt (by omega)] at this
        omega
      have nx : ∀ (v1 : vm_V) (H1 : am_H), lw_I xs H1 → vw v1 H1 → fs_eq v v1 → vE 164 76 [.ref 64, .int a, .int s, .int (Int32.ofNat j)] [] v1 y → ∃ (w0 : Int32) (v0 : vm_V), y = vr w0 v0 ∧ fs_eq v v0 := by
        intro v1 H1 g1 g2 g3 e
        simp only [q164_76, q164_77, q164_78, q164_79] at e
        obtain ⟨y1, a1, b1⟩ := e
        obtain ⟨w2, v2, H2, rfl, f1, f2, f3⟩ := gh_r (C := tc_238) (tm_ok _ tm_m238) g1 g2 rfl (by decide) rfl rfl rfl a1 (And.intro (fun _ => rfl) (And.intro (fun _ => gh_05 hj) (And.intro (fun h => absurd h (by decide)) (And.intro (fun h => absurd h (by decide)) (And.intro (fun h => absurd h (by decide)) (And.intro (fun h => absurd h (by decide)) (And.intro (fun h => absurd h (by decide)) (And.intro (fun h => absurd h (by decide)) (And.intro (fun h => absurd h (by decide)) trivial)))))))))
        simp only [vB_r, Nat.reduceAdd, q164_82, q164_83, q164_84, q164_87, nn_s] at b1
        obtain ⟨w0, v0, r1, r2⟩ := ih (j + 1) (by omega) (by omega) v2 H2 _ f1 f2 y b1
        exact ⟨w0, v0, r1, fs_tr g3 (fs_tr (gh_fs g1 g2 f2 f3 rfl) r2)⟩
      simp only [q164_46, q164_47] at e
      by_cases h0 : a = 0
      · rw [if_pos h0] at e
        simp only [q164_50, q164_51, q164_52] at e
        obtain ⟨y1, a1, b1⟩ := e
        obtain ⟨v1, H1, rfl, g1, g2, g3⟩ := gh_v (C := tc_235) (tm_ok _ tm_m235) hI hw rfl (by decide) rfl rfl rfl a1 (And.intro (fun _ => rfl) (And.intro (fun _ => gh_05 hj) (And.intro (fun h => absurd h (by decide)) (And.intro (fun h => absurd h (by decide)) (And.intro (fun h => absurd h (by decide)) (And.intro (fun h => absurd h (by decide)) (And.intro (fun h => absurd h (by decide)) (And.intro (fun h => absurd h (by decide)) (And.intro (fun h => absurd h (by decide)) (And.intro (fun h => absurd h (by decide)) trivial))))))))))
        simp only [vB_d, Nat.reduceAdd, q164_55] at b1
        exact nx v1 H1 g1 g2 (gh_fs hI hw g2 g3 rfl) b1
      · rw [if_neg h0] at e
        simp only [q164_58, q164_59, q164_60] at e
        by_cases h1' : a = 1
        · rw [if_pos h1'] at e
          simp only [q164_63, q164_64, q164_65] at e
          obtain ⟨y1, a1, b1⟩ := e
          obtain ⟨v1, H1, rfl, g1, g2, g3⟩ := gh_v (C := tc_252) (tm_ok _ tm_m252) hI hw rfl (by decide) rfl rfl rfl a1 (And.intro (fun _ => rfl) (And.intro (fun _ => gh_05 hj) (And.intro (fun h => absurd h (by decide)) (And.intro (fun h => absurd h (by decide)) (And.intro (fun h => absurd h (by decide)) (And.intro (fun h => absurd h (by decide)) trivial))))))
          simp only [vB_d, Nat.reduceAdd, q164_68] at b1
          exact nx v1 H1 g1 g2 (gh_fs hI hw g2 g3 rfl) b1
        · rw [if_neg h1'] at e
          simp only [q164_71, q164_72, q164_73] at e
          obtain ⟨y1, a1, b1⟩ := e
          obtain ⟨v1, H1, rfl, g1, g2, g3⟩ := gh_v (C := tc_255) (tm_ok _ tm_m255) hI hw rfl (by decide) rfl rfl rfl a1 (And.intro (fun _ => rfl) (And.intro (fun _ => gh_05 hj) (And.intro (fun h => absurd h (by decide)) (And.intro (fun h => absurd h (by decide)) (And.intro (fun h => absurd h (by decide)) (And.intro (fun h => absurd h (by decide)) (And.intro (fun h => absurd h (by decide)) trivial)))))))
          simp only [vB_d, Nat.reduceAdd] at b1
          exact nx v1 H1 g1 g2 (gh_fs hI hw g2 g3 rfl) b1
theorem le2_lt3 {a : Int32} : a ≤ 2 ↔ a < 3 := by
  rw [Int32.le_iff_toInt_le, Int32.lt_iff_toInt_lt]
  have h2 : (2 : Int32).toInt = 2 := rfl
  have h3 : (3 : Int32).toInt = 3 := rfl
  omega
/-- pass, the reference's -/
theorem ps_r (hI : lw_I xs H) (hw : vw v H) {a w1 : Int32} (e : vE 164 0 [.ref 64, .int a, .retAddr 0, .retAddr 0] [] v (vr w1 v1)) : (¬ a < 0 ∧ a ≤ 2 ∧ cpr v v1) ∨ ((a < 0 ∨ ¬ a ≤ 2) ∧ fs_eq v v1) := by
  simp only [q164_0, q164_1, q164_2, q164_3, ct148, exists_eq_left, vB_r, Nat.reduceAdd, q164_6] at e
  by_cases h : ¬ a < 0 ∧ a ≤ 2
  · have ho : r_outside v a 3 = 0 := by
      unfold r_outside
      rw [if_neg h.1, if_pos (le2_lt3.mp h.2)]
    rw [if_pos ho] at e
    simp only [q164_13, q164_14, q164_17, q164_18, q164_21] at e
    rw [if_pos (show (vm_si v 64 0 0).1 64 0 ≤ 0 from (by rw [vm_si1, if_pos ⟨rfl, rfl⟩]; decide))] at e
    simp only [q164_26, q164_27, q164_28, q164_29] at e
    obtain ⟨y1, a1, b1⟩ := e
    obtain ⟨Ha, ga1, ga2, ga3⟩ := gh_put hI hw (p := 64) (k := 0) (z := 0) rfl (by omega) rfl rfl (by decide) (by decide) ⟨by omega, by omega⟩
    obtain ⟨vb, Hb, rfl, gb1, gb2, gb3⟩ := gh_v (C := tc_234) (tm_ok _ tm_m234) ga1 ga2 rfl (by decide) rfl rfl rfl a1 (And.intro (fun _ => rfl) (And.intro (fun _ => rfl) (And.intro (fun _ => rfl) (And.intro (fun h => absurd h (by decide)) trivial))))
    rw [ct161_01] at a1
    obtain rfl : vb = r_copy (vm_si v 64 0 0) 0 1 := by cases a1; rfl
    simp only [vB_d, Nat.reduceAdd, q164_32, q164_33, q164_34, q164_35] at b1
    obtain ⟨w0, v0, r1, r2⟩ := pr_loop 10 0 (by omega) (by omega) _ Hb 0 gb1 gb2 _ b1
    cases r1
    exact Or.inl ⟨h.1, h.2, fs_cpr (cpr_fs fs_s64 cpr_copy) r2⟩
  · have ho : ¬ r_outside v a 3 = 0 := by
      unfold r_outside
      by_cases h0 : a < 0
      · rw [if_pos h0]; decide
      · rw [if_neg h0, if_neg (fun q => h ⟨h0, le2_lt3.mpr q⟩)]; decide
    rw [if_neg ho] at e
    simp only [q164_9, q164_10, q164_14, q164_17, q164_18, q164_21] at e
    rw [if_neg (show ¬ (vm_si v 64 0 1).1 64 0 ≤ 0 from (by rw [vm_si1, if_pos ⟨rfl, rfl⟩]; decide))] at e
    simp only [q164_24, q164_25] at e
    cases e
    refine Or.inr ⟨?_, fs_s64⟩
    by_cases h0 : a < 0
    · exact Or.inl h0
    · exact Or.inr (fun q => h ⟨h0, q⟩)
end RSB
