/-! block, wipe, take: the numbers of blocks -/
section RSC
variable {xs : List Int32} {H H1 : am_H} {v v1 v2 w : vm_V} {x : vm_Y}
theorem vr_inj {a b : Int32} (h : vr a v = vr b w) : a = b ∧ v = w := by
  cases h
  exact ⟨rfl, rfl⟩
def Rc (v : vm_V) : Prop := v.1 3 3 = v.1 65 0 ∧ v.1 7 3 = v.1 65 1
def fc_eq (v w : vm_V) : Prop := w.1 3 3 = v.1 3 3 ∧ w.1 7 3 = v.1 7 3 ∧ w.1 65 0 = v.1 65 0 ∧ w.1 65 1 = v.1 65 1
theorem fc_tr {u : vm_V} (h1 : fc_eq u v) (h2 : fc_eq v w) : fc_eq u w := ⟨h2.1.trans h1.1, h2.2.1.trans h1.2.1, h2.2.2.1.trans h1.2.2.1, h2.2.2.2.trans h1.2.2.2⟩
theorem fc_of (h : fs_eq v w) : fc_eq v w := ⟨h.1, h.2.1, h.2.2.1 0 (by omega), h.2.2.1 1 (by omega)⟩
def fc_ms (ms : List Nat) : Bool := !(ty_in 3 ms) && (!(ty_in 7 ms) && !(ty_in 65 ms))
theorem gh_fc (hI : lw_I xs H) (hw : vw v H) (hw1 : vw v1 H1) {ms : List Nat} (hu : ty_un ms H H1) (hm : fc_ms ms = true) : fc_eq v v1 := by
  simp only [fc_ms, Bool.and_eq_true, Bool.not_eq_true'] at hm
  obtain ⟨m1, m2, m3⟩ := hm
  exact ⟨gh_fr hI hw hw1 hu m1 rfl, gh_fr hI hw hw1 hu m2 rfl, gh_fr hI hw hw1 hu m3 rfl, gh_fr hI hw hw1 hu m3 rfl⟩
theorem Rc_fc (h : Rc v) (hf : fc_eq v w) : Rc w := ⟨by rw [hf.1, hf.2.2.1, h.1], by rw [hf.2.1, hf.2.2.2, h.2]⟩
theorem Rc_cnt (hI : lw_I xs H) (hw : vw v H) (hR : Rc v) : (∃ c : Nat, c ≤ 6 ∧ v.1 3 3 = Int32.ofNat c ∧ v.1 65 0 = Int32.ofNat c) ∧ ∃ c : Nat, c ≤ 6 ∧ v.1 7 3 = Int32.ofNat c ∧ v.1 65 1 = Int32.ofNat c := by
  have b0 := gh_bd hI hw (p := 65) (n := 2) (k := 0) (lo := 0) (hi := 6) rfl (by omega)
  have b1 := gh_bd hI hw (p := 65) (n := 2) (k := 1) (lo := 0) (hi := 6) rfl (by omega)
  obtain ⟨c, c1, c2, c3⟩ := nn_of b0.1
  obtain ⟨d, d1, d2, d3⟩ := nn_of b1.1
  exact ⟨⟨c, by omega, by rw [hR.1]; exact c1, c1⟩, ⟨d, by omega, by rw [hR.2]; exact d1, d1⟩⟩
theorem nn_l6 {c : Nat} (h : c < 6) : Int32.ofNat c < 6 := (nn_lt (b := 6) (by omega) (by omega)).mpr h
theorem nn_n6 {c : Nat} (h : c ≤ 6) (h2 : ¬ c < 6) : ¬ Int32.ofNat c < 6 := fun q => h2 ((nn_lt (b := 6) (by omega) (by omega)).mp q)
theorem nn_n0 {c : Nat} (h : c < 2147483648) : ¬ Int32.ofNat c < 0 := fun q => by
  have := (nn_lt (b := 0) (by omega) (by omega)).mp q
  omega
theorem nn_e6 {c : Nat} (h : c ≤ 6) : Int32.ofNat c = 6 ↔ ¬ c < 6 := by
  rw [show (6 : Int32) = Int32.ofNat 6 from rfl, nn_eq (by omega) (by omega)]
  omega
theorem i10 : ¬ (1 : Int32) = 0 := by decide
theorem wb0 {c : Nat} (hc : v.1 3 3 = Int32.ofNat c) (h6 : c < 6) : w_block v 0 = vr 0 (vm_sl (c_setEnd (vm_si (vm_si (vm_si v 2 7 0) 3 3 (Int32.ofNat (c + 1))) 6 c 0) 3 (Int32.ofNat c) 2 0 0 0) 93 0 (Int32.ofNat c).toInt64) := by
  have e : (vm_si v 2 7 0).1 3 3 = Int32.ofNat c := by
    rw [← hc]
    rfl
  unfold w_block c_isFull
  rw [if_pos rfl, hc, if_pos (nn_l6 h6), if_pos rfl, e, if_neg (nn_n0 (by omega)), if_pos (nn_l6 h6), nn_s, nn_nat (by omega), n0]
theorem wbf0 {c : Nat} (hc : v.1 3 3 = Int32.ofNat c) (h : c ≤ 6) (h6 : ¬ c < 6) : w_block v 0 = vr 2 (vm_nx v) := by
  unfold w_block c_isFull
  rw [if_pos rfl, hc, if_neg (nn_n6 h h6), if_neg i10]
theorem rb0 {c : Nat} (hc : v.1 65 0 = Int32.ofNat c) (h6 : c < 6) : ∃ v2 : vm_V, r_block v 0 = vr (Int32.ofNat c) v2 ∧ v2.1 64 0 = 0 ∧ v2.2 = v.2 ∧ v2.1 65 0 = Int32.ofNat (c + 1) ∧ v2.1 65 1 = v.1 65 1 ∧ (∀ p k : Nat, p ≠ 64 → p ≠ 65 → p ≠ 66 → p ≠ 68 → v2.1 p k = v.1 p k) ∧ (∀ k : Nat, v2.1 66 k = if k = 0 + c then 0 else v.1 66 k) := by
  have hne : ¬ Int32.ofNat c = 6 := fun q => (nn_e6 (by omega)).mp q h6
  have ho : r_outside v 0 2 = 0 := by unfold r_outside; rw [if_neg (by decide), if_pos (by decide)]
  have e1 : (6 * (0 : Int32) + Int32.ofNat c).toNatClampNeg = 0 + c := nn_ma (c := 6) (t := 0) (i := c) (by omega)
  unfold r_block
  simp only [ho, if_true, n0, hc, hne, if_false, vm_si1, and_self, reduceIte, Nat.reduceEqDiff, false_and, e1, r_changed1 (show (65 : Nat) ≠ 64 by omega), r_setEnd1 (show (65 : Nat) ≠ 68 by omega), show ((0 : Int32) ≤ 0) = True from by decide, nn_s]
  rw [show Int32.ofNat (c + 1) - 1 = Int32.ofNat c from by rw [← nn_s, Int32.add_sub_cancel]]
  refine ⟨_, rfl, ?_, rfl, ?_, ?_, ?_, ?_⟩
  · simp [r_changed, r_setEnd, vm_si1]
  · simp [r_changed, r_setEnd, vm_si1]
  · simp [r_changed, r_setEnd, vm_si1]
  · intro p k h1 h2 h3 h4
    simp [r_changed, r_setEnd, vm_si1, h1, h2, h3, h4]
  · intro k
    simp [r_changed, r_setEnd, vm_si1]
theorem rbf0 {c : Nat} (hc : v.1 65 0 = Int32.ofNat c) (h : c ≤ 6) (h6 : ¬ c < 6) : r_block v 0 = vr 0 (vm_si v 64 0 2) := by
  have hne : Int32.ofNat c = 6 := (nn_e6 h).mpr h6
  have ho : r_outside v 0 2 = 0 := by unfold r_outside; rw [if_neg (by decide), if_pos (by decide)]
  unfold r_block
  simp only [ho, if_true, n0, hc, hne, vm_si1, and_self, reduceIte, show ((2 : Int32) ≤ 0) = False from by decide]

theorem wb1 {c : Nat} (hc : v.1 7 3 = Int32.ofNat c) (h6 : c < 6) : w_block v 1 = vr 0 (vm_sl (c_setEnd (vm_si (vm_si (vm_si v 2 7 0) 7 3 (Int32.ofNat (c + 1))) 10 c 0) 7 (Int32.ofNat c) 2 0 0 0) 93 0 (Int32.ofNat c).toInt64) := by
  have e : (vm_si v 2 7 0).1 7 3 = Int32.ofNat c := by
    rw [← hc]
    rfl
  unfold w_block c_isFull
  rw [if_neg i10, if_pos rfl, hc, if_pos (nn_l6 h6), if_pos rfl, e, if_neg (nn_n0 (by omega)), if_pos (nn_l6 h6), nn_s, nn_nat (by omega), n0]
theorem wbf1 {c : Nat} (hc : v.1 7 3 = Int32.ofNat c) (h : c ≤ 6) (h6 : ¬ c < 6) : w_block v 1 = vr 2 (vm_nx v) := by
  unfold w_block c_isFull
  rw [if_neg i10, if_pos rfl, hc, if_neg (nn_n6 h h6), if_neg i10]
theorem rb1 {c : Nat} (hc : v.1 65 1 = Int32.ofNat c) (h6 : c < 6) : ∃ v2 : vm_V, r_block v 1 = vr (Int32.ofNat c) v2 ∧ v2.1 64 0 = 0 ∧ v2.2 = v.2 ∧ v2.1 65 1 = Int32.ofNat (c + 1) ∧ v2.1 65 0 = v.1 65 0 ∧ (∀ p k : Nat, p ≠ 64 → p ≠ 65 → p ≠ 66 → p ≠ 68 → v2.1 p k = v.1 p k) ∧ (∀ k : Nat, v2.1 66 k = if k = 6 + c then 0 else v.1 66 k) := by
  have hne : ¬ Int32.ofNat c = 6 := fun q => (nn_e6 (by omega)).mp q h6
  have ho : r_outside v 1 2 = 0 := by unfold r_outside; rw [if_neg (by decide), if_pos (by decide)]
  have e1 : (6 * (1 : Int32) + Int32.ofNat c).toNatClampNeg = 6 + c := nn_ma (c := 6) (t := 1) (i := c) (by omega)
  unfold r_block
  simp only [ho, if_true, n1, hc, hne, if_false, vm_si1, and_self, reduceIte, Nat.reduceEqDiff, false_and, e1, r_changed1 (show (65 : Nat) ≠ 64 by omega), r_setEnd1 (show (65 : Nat) ≠ 68 by omega), show ((0 : Int32) ≤ 0) = True from by decide, nn_s]
  rw [show Int32.ofNat (c + 1) - 1 = Int32.ofNat c from by rw [← nn_s, Int32.add_sub_cancel]]
  refine ⟨_, rfl, ?_, rfl, ?_, ?_, ?_, ?_⟩
  · simp [r_changed, r_setEnd, vm_si1]
  · simp [r_changed, r_setEnd, vm_si1]
  · simp [r_changed, r_setEnd, vm_si1]
  · intro p k h1 h2 h3 h4
    simp [r_changed, r_setEnd, vm_si1, h1, h2, h3, h4]
  · intro k
    simp [r_changed, r_setEnd, vm_si1]
theorem rbf1 {c : Nat} (hc : v.1 65 1 = Int32.ofNat c) (h : c ≤ 6) (h6 : ¬ c < 6) : r_block v 1 = vr 0 (vm_si v 64 0 2) := by
  have hne : Int32.ofNat c = 6 := (nn_e6 h).mpr h6
  have ho : r_outside v 1 2 = 0 := by unfold r_outside; rw [if_neg (by decide), if_pos (by decide)]
  unfold r_block
  simp only [ho, if_true, n1, hc, hne, vm_si1, and_self, reduceIte, show ((2 : Int32) ≤ 0) = False from by decide]

theorem w_bad {a : Int32} (h0 : ¬ a = 0) (h1 : ¬ a = 1) : w_block v a = vr 1 (vm_nx v) := by
  unfold w_block
  rw [if_neg h0, if_neg h1]
theorem n_out {a : Int32} (h0 : ¬ a = 0) (h1 : ¬ a = 1) : ¬ r_outside v a 2 = 0 := by
  unfold r_outside
  by_cases q : a < 0
  · rw [if_pos q]; decide
  · rw [if_neg q]
    by_cases q2 : a < 2
    · exfalso
      have t0 : (0 : Int32).toInt = 0 := rfl
      have t1 : (1 : Int32).toInt = 1 := rfl
      have t2 : (2 : Int32).toInt = 2 := rfl
      have a0 := Int32.le_iff_toInt_le.mp (Int32.not_lt.mp q)
      have a2 := Int32.lt_iff_toInt_lt.mp q2
      have b0 : a.toInt ≠ 0 := fun q => h0 (Int32.toInt_inj.mp (by rw [q, t0]))
      have b1 : a.toInt ≠ 1 := fun q => h1 (Int32.toInt_inj.mp (by rw [q, t1]))
      omega
    · rw [if_neg q2]; decide
theorem r_bad {a : Int32} (h0 : ¬ a = 0) (h1 : ¬ a = 1) : r_block v a = vr 0 (vm_si v 64 0 1) := by
  have ho := n_out (v := v) h0 h1
  unfold r_block
  simp only [if_neg ho, vm_si1, and_self, if_true, show ((1 : Int32) ≤ 0) = False from by decide, if_false]
end RSC
