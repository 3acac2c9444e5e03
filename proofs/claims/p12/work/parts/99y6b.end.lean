/-! end: what is thrown -/
section OPE
variable {xs : List Int32} {H H1 : am_H} {v v1 v2 w : vm_V} {x : vm_Y}
theorem le6 {r : Int32} : 6 ≤ r ↔ ¬ r < 6 := Int32.not_lt.symm
theorem bad_out (v : vm_V) (r : Int32) : c_badReg 1 r = r_outside v r 6 := by
  unfold c_badReg r_outside
  rw [if_neg i10]
  by_cases h : r < 0
  · rw [if_pos h, if_pos h]
  · rw [if_neg h, if_neg h]
    by_cases h2 : r < 6
    · rw [if_pos h2, if_neg (fun q => le6.mp q h2)]
    · rw [if_neg h2, if_pos (le6.mpr h2)]
theorem bad0 (r : Int32) : c_badReg 0 r = 0 := by
  unfold c_badReg
  rw [if_pos rfl]
theorem hb_ib {c nn p : Nat} {b : Int32} (hc : c ≤ 6) (h1 : v.1 p 3 = Int32.ofNat c) (hn : nn < 2) (h2 : w.1 65 nn = Int32.ofNat c) : c_hasBlock v p b = 0 ↔ r_isBlock w (Int32.ofNat nn) b = 0 := by
  have ho : r_outside w (Int32.ofNat nn) 2 = 0 := by
    unfold r_outside
    rw [if_neg (nn_n0 (by omega)), if_pos (show Int32.ofNat nn < 2 from (nn_lt (b := 2) (by omega) (by omega)).mpr hn)]
  unfold c_hasBlock r_isBlock
  rw [if_pos ho, nn_nat (by omega), h1, h2]
  unfold r_outside
  by_cases q : b < 0
  · rw [if_pos q, if_pos q, if_neg i10]
  · by_cases q2 : b < Int32.ofNat c
    · have q3 : ¬ Int32.ofNat c ≤ b := Int32.not_le.mpr q2
      have q4 : ¬ 6 ≤ b := fun q5 => by
        have a1 := Int32.lt_iff_toInt_lt.mp q2
        have a2 := Int32.le_iff_toInt_le.mp q5
        rw [Int32.toInt_ofNat_of_lt (by omega)] at a1
        have a3 : (6 : Int32).toInt = 6 := rfl
        omega
      rw [if_neg q, if_neg q3, if_neg q4, if_neg q, if_pos q2, if_pos rfl]
    · have q3 : Int32.ofNat c ≤ b := Int32.not_lt.mp q2
      rw [if_neg q, if_pos q3, if_neg q, if_neg q2, if_neg i10]
theorem ib_out {a b : Int32} (h0 : ¬ a = 0) (h1 : ¬ a = 1) : r_isBlock v a b = 0 := by
  unfold r_isBlock
  rw [if_neg (n_out h0 h1)]
theorem out3 {k : Int32} (h : r_outside v k 3 = 0) : k = 0 ∨ k = 1 ∨ k = 2 := by
  unfold r_outside at h
  by_cases q : k < 0
  · rw [if_pos q] at h
    exact absurd h i10
  · rw [if_neg q] at h
    by_cases q2 : k < 3
    · have t0 : (0 : Int32).toInt = 0 := rfl
      have t1 : (1 : Int32).toInt = 1 := rfl
      have t2 : (2 : Int32).toInt = 2 := rfl
      have t3 : (3 : Int32).toInt = 3 := rfl
      have a0 := Int32.le_iff_toInt_le.mp (Int32.not_lt.mp q)
      have a2 := Int32.lt_iff_toInt_lt.mp q2
      have : k.toInt = 0 ∨ k.toInt = 1 ∨ k.toInt = 2 := by omega
      rcases this with e | e | e
      · exact Or.inl (Int32.toInt_inj.mp (by rw [e, t0]))
      · exact Or.inr (Or.inl (Int32.toInt_inj.mp (by rw [e, t1])))
      · exact Or.inr (Or.inr (Int32.toInt_inj.mp (by rw [e, t2])))
    · rw [if_neg q2] at h
      exact absurd h i10
theorem out3n {k : Int32} : r_outside v k 3 = 0 ↔ ¬ k < 0 ∧ k ≤ 2 := by
  unfold r_outside
  by_cases q : k < 0
  · rw [if_pos q]
    exact ⟨fun h => absurd h i10, fun h => absurd q h.1⟩
  · rw [if_neg q]
    by_cases q2 : k < 3
    · rw [if_pos q2]
      exact ⟨fun _ => ⟨q, le2_lt3.mpr q2⟩, fun _ => rfl⟩
    · rw [if_neg q2]
      exact ⟨fun h => absurd h i10, fun h => absurd (le2_lt3.mp h.2) q2⟩
theorem f01 : ¬ (0 : Int32) = 1 := by decide
theorem f02 : ¬ (0 : Int32) = 2 := by decide
theorem f12 : ¬ (1 : Int32) = 2 := by decide
theorem f20 : ¬ (2 : Int32) = 0 := by decide
theorem f21 : ¬ (2 : Int32) = 1 := by decide
/-- what end answers -/
def ea (v : vm_V) (blk k a s t : Int32) : Int32 := if blk = 0 then 1 else if r_outside v k 3 = 0 then (if c_badReg (if k = 0 then 0 else 1) a = 0 then (if c_badReg (if k = 2 then 0 else 1) s = 0 then (if c_badReg (if k = 1 then 1 else 0) t = 0 then 0 else 2) else 2) else 2) else 2
theorem we_a {p : Nat} {b k a s t w1 : Int32} (h : (if c_hasBlock v p b = 0 then vr 1 (vm_nx v) else if k < 0 then vr 2 (vm_nx v) else if k ≤ 2 then (if c_badReg (if k = 0 then 0 else 1) a = 0 then (if c_badReg (if k = 2 then 0 else 1) s = 0 then (if c_badReg (if k = 1 then 1 else 0) t = 0 then vr 0 (c_setEnd (vm_si v 2 7 0) p b k (if k = 0 then 0 else a) (if k = 2 then 0 else s) (if k = 1 then t else 0)) else vr 2 (vm_nx v)) else vr 2 (vm_nx v)) else vr 2 (vm_nx v)) else vr 2 (vm_nx v)) = vr w1 v1) : w1 = ea v (c_hasBlock v p b) k a s t := by
  unfold ea
  by_cases hb : c_hasBlock v p b = 0
  · rw [if_pos hb] at h ⊢
    exact (vr_inj h).1.symm
  · rw [if_neg hb] at h ⊢
    by_cases ho : r_outside v k 3 = 0
    · rw [if_pos ho]
      have hk := out3n.mp ho
      rw [if_neg hk.1, if_pos hk.2] at h
      by_cases h1 : c_badReg (if k = 0 then 0 else 1) a = 0
      · rw [if_pos h1] at h ⊢
        by_cases h2 : c_badReg (if k = 2 then 0 else 1) s = 0
        · rw [if_pos h2] at h ⊢
          by_cases h3 : c_badReg (if k = 1 then 1 else 0) t = 0
          · rw [if_pos h3] at h ⊢
            exact (vr_inj h).1.symm
          · rw [if_neg h3] at h ⊢
            exact (vr_inj h).1.symm
        · rw [if_neg h2] at h ⊢
          exact (vr_inj h).1.symm
      · rw [if_neg h1] at h ⊢
        exact (vr_inj h).1.symm
    · rw [if_neg ho]
      by_cases q : k < 0
      · rw [if_pos q] at h
        exact (vr_inj h).1.symm
      · rw [if_neg q, if_neg (fun q2 => ho (out3n.mpr ⟨q, q2⟩))] at h
        exact (vr_inj h).1.symm
theorem re_a {n b k a s t : Int32} : (r_end v n b k a s t).1 64 0 = ea v (r_isBlock (vm_si v 64 0 0) n b) k a s t := by
  have o1 : ∀ z c : Int32, r_outside (vm_si v 64 0 0) z c = r_outside v z c := fun _ _ => rfl
  have oc : ∀ z1 z2 z3 z4 z5 : Int32, (r_changed (r_setEnd (vm_si v 64 0 0) z1 z2 z3 z4 z5)).1 64 0 = 0 := by
    intro z1 z2 z3 z4 z5
    simp [r_changed, r_setEnd, vm_si1]
  have o2 : (vm_si (vm_si v 64 0 0) 64 0 2).1 64 0 = 2 := by simp [vm_si1]
  have o3 : (vm_si (vm_si v 64 0 0) 64 0 1).1 64 0 = 1 := by simp [vm_si1]
  unfold r_end ea
  by_cases hb : r_isBlock (vm_si v 64 0 0) n b = 0
  · rw [if_pos hb, if_pos hb, o3]
  · rw [if_neg hb, if_neg hb]
    by_cases ho : r_outside v k 3 = 0
    · rcases out3 ho with rfl | rfl | rfl
      · by_cases hs : r_outside v s 6 = 0 <;> simp only [o1, ho, hs, f01, f02, bad0, bad_out v, if_true, if_false, oc, o2, eq_self]
      · by_cases ha : r_outside v a 6 = 0 <;> by_cases hs : r_outside v s 6 = 0 <;> by_cases ht : r_outside v t 6 = 0 <;> simp only [o1, ho, ha, hs, ht, i10, f12, bad0, bad_out v, if_true, if_false, oc, o2, eq_self]
      · by_cases ha : r_outside v a 6 = 0 <;> simp only [o1, ho, ha, f20, f21, bad0, bad_out v, if_true, if_false, oc, o2, eq_self]
    · simp only [o1, ho, if_false, o2]
theorem op_end (hI : lw_I xs H) (hw : vw v H) (hR : Rc v) (hf : fc_eq v v1) {n b k a s t w1 : Int32} (e1 : vE 35 0 [.ref 2, .int n, .int b, .int k, .int a, .int s, .int t, .retAddr 0] [] v (vr w1 v1)) (e2 : vE 158 0 [.ref 64, .int n, .int b, .int k, .int a, .int s, .int t] [] v1 (vd v2)) : v2.1 64 0 = w1 := by
  rw [ct35] at e1
  rw [ct158] at e2
  have e2 := vd_inj e2
  subst e2
  rw [re_a]
  obtain ⟨⟨c, c1, c2, c3⟩, ⟨d, d1, d2, d3⟩⟩ := Rc_cnt hI hw hR
  have hv : ∀ z1 z2 z3 z4 z5 : Int32, ea v1 z1 z2 z3 z4 z5 = ea v z1 z2 z3 z4 z5 := fun _ _ _ _ _ => rfl
  rw [hv]
  have eb : ∀ (z1 z2 : Int32), (z1 = 0 ↔ z2 = 0) → ∀ y1 y2 y3 y4 : Int32, ea v z1 y1 y2 y3 y4 = ea v z2 y1 y2 y3 y4 := by
    intro z1 z2 hz y1 y2 y3 y4
    unfold ea
    by_cases q : z1 = 0
    · rw [if_pos q, if_pos (hz.mp q)]
    · rw [if_neg q, if_neg (fun q2 => q (hz.mpr q2))]
  unfold w_end at e1
  by_cases h0 : n = 0
  · subst h0
    rw [if_pos rfl] at e1
    rw [we_a e1.symm]
    exact eb _ _ (hb_ib (v := v) (w := vm_si v1 64 0 0) (p := 3) (nn := 0) c1 c2 (by omega) (by rw [vm_si1, if_neg (by omega), hf.2.2.1, c3])).symm _ _ _ _
  · rw [if_neg h0] at e1
    by_cases h1 : n = 1
    · subst h1
      rw [if_pos rfl] at e1
      rw [we_a e1.symm]
      exact eb _ _ (hb_ib (v := v) (w := vm_si v1 64 0 0) (p := 7) (nn := 1) d1 d2 (by omega) (by rw [vm_si1, if_neg (by omega), hf.2.2.2, d3])).symm _ _ _ _
    · rw [if_neg h1] at e1
      obtain ⟨rfl, _⟩ := vr_inj e1
      unfold ea
      rw [if_pos (ib_out h0 h1)]
end OPE
