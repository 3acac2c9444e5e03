/-! the numbers of blocks through every operation of the law -/
section RSD
variable {xs : List Int32} {H H1 : am_H} {v v1 v2 w : vm_V} {x : vm_Y}
theorem vm_sl2 {v : vm_V} {a k : Nat} {z : Int64} : (vm_sl v a k z).2.1 a k = z := if_pos (And.intro rfl rfl)
theorem op_block (hI : lw_I xs H) (hw : vw v H) (hR : Rc v) {a w1 w2 : Int32} (e1 : vE 16 0 [.ref 2, .int a, .ref 93, .retAddr 0] [] v (vr w1 v1)) (e2 : vE 147 0 [.ref 64, .int a, .retAddr 0] [] v1 (vr w2 v2)) : Rc v2 ∧ v2.1 64 0 = w1 ∧ (w1 = 0 → v2.2.1 93 0 = w2.toInt64) := by
  rw [ct16] at e1
  rw [ct147] at e2
  obtain ⟨⟨c, c1, c2, c3⟩, ⟨d, d1, d2, d3⟩⟩ := Rc_cnt hI hw hR
  by_cases h0 : a = 0
  · subst h0
    by_cases q : c < 6
    · rw [wb0 c2 q] at e1
      obtain ⟨rfl, rfl⟩ := vr_inj e1
      obtain ⟨u, r1, r2, r3, r4, r5, r6, r7⟩ := rb0 (v := vm_sl (c_setEnd (vm_si (vm_si (vm_si v 2 7 0) 3 3 (Int32.ofNat (c + 1))) 6 c 0) 3 (Int32.ofNat c) 2 0 0 0) 93 0 (Int32.ofNat c).toInt64) (c := c) (by rw [vm_sl1, c_setEnd1 (by omega)]; simpa [vm_si1] using c3) q
      rw [r1] at e2
      obtain ⟨rfl, rfl⟩ := vr_inj e2
      refine ⟨⟨?_, ?_⟩, r2, fun _ => ?_⟩
      · rw [r6 3 3 (by omega) (by omega) (by omega) (by omega), r4, vm_sl1, c_setEnd1 (by omega)]
        simp [vm_si1]
      · rw [r6 7 3 (by omega) (by omega) (by omega) (by omega), r5, vm_sl1, c_setEnd1 (by omega), c_setEnd1 (by omega)]
        simp [vm_si1, d2, d3]
      · rw [r3]
        exact vm_sl2
    · rw [wbf0 c2 c1 q] at e1
      obtain ⟨rfl, rfl⟩ := vr_inj e1
      rw [rbf0 (v := vm_nx v) (c := c) c3 c1 q] at e2
      obtain ⟨rfl, rfl⟩ := vr_inj e2
      exact ⟨⟨by simp [vm_si1, vm_nx1, c2, c3], by simp [vm_si1, vm_nx1, d2, d3]⟩, rfl, fun h => absurd h (by decide)⟩
  · by_cases h1 : a = 1
    · subst h1
      by_cases q : d < 6
      · rw [wb1 d2 q] at e1
        obtain ⟨rfl, rfl⟩ := vr_inj e1
        obtain ⟨u, r1, r2, r3, r4, r5, r6, r7⟩ := rb1 (v := vm_sl (c_setEnd (vm_si (vm_si (vm_si v 2 7 0) 7 3 (Int32.ofNat (d + 1))) 10 d 0) 7 (Int32.ofNat d) 2 0 0 0) 93 0 (Int32.ofNat d).toInt64) (c := d) (by rw [vm_sl1, c_setEnd1 (by omega)]; simpa [vm_si1] using d3) q
        rw [r1] at e2
        obtain ⟨rfl, rfl⟩ := vr_inj e2
        refine ⟨⟨?_, ?_⟩, r2, fun _ => ?_⟩
        · rw [r6 3 3 (by omega) (by omega) (by omega) (by omega), r5, vm_sl1, c_setEnd1 (by omega), c_setEnd1 (by omega)]
          simp [vm_si1, c2, c3]
        · rw [r6 7 3 (by omega) (by omega) (by omega) (by omega), r4, vm_sl1, c_setEnd1 (by omega)]
          simp [vm_si1]
        · rw [r3]
          exact vm_sl2
      · rw [wbf1 d2 d1 q] at e1
        obtain ⟨rfl, rfl⟩ := vr_inj e1
        rw [rbf1 (v := vm_nx v) (c := d) d3 d1 q] at e2
        obtain ⟨rfl, rfl⟩ := vr_inj e2
        exact ⟨⟨by simp [vm_si1, vm_nx1, c2, c3], by simp [vm_si1, vm_nx1, d2, d3]⟩, rfl, fun h => absurd h (by decide)⟩
    · rw [w_bad h0 h1] at e1
      obtain ⟨rfl, rfl⟩ := vr_inj e1
      rw [r_bad h0 h1] at e2
      obtain ⟨rfl, rfl⟩ := vr_inj e2
      exact ⟨⟨by simp [vm_si1, vm_nx1, c2, c3], by simp [vm_si1, vm_nx1, d2, d3]⟩, rfl, fun h => absurd h (by decide)⟩
theorem vd_inj (h : vd v = vd w) : v = w := by
  cases h
  rfl
theorem op_wipe (hR : Rc v) {a w1 : Int32} (e1 : vE 38 0 [.ref 2, .int a, .retAddr 0] [] v (vr w1 v1)) (e2 : vE 159 0 [.ref 64, .int a] [] v1 (vd v2)) : Rc v2 := by
  rw [ct38] at e1
  rw [ct159] at e2
  have e2 := vd_inj e2
  by_cases h0 : a = 0
  · subst h0
    unfold w_wipe at e1
    rw [if_pos rfl] at e1
    obtain ⟨rfl, rfl⟩ := vr_inj e1
    have ho : r_outside (c_clear (vm_si v 2 7 0) 3) 0 2 = 0 := by unfold r_outside; rw [if_neg (by decide), if_pos (by decide)]
    rw [e2]
    unfold r_wipe c_clear
    unfold c_clear at ho
    have h1 := hR.2
    refine ⟨?_, ?_⟩ <;> simp [ho, vm_si1, r_changed, n0, h1]
  · by_cases h1 : a = 1
    · subst h1
      unfold w_wipe at e1
      rw [if_neg i10, if_pos rfl] at e1
      obtain ⟨rfl, rfl⟩ := vr_inj e1
      have ho : r_outside (c_clear (vm_si v 2 7 0) 7) 1 2 = 0 := by unfold r_outside; rw [if_neg (by decide), if_pos (by decide)]
      rw [e2]
      unfold r_wipe c_clear
      unfold c_clear at ho
      have h1 := hR.1
      refine ⟨?_, ?_⟩ <;> simp [ho, vm_si1, r_changed, n1, h1]
    · unfold w_wipe at e1
      rw [if_neg h0, if_neg h1] at e1
      obtain ⟨rfl, rfl⟩ := vr_inj e1
      have ho := n_out (v := vm_nx v) h0 h1
      rw [e2]
      unfold r_wipe
      have h2 := hR.1
      have h3 := hR.2
      refine ⟨?_, ?_⟩ <;> simp [ho, vm_si1, vm_nx1, h2, h3]
theorem op_take (hR : Rc v) (e1 : vE 10 0 [.ref 2] [] v (vd v1)) (e2 : vE 160 0 [.ref 64] [] v1 (vd v2)) : Rc v2 := by
  rw [ct10] at e1
  rw [ct160] at e2
  have e1 := vd_inj e1
  have e2 := vd_inj e2
  subst e1 e2
  have h1 := hR.2
  refine ⟨?_, ?_⟩
  · simp [r_take, r_changed, r_copy, c_take, c_copyFrom, vm_si1, vm_cp1, h1]
  · simp [r_take, r_changed, r_copy, c_take, c_copyFrom, vm_si1, vm_cp1, h1]
theorem op_pass (hI : lw_I xs H) (hw : vw v H) (hR : Rc v) (hI1 : lw_I xs H1) (hw1 : vw v1 H1) {a w1 w2 : Int32} (e1 : vE 41 0 [.ref 2, .int a, .ref 93, .retAddr 0] [] v (vr w1 v1)) (e2 : vE 164 0 [.ref 64, .int a, .retAddr 0, .retAddr 0] [] v1 (vr w2 v2)) : Rc v2 := by
  obtain ⟨⟨c, c1, c2, c3⟩, ⟨d, d1, d2, d3⟩⟩ := Rc_cnt hI hw hR
  have hc : (v.1 3 3).toInt ≤ 100 := by
    rw [c2, Int32.toInt_ofNat_of_lt (by omega)]
    omega
  rcases ps_c hI hw hc e1 with ⟨a1, a2, a3⟩ | ⟨a1, a3⟩
  · rcases ps_r hI1 hw1 e2 with ⟨b1, b2, b3⟩ | ⟨b1, b3⟩
    · refine ⟨?_, ?_⟩
      · rw [b3.1, a3.1, b3.2.2.1.1, a3.2.2.1 0 (by omega), hR.1]
      · rw [b3.2.1, a3.2.1, b3.2.2.1.2, a3.2.2.1 0 (by omega), hR.1]
    · exfalso
      rcases b1 with b1 | b1
      · exact a1 b1
      · exact b1 a2
  · rcases ps_r hI1 hw1 e2 with ⟨b1, b2, b3⟩ | ⟨b1, b3⟩
    · exfalso
      rcases a1 with a1 | a1
      · exact b1 a1
      · exact a1 b2
    · exact Rc_fc hR (fc_tr (fc_of a3) (fc_of b3))
end RSD
