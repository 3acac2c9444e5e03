/-! the lengths through block, code, take, pass -/
section OPD
variable {xs : List Int32} {H H1 : am_H} {v v1 v2 w : vm_V} {x : vm_Y}
theorem hb_nat {p c : Nat} {b : Int32} (h1 : v.1 p 3 = Int32.ofNat c) (hc : c ≤ 6) (h : ¬ c_hasBlock v p b = 0) : ∃ bn : Nat, bn < c ∧ b = Int32.ofNat bn := by
  unfold c_hasBlock at h
  by_cases q : b < 0
  · rw [if_pos q] at h
    exact absurd rfl h
  · rw [if_neg q, h1] at h
    by_cases q2 : Int32.ofNat c ≤ b
    · rw [if_pos q2] at h
      exact absurd rfl h
    · have t0 : (0 : Int32).toInt = 0 := rfl
      have a0 := Int32.le_iff_toInt_le.mp (Int32.not_lt.mp q)
      have a2 := Int32.lt_iff_toInt_lt.mp (Int32.not_le.mp q2)
      rw [Int32.toInt_ofNat_of_lt (by omega)] at a2
      obtain ⟨bn, n1, n2, n3⟩ := nn_of (x := b) (by omega)
      exact ⟨bn, by omega, n1⟩
theorem ib_nat {c nn : Nat} {b : Int32} (hn : nn < 2) (hc : c ≤ 6) (h1 : v.1 65 nn = Int32.ofNat c) (h : ¬ r_isBlock v (Int32.ofNat nn) b = 0) : ∃ bn : Nat, bn < c ∧ b = Int32.ofNat bn := by
  unfold r_isBlock at h
  by_cases q0 : r_outside v (Int32.ofNat nn) 2 = 0
  · rw [if_pos q0, nn_nat (by omega), h1] at h
    by_cases q1 : r_outside v b (Int32.ofNat c) = 0
    · unfold r_outside at q1
      by_cases q : b < 0
      · rw [if_pos q] at q1
        exact absurd q1 i10
      · rw [if_neg q] at q1
        by_cases q2 : b < Int32.ofNat c
        · have t0 : (0 : Int32).toInt = 0 := rfl
          have a0 := Int32.le_iff_toInt_le.mp (Int32.not_lt.mp q)
          have a2 := Int32.lt_iff_toInt_lt.mp q2
          rw [Int32.toInt_ofNat_of_lt (by omega)] at a2
          obtain ⟨bn, n1, n2, n3⟩ := nn_of (x := b) (by omega)
          exact ⟨bn, by omega, n1⟩
        · rw [if_neg q2] at q1
          exact absurd q1 i10
    · rw [if_neg q1] at h
      exact absurd rfl h
  · rw [if_neg q0] at h
    exact absurd rfl h
theorem l8 {z : Int32} (h0 : 0 ≤ z.toInt) (h8 : z.toInt ≤ 8) : z = 8 ↔ ¬ z < 8 := by
  have t8 : (8 : Int32).toInt = 8 := rfl
  rw [Int32.lt_iff_toInt_lt]
  constructor
  · intro h
    rw [h]
    omega
  · intro h
    exact Int32.toInt_inj.mp (by omega)
theorem op_code0 (hI : lw_I xs H) (hw : vw v H) (hR : Rt v) {b op d a z w1 w2 : Int32} (e1 : vr w1 v1 = w_code v 0 b op d a z) (e2 : vr w2 v2 = r_code v1 0 b op d a z) : Rt v2 ∧ v2.1 64 0 = w1 ∧ (w1 = 0 → v2.2.1 93 0 = w2.toInt64) := by
  obtain ⟨⟨c, c1, c2, c3⟩, ⟨d', d1, d2, d3⟩⟩ := Rc_cnt hI hw hR.1
  obtain ⟨a1, a2, a3⟩ := wc0 e1.symm
  have hq : ∀ q k : Nat, q ≠ 2 → q ≠ 4 → q ≠ 6 → v1.1 q k = v.1 q k := by
    intro q k q1 q2 q3
    by_cases z : w1 = 0
    · rw [(a3 z).2.2 q k q1 q2, if_neg (fun y => q3 y.1)]
    · rw [a2 z]
  have h65 : (vm_si v1 64 0 0).1 65 0 = Int32.ofNat c := by
    rw [vm_si1, if_neg (by omega), hq 65 0 (by omega) (by omega) (by omega), c3]
  have hb := hb_ib (b := b) (v := v) (w := vm_si v1 64 0 0) (p := 3) (nn := 0) c1 c2 (by omega) h65
  have fact : ¬ c_hasBlock v 3 b = 0 → ∃ bn : Nat, bn < 6 ∧ b.toNatClampNeg = bn ∧ ((6 * (0 : Int32)) + b).toNatClampNeg = 0 + bn ∧ c_lengthOf v 3 b = v.1 66 (0 + bn) ∧ v1.1 66 (0 + bn) = v.1 66 (0 + bn) ∧ v.1 6 bn = v.1 66 (0 + bn) := by
    intro h
    obtain ⟨bn, n1, rfl⟩ := hb_nat c2 c1 h
    have hl := hR.2.1 bn (by omega)
    have hl : v.1 6 bn = v.1 66 (0 + bn) := by rw [hl]; rw [Nat.zero_add]
    refine ⟨bn, by omega, nn_nat (by omega), nn_ma (c := 6) (t := 0) (i := bn) (by omega), ?_, hq 66 _ (by omega) (by omega) (by omega), hl⟩
    rw [pu_len c2 c1 n1]
    exact hl
  have hL : ¬ r_isBlock (vm_si v1 64 0 0) 0 b = 0 → (v1.1 66 ((6 * (0 : Int32)) + b).toNatClampNeg = 8 ↔ ¬ v1.1 66 ((6 * (0 : Int32)) + b).toNatClampNeg < 8) := by
    intro h
    obtain ⟨bn, n1, n2, n3, n4, n5, n6⟩ := fact (fun q => h (hb.mp q))
    rw [n3, n5]
    have := gh_bd hI hw (p := 66) (n := 12) (k := 0 + bn) (lo := 0) (hi := 8) rfl (by omega)
    exact l8 this.1 this.2
  obtain ⟨b1, b2, b3, b4⟩ := rc_a e2.symm hL
  have hc : v2.1 64 0 = w1 := by
    rw [b1, a1]
    refine (ca_eq hb (fun h => ?_)).symm
    obtain ⟨bn, n1, n2, n3, n4, n5, n6⟩ := fact h
    rw [n3, n5, n4]
  refine ⟨?_, hc, fun hz => ?_⟩
  · by_cases hz : w1 = 0
    · obtain ⟨g1, g2, g3⟩ := a3 hz
      obtain ⟨bn, n1, n2, n3, n4, n5, n6⟩ := fact g1
      obtain ⟨f1, f2⟩ := b4 (hc.trans hz)
      rw [n3, n5] at f2
      rw [n2, n4] at g3
      have r1 : ∀ q k : Nat, q ≠ 64 → q ≠ 67 → q ≠ 66 → v2.1 q k = v1.1 q k := fun q k q1 q2 q3 => by rw [f2 q k q1 q2, if_neg (fun y => q3 y.1)]
      refine ⟨⟨?_, ?_⟩, fun k hk => ?_, fun k hk => ?_⟩
      · rw [r1 3 3 (by omega) (by omega) (by omega), r1 65 0 (by omega) (by omega) (by omega), hq 3 3 (by omega) (by omega) (by omega), hq 65 0 (by omega) (by omega) (by omega)]
        exact hR.1.1
      · rw [r1 7 3 (by omega) (by omega) (by omega), r1 65 1 (by omega) (by omega) (by omega), hq 7 3 (by omega) (by omega) (by omega), hq 65 1 (by omega) (by omega) (by omega)]
        exact hR.1.2
      · rw [r1 6 k (by omega) (by omega) (by omega), f2 66 k (by omega) (by omega), g3 6 k (by omega) (by omega), hq 66 k (by omega) (by omega) (by omega), hR.2.1 k hk]
        by_cases e : k = bn
        · rw [if_pos ⟨rfl, e⟩, if_pos ⟨rfl, by omega⟩]
        · rw [if_neg (fun y => e y.2), if_neg (fun y => e (by omega))]
      · rw [r1 10 k (by omega) (by omega) (by omega), f2 66 (6 + k) (by omega) (by omega), g3 10 k (by omega) (by omega), hq 66 (6 + k) (by omega) (by omega) (by omega), hR.2.2 k hk]
        rw [if_neg (by omega), if_neg (by omega)]
    · have r1 : ∀ q k : Nat, q ≠ 64 → v2.1 q k = v.1 q k := fun q k q1 => by rw [b3 (fun q => hz (hc.symm.trans q)) q k q1, a2 hz]
      refine ⟨⟨?_, ?_⟩, fun k hk => ?_, fun k hk => ?_⟩
      · rw [r1 3 3 (by omega), r1 65 0 (by omega)]
        exact hR.1.1
      · rw [r1 7 3 (by omega), r1 65 1 (by omega)]
        exact hR.1.2
      · rw [r1 6 k (by omega), r1 66 k (by omega), hR.2.1 k hk]
      · rw [r1 10 k (by omega), r1 66 (6 + k) (by omega), hR.2.2 k hk]
  · obtain ⟨g1, g2, g3⟩ := a3 hz
    obtain ⟨bn, n1, n2, n3, n4, n5, n6⟩ := fact g1
    obtain ⟨f1, f2⟩ := b4 (hc.trans hz)
    rw [b2, g2, f1, n3, n5, n4]

theorem op_code1 (hI : lw_I xs H) (hw : vw v H) (hR : Rt v) {b op d a z w1 w2 : Int32} (e1 : vr w1 v1 = w_code v 1 b op d a z) (e2 : vr w2 v2 = r_code v1 1 b op d a z) : Rt v2 ∧ v2.1 64 0 = w1 ∧ (w1 = 0 → v2.2.1 93 0 = w2.toInt64) := by
  obtain ⟨⟨c, c1, c2, c3⟩, ⟨d', d1, d2, d3⟩⟩ := Rc_cnt hI hw hR.1
  obtain ⟨a1, a2, a3⟩ := wc1 e1.symm
  have hq : ∀ q k : Nat, q ≠ 2 → q ≠ 8 → q ≠ 10 → v1.1 q k = v.1 q k := by
    intro q k q1 q2 q3
    by_cases z : w1 = 0
    · rw [(a3 z).2.2 q k q1 q2, if_neg (fun y => q3 y.1)]
    · rw [a2 z]
  have h65 : (vm_si v1 64 0 0).1 65 1 = Int32.ofNat d' := by
    rw [vm_si1, if_neg (by omega), hq 65 1 (by omega) (by omega) (by omega), d3]
  have hb := hb_ib (b := b) (v := v) (w := vm_si v1 64 0 0) (p := 7) (nn := 1) d1 d2 (by omega) h65
  have fact : ¬ c_hasBlock v 7 b = 0 → ∃ bn : Nat, bn < 6 ∧ b.toNatClampNeg = bn ∧ ((6 * (1 : Int32)) + b).toNatClampNeg = 6 + bn ∧ c_lengthOf v 7 b = v.1 66 (6 + bn) ∧ v1.1 66 (6 + bn) = v.1 66 (6 + bn) ∧ v.1 10 bn = v.1 66 (6 + bn) := by
    intro h
    obtain ⟨bn, n1, rfl⟩ := hb_nat d2 d1 h
    have hl := hR.2.2 bn (by omega)
    have hl : v.1 10 bn = v.1 66 (6 + bn) := by rw [hl]
    refine ⟨bn, by omega, nn_nat (by omega), nn_ma (c := 6) (t := 1) (i := bn) (by omega), ?_, hq 66 _ (by omega) (by omega) (by omega), hl⟩
    rw [pu_len d2 d1 n1]
    exact hl
  have hL : ¬ r_isBlock (vm_si v1 64 0 0) 1 b = 0 → (v1.1 66 ((6 * (1 : Int32)) + b).toNatClampNeg = 8 ↔ ¬ v1.1 66 ((6 * (1 : Int32)) + b).toNatClampNeg < 8) := by
    intro h
    obtain ⟨bn, n1, n2, n3, n4, n5, n6⟩ := fact (fun q => h (hb.mp q))
    rw [n3, n5]
    have := gh_bd hI hw (p := 66) (n := 12) (k := 6 + bn) (lo := 0) (hi := 8) rfl (by omega)
    exact l8 this.1 this.2
  obtain ⟨b1, b2, b3, b4⟩ := rc_a e2.symm hL
  have hc : v2.1 64 0 = w1 := by
    rw [b1, a1]
    refine (ca_eq hb (fun h => ?_)).symm
    obtain ⟨bn, n1, n2, n3, n4, n5, n6⟩ := fact h
    rw [n3, n5, n4]
  refine ⟨?_, hc, fun hz => ?_⟩
  · by_cases hz : w1 = 0
    · obtain ⟨g1, g2, g3⟩ := a3 hz
      obtain ⟨bn, n1, n2, n3, n4, n5, n6⟩ := fact g1
      obtain ⟨f1, f2⟩ := b4 (hc.trans hz)
      rw [n3, n5] at f2
      rw [n2, n4] at g3
      have r1 : ∀ q k : Nat, q ≠ 64 → q ≠ 67 → q ≠ 66 → v2.1 q k = v1.1 q k := fun q k q1 q2 q3 => by rw [f2 q k q1 q2, if_neg (fun y => q3 y.1)]
      refine ⟨⟨?_, ?_⟩, fun k hk => ?_, fun k hk => ?_⟩
      · rw [r1 3 3 (by omega) (by omega) (by omega), r1 65 0 (by omega) (by omega) (by omega), hq 3 3 (by omega) (by omega) (by omega), hq 65 0 (by omega) (by omega) (by omega)]
        exact hR.1.1
      · rw [r1 7 3 (by omega) (by omega) (by omega), r1 65 1 (by omega) (by omega) (by omega), hq 7 3 (by omega) (by omega) (by omega), hq 65 1 (by omega) (by omega) (by omega)]
        exact hR.1.2
      · rw [r1 6 k (by omega) (by omega) (by omega), f2 66 k (by omega) (by omega), g3 6 k (by omega) (by omega), hq 66 k (by omega) (by omega) (by omega), hR.2.1 k hk]
        rw [if_neg (by omega), if_neg (by omega)]
      · rw [r1 10 k (by omega) (by omega) (by omega), f2 66 (6 + k) (by omega) (by omega), g3 10 k (by omega) (by omega), hq 66 (6 + k) (by omega) (by omega) (by omega), hR.2.2 k hk]
        by_cases e : k = bn
        · rw [if_pos ⟨rfl, e⟩, if_pos ⟨rfl, by omega⟩]
        · rw [if_neg (fun y => e y.2), if_neg (fun y => e (by omega))]
    · have r1 : ∀ q k : Nat, q ≠ 64 → v2.1 q k = v.1 q k := fun q k q1 => by rw [b3 (fun q => hz (hc.symm.trans q)) q k q1, a2 hz]
      refine ⟨⟨?_, ?_⟩, fun k hk => ?_, fun k hk => ?_⟩
      · rw [r1 3 3 (by omega), r1 65 0 (by omega)]
        exact hR.1.1
      · rw [r1 7 3 (by omega), r1 65 1 (by omega)]
        exact hR.1.2
      · rw [r1 6 k (by omega), r1 66 k (by omega), hR.2.1 k hk]
      · rw [r1 10 k (by omega), r1 66 (6 + k) (by omega), hR.2.2 k hk]
  · obtain ⟨g1, g2, g3⟩ := a3 hz
    obtain ⟨bn, n1, n2, n3, n4, n5, n6⟩ := fact g1
    obtain ⟨f1, f2⟩ := b4 (hc.trans hz)
    rw [b2, g2, f1, n3, n5, n4]

theorem op_code (hI : lw_I xs H) (hw : vw v H) (hR : Rt v) {n b op d a z w1 w2 : Int32} (e1 : vE 23 0 [.ref 2, .int n, .int b, .int op, .int d, .int a, .int z, .ref 93, .retAddr 0] [] v (vr w1 v1)) (e2 : vE 151 0 [.ref 64, .int n, .int b, .int op, .int d, .int a, .int z, .retAddr 0] [] v1 (vr w2 v2)) : Rt v2 ∧ v2.1 64 0 = w1 ∧ (w1 = 0 → v2.2.1 93 0 = w2.toInt64) := by
  rw [ct23] at e1
  rw [ct151] at e2
  by_cases h0 : n = 0
  · subst h0
    exact op_code0 hI hw hR e1 e2
  · by_cases h1 : n = 1
    · subst h1
      exact op_code1 hI hw hR e1 e2
    · have hi : r_isBlock (vm_si v1 64 0 0) n b = 0 := ib_out h0 h1
      obtain ⟨b1, b2, b3, _⟩ := rc_a e2.symm (fun q => absurd hi q)
      unfold w_code at e1
      rw [if_neg h0, if_neg h1] at e1
      obtain ⟨rfl, rfl⟩ := vr_inj e1
      have hc : v2.1 64 0 = 1 := by
        rw [b1]
        unfold ca
        rw [if_pos hi]
      have r1 : ∀ q k : Nat, q ≠ 64 → v2.1 q k = v.1 q k := fun q k q1 => b3 (fun q => i10 (hc.symm.trans q)) q k q1
      refine ⟨⟨⟨?_, ?_⟩, fun k hk => ?_, fun k hk => ?_⟩, hc, fun q => absurd q i10⟩
      · rw [r1 3 3 (by omega), r1 65 0 (by omega)]
        exact hR.1.1
      · rw [r1 7 3 (by omega), r1 65 1 (by omega)]
        exact hR.1.2
      · rw [r1 6 k (by omega), r1 66 k (by omega), hR.2.1 k hk]
      · rw [r1 10 k (by omega), r1 66 (6 + k) (by omega), hR.2.2 k hk]
/-- the lengths: block -/
theorem bl_l (hI : lw_I xs H) (hw : vw v H) (hR : Rt v) {a w1 w2 : Int32} (e1 : vE 16 0 [.ref 2, .int a, .ref 93, .retAddr 0] [] v (vr w1 v1)) (e2 : vE 147 0 [.ref 64, .int a, .retAddr 0] [] v1 (vr w2 v2)) : Rl v2 := by
  rw [ct16] at e1
  rw [ct147] at e2
  obtain ⟨⟨c, c1, c2, c3⟩, ⟨d, d1, d2, d3⟩⟩ := Rc_cnt hI hw hR.1
  have h6 := hR.2.1
  have h10 := hR.2.2
  by_cases h0 : a = 0
  · subst h0
    by_cases q : c < 6
    · rw [wb0 c2 q] at e1
      obtain ⟨rfl, rfl⟩ := vr_inj e1
      obtain ⟨u, r1, r2, r3, r4, r5, r6, r7⟩ := rb0 (v := vm_sl (c_setEnd (vm_si (vm_si (vm_si v 2 7 0) 3 3 (Int32.ofNat (c + 1))) 6 c 0) 3 (Int32.ofNat c) 2 0 0 0) 93 0 (Int32.ofNat c).toInt64) (c := c) (by rw [vm_sl1, c_setEnd1 (by omega)]; simpa [vm_si1] using c3) q
      rw [r1] at e2
      obtain ⟨rfl, rfl⟩ := vr_inj e2
      refine ⟨fun k hk => ?_, fun k hk => ?_⟩
      · rw [r6 6 k (by omega) (by omega) (by omega) (by omega), r7 k, vm_sl1, c_setEnd1 (by omega), c_setEnd1 (by omega)]
        have := h6 k hk
        by_cases e : k = c <;> simp [vm_si1, e, this]
      · rw [r6 10 k (by omega) (by omega) (by omega) (by omega), r7 (6 + k), vm_sl1, c_setEnd1 (by omega), c_setEnd1 (by omega)]
        have := h10 k hk
        have e : ¬ (6 + k = 0 + c) := by omega
        simp [vm_si1, e, this]
        omega
    · rw [wbf0 c2 c1 q] at e1
      obtain ⟨rfl, rfl⟩ := vr_inj e1
      rw [rbf0 (v := vm_nx v) (c := c) c3 c1 q] at e2
      obtain ⟨rfl, rfl⟩ := vr_inj e2
      exact ⟨fun k hk => by simpa [vm_si1, vm_nx1] using h6 k hk, fun k hk => by simpa [vm_si1, vm_nx1] using h10 k hk⟩
  · by_cases h1 : a = 1
    · subst h1
      by_cases q : d < 6
      · rw [wb1 d2 q] at e1
        obtain ⟨rfl, rfl⟩ := vr_inj e1
        obtain ⟨u, r1, r2, r3, r4, r5, r6, r7⟩ := rb1 (v := vm_sl (c_setEnd (vm_si (vm_si (vm_si v 2 7 0) 7 3 (Int32.ofNat (d + 1))) 10 d 0) 7 (Int32.ofNat d) 2 0 0 0) 93 0 (Int32.ofNat d).toInt64) (c := d) (by rw [vm_sl1, c_setEnd1 (by omega)]; simpa [vm_si1] using d3) q
        rw [r1] at e2
        obtain ⟨rfl, rfl⟩ := vr_inj e2
        refine ⟨fun k hk => ?_, fun k hk => ?_⟩
        · rw [r6 6 k (by omega) (by omega) (by omega) (by omega), r7 k, vm_sl1, c_setEnd1 (by omega), c_setEnd1 (by omega)]
          have := h6 k hk
          have e : ¬ (k = 6 + d) := by omega
          simp [vm_si1, e, this]
        · rw [r6 10 k (by omega) (by omega) (by omega) (by omega), r7 (6 + k), vm_sl1, c_setEnd1 (by omega), c_setEnd1 (by omega)]
          have := h10 k hk
          by_cases e : k = d
          · subst e
            simp [vm_si1]
          · have e' : ¬ (6 + k = 6 + d) := by omega
            simp [vm_si1, e, e', this]
      · rw [wbf1 d2 d1 q] at e1
        obtain ⟨rfl, rfl⟩ := vr_inj e1
        rw [rbf1 (v := vm_nx v) (c := d) d3 d1 q] at e2
        obtain ⟨rfl, rfl⟩ := vr_inj e2
        exact ⟨fun k hk => by simpa [vm_si1, vm_nx1] using h6 k hk, fun k hk => by simpa [vm_si1, vm_nx1] using h10 k hk⟩
    · rw [w_bad h0 h1] at e1
      obtain ⟨rfl, rfl⟩ := vr_inj e1
      rw [r_bad h0 h1] at e2
      obtain ⟨rfl, rfl⟩ := vr_inj e2
      exact ⟨fun k hk => by simpa [vm_si1, vm_nx1] using h6 k hk, fun k hk => by simpa [vm_si1, vm_nx1] using h10 k hk⟩
theorem tk_l (hR : Rl v) (e1 : vE 10 0 [.ref 2] [] v (vd v1)) (e2 : vE 160 0 [.ref 64] [] v1 (vd v2)) : Rl v2 := by
  rw [ct10] at e1
  rw [ct160] at e2
  have e1 := vd_inj e1
  have e2 := vd_inj e2
  subst e1 e2
  refine ⟨fun k hk => ?_, fun k hk => ?_⟩
  · have h1 := hR.2 k hk
    have e : k < 6 := hk
    simp [r_take, r_changed, r_copy, c_take, c_copyFrom, vm_si1, vm_cp1, n6, n0, e, h1]
  · have h1 := hR.2 k hk
    have e : ¬ (6 + k < 6) := by omega
    simp [r_take, r_changed, r_copy, c_take, c_copyFrom, vm_si1, vm_cp1, n6, n0, e, h1]
theorem ps_l (hI : lw_I xs H) (hw : vw v H) (hR : Rt v) (hI1 : lw_I xs H1) (hw1 : vw v1 H1) {a w1 w2 : Int32} (e1 : vE 41 0 [.ref 2, .int a, .ref 93, .retAddr 0] [] v (vr w1 v1)) (e2 : vE 164 0 [.ref 64, .int a, .retAddr 0, .retAddr 0] [] v1 (vr w2 v2)) : Rl v2 := by
  obtain ⟨⟨c, c1, c2, c3⟩, ⟨d, d1, d2, d3⟩⟩ := Rc_cnt hI hw hR.1
  have hc : (v.1 3 3).toInt ≤ 100 := by
    rw [c2, Int32.toInt_ofNat_of_lt (by omega)]
    omega
  rcases ps_c hI hw hc e1 with ⟨a1, a2, a3⟩ | ⟨a1, a3⟩
  · rcases ps_r hI1 hw1 e2 with ⟨b1, b2, b3⟩ | ⟨b1, b3⟩
    · obtain ⟨_, _, _, x4, x5, x6⟩ := a3
      obtain ⟨_, _, _, y4, y5, y6, y7⟩ := b3
      refine ⟨fun k hk => ?_, fun k hk => ?_⟩
      · rw [y4 k hk, x4 k hk, y6 k hk, x6 k (by omega), hR.2.1 k hk]
      · rw [y5 k hk, x5 k hk, y7 k hk, x6 k (by omega), hR.2.1 k hk]
    · exfalso
      rcases b1 with b1 | b1
      · exact a1 b1
      · exact b1 a2
  · rcases ps_r hI1 hw1 e2 with ⟨b1, b2, b3⟩ | ⟨b1, b3⟩
    · exfalso
      rcases a1 with a1 | a1
      · exact b1 a1
      · exact a1 b2
    · have hf := fs_tr a3 b3
      exact Rl_fl hR.2 ⟨hf.2.2.2.1, hf.2.2.2.2.1, hf.2.2.2.2.2⟩
theorem Rt_0 : True := trivial
end OPD
