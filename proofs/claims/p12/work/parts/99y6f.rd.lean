/-! code, block, pass: instructions and ends -/
section RSF
variable {xs : List Int32} {H H1 : am_H} {v v1 v2 w : vm_V} {x : vm_Y}
theorem pD {u : vm_V} {op d : Int32} : (if c_writes u op = 0 then 0 else d) = puD op d := by
  unfold c_writes puD
  by_cases q : op = 9
  · rw [if_pos q, if_pos rfl, if_pos q]
  · rw [if_neg q, if_neg i10, if_neg q]
theorem pA {u : vm_V} {op a : Int32} : (if c_readsA u op = 0 then 0 else a) = puA op a := by
  unfold c_readsA puA
  by_cases q : op = 0
  · rw [if_pos q, if_pos rfl, if_pos q]
  · rw [if_neg q, if_neg i10, if_neg q]
theorem pC {u : vm_V} {op c : Int32} : (if (if c_readsB u op = 0 then if op = 0 then 1 else 0 else 1 : Int32) = 0 then 0 else c) = puB op c := by
  unfold c_readsB puB
  by_cases q : op < 2
  · rw [if_pos q, if_pos rfl, if_pos q]
    by_cases z : op = 0
    · rw [if_pos z, if_neg i10, if_pos z]
    · rw [if_neg z, if_pos rfl, if_neg z]
  · rw [if_neg q, if_neg q]
    by_cases z : op = 8
    · rw [if_pos z, if_pos rfl, if_pos z]
      have : ¬ op = 0 := fun y => by
        rw [y] at z
        exact absurd z (by decide)
      rw [if_neg this, if_pos rfl]
    · rw [if_neg z, if_neg i10, if_neg i10, if_neg z]
theorem rc_s {n b op d a c : Int32} : (∃ y z : Int32, r_code v n b op d a c = vr y (r_changed (vm_si (r_put (vm_si v 64 0 0) ((32 * ((6 * n) + b)) + (4 * ((vm_si v 64 0 0).1 66 ((6 * n) + b).toNatClampNeg))) op d a c) 66 ((6 * n) + b).toNatClampNeg z))) ∨ ∃ y z : Int32, ¬ z = 0 ∧ r_code v n b op d a c = vr y (vm_si (vm_si v 64 0 0) 64 0 z) := by
  generalize hY : r_code v n b op d a c = Y
  unfold r_code at hY
  repeat' split at hY
  all_goals subst hY
  all_goals first
    | exact Or.inl ⟨_, _, rfl⟩
    | exact Or.inr ⟨_, 1, i10, rfl⟩
    | exact Or.inr ⟨_, 2, i20, rfl⟩
    | exact Or.inr ⟨_, 3, i30, rfl⟩

theorem wc_s0 {b op d a c : Int32} : (¬ c_hasBlock v 3 b = 0 ∧ c_lengthOf v 3 b < 8 ∧ w_code v 0 b op d a c = vr 0 (vm_sl (c_setCode (vm_si (vm_si v 2 7 0) 6 b.toNatClampNeg ((c_lengthOf v 3 b) + 1)) 3 b (c_lengthOf v 3 b) op (puD op d) (puA op a) (puB op c)) 93 (0 : Int32).toNatClampNeg ((c_lengthOf v 3 b).toInt64))) ∨ ∃ z : Int32, ¬ z = 0 ∧ w_code v 0 b op d a c = vr z (vm_nx v) := by
  have e1 : c_hasBlock (vm_si v 2 7 0) 3 b = c_hasBlock v 3 b := rfl
  have e2 : c_lengthOf (vm_si v 2 7 0) 3 b = c_lengthOf v 3 b := rfl
  unfold w_code
  rw [if_pos rfl]
  simp only [pD, pA, pC, e1, e2]
  by_cases hb : c_hasBlock v 3 b = 0
  · rw [if_pos hb]
    exact Or.inr ⟨1, i10, rfl⟩
  · by_cases h4 : c_lengthOf v 3 b < 8
    · simp only [if_neg hb, if_pos h4]
      repeat' split
      all_goals first
        | exact Or.inl ⟨hb, h4, rfl⟩
        | exact Or.inr ⟨2, i20, rfl⟩
    · simp only [if_neg hb, if_neg h4]
      repeat' split
      all_goals first
        | exact Or.inr ⟨2, i20, rfl⟩
        | exact Or.inr ⟨3, i30, rfl⟩
theorem cd_d0 (hI : lw_I xs H) (hw : vw v H) (hR : Rp v) {b op d a z w1 w2 : Int32} (e1 : vr w1 v1 = w_code v 0 b op d a z) (e2 : vr w2 v2 = r_code v1 0 b op d a z) (hc : v2.1 64 0 = w1) : RA v2 := by
  obtain ⟨⟨c, c1, c2, c3⟩, ⟨d', d1, d2, d3⟩⟩ := Rc_cnt hI hw hR.1.1
  rcases wc_s0 (v := v) (b := b) (op := op) (d := d) (a := a) (c := z) with ⟨hb, h4, h1⟩ | ⟨z', hz, h1⟩
  · rw [h1] at e1
    obtain ⟨rfl, hV⟩ := vr_inj e1
    obtain ⟨bn, n1, rfl⟩ := hb_nat (p := 3) c2 c1 hb
    have hl : v.1 6 bn = v.1 66 (bn) := hR.1.2.1 bn (by omega)
    have bd := gh_bd hI hw (p := 66) (n := 12) (k := bn) (lo := 0) (hi := 8) rfl (by omega)
    obtain ⟨l, l1, l2, l3⟩ := nn_of bd.1
    have hlen : c_lengthOf v 3 (Int32.ofNat bn) = Int32.ofNat l := by
      rw [pu_len c2 c1 n1]
      exact hl.trans l1
    rw [hlen] at h4
    have l4 : l < 8 := (nn_lt (b := 8) (by omega) (by omega)).mp h4
    rw [hlen, nn_nat (a := bn) (by omega), nn_s, pu_setc (p := 3) (v := vm_si (vm_si v 2 7 0) 6 bn (Int32.ofNat (l + 1))) (c := c) (l := l + 1) (by
      rw [vm_si1, if_neg (by omega), vm_si1, if_neg (by omega)]
      exact c2) c1 n1 (by
      rw [vm_si1, if_pos ⟨rfl, rfl⟩]) (by omega) (by omega)] at hV
    have q4 : ∀ j : Nat, v1.1 4 j = (setc v 4 (32 * bn + 4 * l) op (puD op d) (puA op a) (puB op z)).1 4 j := fun j => by
      rw [hV, vm_sl1]
      exact setc_cg (fun j => by rw [vm_si1, if_neg (by omega), vm_si1, if_neg (by omega)]) j
    have qo : ∀ P j : Nat, P ≠ 2 → P ≠ 4 → P ≠ 6 → v1.1 P j = v.1 P j := fun P j a1 a2 a3 => by
      rw [hV, vm_sl1, setc_o (fun y => a2 y.1), vm_si1, if_neg (fun y => a3 y.1), vm_si1, if_neg (fun y => a1 y.1)]
    rcases rc_s (v := v1) (n := 0) (b := Int32.ofNat bn) (op := op) (d := d) (a := a) (c := z) with ⟨y, z', h2⟩ | ⟨y, z', hz', h2⟩
    · rw [h2] at e2
      obtain ⟨rfl, rfl⟩ := vr_inj e2
      have i1 : (6 * (0 : Int32)) + Int32.ofNat bn = Int32.ofNat (0 + bn) := by
        rw [show (6 * (0 : Int32)) = Int32.ofNat 0 from by decide, nn_add]
      have i2 : (vm_si v1 64 0 0).1 66 (Int32.ofNat (0 + bn)).toNatClampNeg = Int32.ofNat l := by
        rw [vm_si1, if_neg (by omega), nn_nat (by omega), qo 66 _ (by omega) (by omega) (by omega), show 0 + bn = bn by omega]
        exact l1
      have ix : (32 * ((6 * (0 : Int32)) + Int32.ofNat bn)) + (4 * ((vm_si v1 64 0 0).1 66 ((6 * (0 : Int32)) + Int32.ofNat bn).toNatClampNeg)) = Int32.ofNat (32 * bn + 4 * l) := by
        rw [i1, i2, show (32 : Int32) = Int32.ofNat 32 from rfl, show (4 : Int32) = Int32.ofNat 4 from rfl, nn_mul, nn_mul, nn_add, show 32 * (0 + bn) + 4 * l = 32 * bn + 4 * l by omega]
      refine RA_4 (k := 32 * bn + 4 * l) (o := op) (d := puD op d) (a := puA op a) (z := puB op z) (Rd_A hR.2) (fun j => ?_) (fun j => ?_) (fun j => ?_) (by omega) (by omega) (fun q => if_pos q)
      · rw [r_changed1 (by omega), vm_si1, if_neg (by omega), r_put1 (by omega), vm_si1, if_neg (by omega)]
        exact q4 j
      · rw [r_changed1 (by omega), vm_si1, if_neg (by omega), r_put1 (by omega), vm_si1, if_neg (by omega)]
        exact qo 8 j (by omega) (by omega) (by omega)
      · rw [r_changed1 (by omega), vm_si1, if_neg (by omega), ix, pu_put (by omega)]
        exact setc_cg (fun j => by rw [vm_si1, if_neg (by omega), qo 67 j (by omega) (by omega) (by omega)]) j
    · exfalso
      rw [h2] at e2
      obtain ⟨rfl, rfl⟩ := vr_inj e2
      exact hz' (by simpa [vm_si1] using hc)
  · rw [h1] at e1
    obtain ⟨rfl, rfl⟩ := vr_inj e1
    rcases rc_s (v := vm_nx v) (n := 0) (b := b) (op := op) (d := d) (a := a) (c := z) with ⟨y, z2, h2⟩ | ⟨y, z2, hz2, h2⟩
    · exfalso
      rw [h2] at e2
      obtain ⟨rfl, rfl⟩ := vr_inj e2
      rw [ch_z (by rw [vm_si1, if_neg (by omega), r_put1 (by omega)]; rfl)] at hc
      exact hz hc.symm
    · rw [h2] at e2
      obtain ⟨rfl, rfl⟩ := vr_inj e2
      exact RA_f (Rd_A hR.2) ⟨fun k _ => by simp [vm_si1, vm_nx1], fun k _ => by simp [vm_si1, vm_nx1], fun k _ => by simp [vm_si1, vm_nx1]⟩

theorem wc_s1 {b op d a c : Int32} : (¬ c_hasBlock v 7 b = 0 ∧ c_lengthOf v 7 b < 8 ∧ w_code v 1 b op d a c = vr 0 (vm_sl (c_setCode (vm_si (vm_si v 2 7 0) 10 b.toNatClampNeg ((c_lengthOf v 7 b) + 1)) 7 b (c_lengthOf v 7 b) op (puD op d) (puA op a) (puB op c)) 93 (0 : Int32).toNatClampNeg ((c_lengthOf v 7 b).toInt64))) ∨ ∃ z : Int32, ¬ z = 0 ∧ w_code v 1 b op d a c = vr z (vm_nx v) := by
  have e1 : c_hasBlock (vm_si v 2 7 0) 7 b = c_hasBlock v 7 b := rfl
  have e2 : c_lengthOf (vm_si v 2 7 0) 7 b = c_lengthOf v 7 b := rfl
  unfold w_code
  rw [if_neg i10, if_pos rfl]
  simp only [pD, pA, pC, e1, e2]
  by_cases hb : c_hasBlock v 7 b = 0
  · rw [if_pos hb]
    exact Or.inr ⟨1, i10, rfl⟩
  · by_cases h4 : c_lengthOf v 7 b < 8
    · simp only [if_neg hb, if_pos h4]
      repeat' split
      all_goals first
        | exact Or.inl ⟨hb, h4, rfl⟩
        | exact Or.inr ⟨2, i20, rfl⟩
    · simp only [if_neg hb, if_neg h4]
      repeat' split
      all_goals first
        | exact Or.inr ⟨2, i20, rfl⟩
        | exact Or.inr ⟨3, i30, rfl⟩
theorem cd_d1 (hI : lw_I xs H) (hw : vw v H) (hR : Rp v) {b op d a z w1 w2 : Int32} (e1 : vr w1 v1 = w_code v 1 b op d a z) (e2 : vr w2 v2 = r_code v1 1 b op d a z) (hc : v2.1 64 0 = w1) : RA v2 := by
  obtain ⟨⟨c, c1, c2, c3⟩, ⟨d', d1, d2, d3⟩⟩ := Rc_cnt hI hw hR.1.1
  rcases wc_s1 (v := v) (b := b) (op := op) (d := d) (a := a) (c := z) with ⟨hb, h4, h1⟩ | ⟨z', hz, h1⟩
  · rw [h1] at e1
    obtain ⟨rfl, hV⟩ := vr_inj e1
    obtain ⟨bn, n1, rfl⟩ := hb_nat (p := 7) d2 d1 hb
    have hl : v.1 10 bn = v.1 66 (6 + bn) := hR.1.2.2 bn (by omega)
    have bd := gh_bd hI hw (p := 66) (n := 12) (k := 6 + bn) (lo := 0) (hi := 8) rfl (by omega)
    obtain ⟨l, l1, l2, l3⟩ := nn_of bd.1
    have hlen : c_lengthOf v 7 (Int32.ofNat bn) = Int32.ofNat l := by
      rw [pu_len d2 d1 n1]
      exact hl.trans l1
    rw [hlen] at h4
    have l4 : l < 8 := (nn_lt (b := 8) (by omega) (by omega)).mp h4
    rw [hlen, nn_nat (a := bn) (by omega), nn_s, pu_setc (p := 7) (v := vm_si (vm_si v 2 7 0) 10 bn (Int32.ofNat (l + 1))) (c := d') (l := l + 1) (by
      rw [vm_si1, if_neg (by omega), vm_si1, if_neg (by omega)]
      exact d2) d1 n1 (by
      rw [vm_si1, if_pos ⟨rfl, rfl⟩]) (by omega) (by omega)] at hV
    have q4 : ∀ j : Nat, v1.1 8 j = (setc v 8 (32 * bn + 4 * l) op (puD op d) (puA op a) (puB op z)).1 8 j := fun j => by
      rw [hV, vm_sl1]
      exact setc_cg (fun j => by rw [vm_si1, if_neg (by omega), vm_si1, if_neg (by omega)]) j
    have qo : ∀ P j : Nat, P ≠ 2 → P ≠ 8 → P ≠ 10 → v1.1 P j = v.1 P j := fun P j a1 a2 a3 => by
      rw [hV, vm_sl1, setc_o (fun y => a2 y.1), vm_si1, if_neg (fun y => a3 y.1), vm_si1, if_neg (fun y => a1 y.1)]
    rcases rc_s (v := v1) (n := 1) (b := Int32.ofNat bn) (op := op) (d := d) (a := a) (c := z) with ⟨y, z', h2⟩ | ⟨y, z', hz', h2⟩
    · rw [h2] at e2
      obtain ⟨rfl, rfl⟩ := vr_inj e2
      have i1 : (6 * (1 : Int32)) + Int32.ofNat bn = Int32.ofNat (6 + bn) := by
        rw [show (6 * (1 : Int32)) = Int32.ofNat 6 from by decide, nn_add]
      have i2 : (vm_si v1 64 0 0).1 66 (Int32.ofNat (6 + bn)).toNatClampNeg = Int32.ofNat l := by
        rw [vm_si1, if_neg (by omega), nn_nat (by omega), qo 66 _ (by omega) (by omega) (by omega), show 6 + bn = 6 + bn by omega]
        exact l1
      have ix : (32 * ((6 * (1 : Int32)) + Int32.ofNat bn)) + (4 * ((vm_si v1 64 0 0).1 66 ((6 * (1 : Int32)) + Int32.ofNat bn).toNatClampNeg)) = Int32.ofNat (192 + (32 * bn + 4 * l)) := by
        rw [i1, i2, show (32 : Int32) = Int32.ofNat 32 from rfl, show (4 : Int32) = Int32.ofNat 4 from rfl, nn_mul, nn_mul, nn_add, show 32 * (6 + bn) + 4 * l = 192 + (32 * bn + 4 * l) by omega]
      refine RA_8 (k := 32 * bn + 4 * l) (o := op) (d := puD op d) (a := puA op a) (z := puB op z) (Rd_A hR.2) (fun j => ?_) (fun j => ?_) (fun j => ?_) (by omega) (by omega) (fun q => if_pos q)
      · rw [r_changed1 (by omega), vm_si1, if_neg (by omega), r_put1 (by omega), vm_si1, if_neg (by omega)]
        exact q4 j
      · rw [r_changed1 (by omega), vm_si1, if_neg (by omega), r_put1 (by omega), vm_si1, if_neg (by omega)]
        exact qo 4 j (by omega) (by omega) (by omega)
      · rw [r_changed1 (by omega), vm_si1, if_neg (by omega), ix, pu_put (by omega)]
        exact setc_cg (fun j => by rw [vm_si1, if_neg (by omega), qo 67 j (by omega) (by omega) (by omega)]) j
    · exfalso
      rw [h2] at e2
      obtain ⟨rfl, rfl⟩ := vr_inj e2
      exact hz' (by simpa [vm_si1] using hc)
  · rw [h1] at e1
    obtain ⟨rfl, rfl⟩ := vr_inj e1
    rcases rc_s (v := vm_nx v) (n := 1) (b := b) (op := op) (d := d) (a := a) (c := z) with ⟨y, z2, h2⟩ | ⟨y, z2, hz2, h2⟩
    · exfalso
      rw [h2] at e2
      obtain ⟨rfl, rfl⟩ := vr_inj e2
      rw [ch_z (by rw [vm_si1, if_neg (by omega), r_put1 (by omega)]; rfl)] at hc
      exact hz hc.symm
    · rw [h2] at e2
      obtain ⟨rfl, rfl⟩ := vr_inj e2
      exact RA_f (Rd_A hR.2) ⟨fun k _ => by simp [vm_si1, vm_nx1], fun k _ => by simp [vm_si1, vm_nx1], fun k _ => by simp [vm_si1, vm_nx1]⟩

theorem cd_d (hI : lw_I xs H) (hw : vw v H) (hR : Rp v) {n b op d a c w1 w2 : Int32} (e1 : vE 23 0 [.ref 2, .int n, .int b, .int op, .int d, .int a, .int c, .ref 93, .retAddr 0] [] v (vr w1 v1)) (e2 : vE 151 0 [.ref 64, .int n, .int b, .int op, .int d, .int a, .int c, .retAddr 0] [] v1 (vr w2 v2)) : RA v2 := by
  obtain ⟨_, hc, _⟩ := op_code hI hw hR.1 e1 e2
  rw [ct23] at e1
  rw [ct151] at e2
  by_cases h0 : n = 0
  · subst h0
    exact cd_d0 hI hw hR e1 e2 hc
  · by_cases h1 : n = 1
    · subst h1
      exact cd_d1 hI hw hR e1 e2 hc
    · have h3 : w_code v n b op d a c = vr 1 (vm_nx v) := by
        unfold w_code
        rw [if_neg h0, if_neg h1]
      rw [h3] at e1
      obtain ⟨rfl, rfl⟩ := vr_inj e1
      have h4 : r_code (vm_nx v) n b op d a c = vr 0 (vm_si (vm_si (vm_nx v) 64 0 0) 64 0 1) := by
        unfold r_code
        rw [if_pos (ib_out h0 h1)]
      rw [h4] at e2
      obtain ⟨rfl, rfl⟩ := vr_inj e2
      exact RA_f (Rd_A hR.2) ⟨fun k _ => by simp [vm_si1, vm_nx1], fun k _ => by simp [vm_si1, vm_nx1], fun k _ => by simp [vm_si1, vm_nx1]⟩

theorem rb_e0 {c : Nat} (hc : v.1 65 0 = Int32.ofNat c) (h6 : c < 6) {w2 : Int32} (e : vr w2 v2 = r_block v 0) (k : Nat) : v2.1 68 k = (setc v 68 (4 * (0 + c)) 2 0 0 0).1 68 k := by
  have hne : ¬ Int32.ofNat c = 6 := fun q => (nn_e6 (by omega)).mp q h6
  have ho : r_outside v 0 2 = 0 := by unfold r_outside; rw [if_neg (by decide), if_pos (by decide)]
  have i1 : (6 * (0 : Int32)) + Int32.ofNat c = Int32.ofNat (0 + c) := by
    rw [show (6 * (0 : Int32)) = Int32.ofNat 0 from by decide, nn_add]
  unfold r_block at e
  simp only [ho, if_true, n0, hc, hne, if_false, vm_si1, and_self, reduceIte, Nat.reduceEqDiff, false_and, i1, r_changed1 (show (65 : Nat) ≠ 64 by omega), r_setEnd1 (show (65 : Nat) ≠ 68 by omega), show ((0 : Int32) ≤ 0) = True from by decide, nn_s] at e
  obtain ⟨_, rfl⟩ := vr_inj e
  rw [r_changed1 (by omega), vm_si1, if_neg (by omega), pu_rsete (by omega)]
  exact setc_cg (fun j => by rw [vm_si1, if_neg (by omega), vm_si1, if_neg (by omega)]) k

theorem rb_e1 {c : Nat} (hc : v.1 65 1 = Int32.ofNat c) (h6 : c < 6) {w2 : Int32} (e : vr w2 v2 = r_block v 1) (k : Nat) : v2.1 68 k = (setc v 68 (4 * (6 + c)) 2 0 0 0).1 68 k := by
  have hne : ¬ Int32.ofNat c = 6 := fun q => (nn_e6 (by omega)).mp q h6
  have ho : r_outside v 1 2 = 0 := by unfold r_outside; rw [if_neg (by decide), if_pos (by decide)]
  have i1 : (6 * (1 : Int32)) + Int32.ofNat c = Int32.ofNat (6 + c) := by
    rw [show (6 * (1 : Int32)) = Int32.ofNat 6 from by decide, nn_add]
  unfold r_block at e
  simp only [ho, if_true, n1, hc, hne, if_false, vm_si1, and_self, reduceIte, Nat.reduceEqDiff, false_and, i1, r_changed1 (show (65 : Nat) ≠ 64 by omega), r_setEnd1 (show (65 : Nat) ≠ 68 by omega), show ((0 : Int32) ≤ 0) = True from by decide, nn_s] at e
  obtain ⟨_, rfl⟩ := vr_inj e
  rw [r_changed1 (by omega), vm_si1, if_neg (by omega), pu_rsete (by omega)]
  exact setc_cg (fun j => by rw [vm_si1, if_neg (by omega), vm_si1, if_neg (by omega)]) k

theorem bk_d (hI : lw_I xs H) (hw : vw v H) (hR : Rp v) {a w1 w2 : Int32} (e1 : vE 16 0 [.ref 2, .int a, .ref 93, .retAddr 0] [] v (vr w1 v1)) (e2 : vE 147 0 [.ref 64, .int a, .retAddr 0] [] v1 (vr w2 v2)) : RE v2 := by
  rw [ct16] at e1
  rw [ct147] at e2
  obtain ⟨⟨c, c1, c2, c3⟩, ⟨d, d1, d2, d3⟩⟩ := Rc_cnt hI hw hR.1.1
  by_cases h0 : a = 0
  · subst h0
    by_cases q : c < 6
    · rw [wb0 c2 q] at e1
      obtain ⟨rfl, rfl⟩ := vr_inj e1
      obtain ⟨u, r1, r2, r3, r4, r5, r6, r7⟩ := rb0 (v := vm_sl (c_setEnd (vm_si (vm_si (vm_si v 2 7 0) 3 3 (Int32.ofNat (c + 1))) 6 c 0) 3 (Int32.ofNat c) 2 0 0 0) 93 0 (Int32.ofNat c).toInt64) (c := c) (by rw [vm_sl1, c_setEnd1 (by omega)]; simpa [vm_si1] using c3) q
      have r8 := rb_e0 (v := vm_sl (c_setEnd (vm_si (vm_si (vm_si v 2 7 0) 3 3 (Int32.ofNat (c + 1))) 6 c 0) 3 (Int32.ofNat c) 2 0 0 0) 93 0 (Int32.ofNat c).toInt64) (c := c) (by rw [vm_sl1, c_setEnd1 (by omega)]; simpa [vm_si1] using c3) q r1.symm
      rw [r1] at e2
      obtain ⟨rfl, rfl⟩ := vr_inj e2
      have st : c_setEnd (vm_si (vm_si (vm_si v 2 7 0) 3 3 (Int32.ofNat (c + 1))) 6 c 0) 3 (Int32.ofNat c) 2 0 0 0 = setc (vm_si (vm_si (vm_si v 2 7 0) 3 3 (Int32.ofNat (c + 1))) 6 c 0) 5 (4 * c) 2 0 0 0 := pu_sete (p := 3) (c := c + 1) (by
        rw [vm_si1, if_neg (by omega), vm_si1, if_pos ⟨rfl, rfl⟩]) (by omega) (by omega)
      refine RE_5 (k := 4 * c) (o := 2) (d := 0) (a := 0) (z := 0) (Rd_E hR.2) (fun j => ?_) (fun j => ?_) (fun j => ?_) (by omega)
      · rw [r6 5 j (by omega) (by omega) (by omega) (by omega), vm_sl1, st]
        exact setc_cg (fun j => by rw [vm_si1, if_neg (by omega), vm_si1, if_neg (by omega), vm_si1, if_neg (by omega)]) j
      · rw [r6 9 j (by omega) (by omega) (by omega) (by omega), vm_sl1, st, setc_o (by omega), vm_si1, if_neg (by omega), vm_si1, if_neg (by omega), vm_si1, if_neg (by omega)]
      · rw [r8, show 4 * (0 + c) = 4 * c by omega]
        exact setc_cg (fun j => by rw [vm_sl1, st, setc_o (by omega), vm_si1, if_neg (by omega), vm_si1, if_neg (by omega), vm_si1, if_neg (by omega)]) j
    · rw [wbf0 c2 c1 q] at e1
      obtain ⟨rfl, rfl⟩ := vr_inj e1
      rw [rbf0 (v := vm_nx v) (c := c) c3 c1 q] at e2
      obtain ⟨rfl, rfl⟩ := vr_inj e2
      exact RE_f (Rd_E hR.2) ⟨fun k _ => by simp [vm_si1, vm_nx1], fun k _ => by simp [vm_si1, vm_nx1], fun k _ => by simp [vm_si1, vm_nx1]⟩
  · by_cases h1 : a = 1
    · subst h1
      by_cases q : d < 6
      · rw [wb1 d2 q] at e1
        obtain ⟨rfl, rfl⟩ := vr_inj e1
        obtain ⟨u, r1, r2, r3, r4, r5, r6, r7⟩ := rb1 (v := vm_sl (c_setEnd (vm_si (vm_si (vm_si v 2 7 0) 7 3 (Int32.ofNat (d + 1))) 10 d 0) 7 (Int32.ofNat d) 2 0 0 0) 93 0 (Int32.ofNat d).toInt64) (c := d) (by rw [vm_sl1, c_setEnd1 (by omega)]; simpa [vm_si1] using d3) q
        have r8 := rb_e1 (v := vm_sl (c_setEnd (vm_si (vm_si (vm_si v 2 7 0) 7 3 (Int32.ofNat (d + 1))) 10 d 0) 7 (Int32.ofNat d) 2 0 0 0) 93 0 (Int32.ofNat d).toInt64) (c := d) (by rw [vm_sl1, c_setEnd1 (by omega)]; simpa [vm_si1] using d3) q r1.symm
        rw [r1] at e2
        obtain ⟨rfl, rfl⟩ := vr_inj e2
        have st : c_setEnd (vm_si (vm_si (vm_si v 2 7 0) 7 3 (Int32.ofNat (d + 1))) 10 d 0) 7 (Int32.ofNat d) 2 0 0 0 = setc (vm_si (vm_si (vm_si v 2 7 0) 7 3 (Int32.ofNat (d + 1))) 10 d 0) 9 (4 * d) 2 0 0 0 := pu_sete (p := 7) (c := d + 1) (by
          rw [vm_si1, if_neg (by omega), vm_si1, if_pos ⟨rfl, rfl⟩]) (by omega) (by omega)
        refine RE_9 (k := 4 * d) (o := 2) (d := 0) (a := 0) (z := 0) (Rd_E hR.2) (fun j => ?_) (fun j => ?_) (fun j => ?_) (by omega)
        · rw [r6 9 j (by omega) (by omega) (by omega) (by omega), vm_sl1, st]
          exact setc_cg (fun j => by rw [vm_si1, if_neg (by omega), vm_si1, if_neg (by omega), vm_si1, if_neg (by omega)]) j
        · rw [r6 5 j (by omega) (by omega) (by omega) (by omega), vm_sl1, st, setc_o (by omega), vm_si1, if_neg (by omega), vm_si1, if_neg (by omega), vm_si1, if_neg (by omega)]
        · rw [r8, show 4 * (6 + d) = 24 + 4 * d by omega]
          exact setc_cg (fun j => by rw [vm_sl1, st, setc_o (by omega), vm_si1, if_neg (by omega), vm_si1, if_neg (by omega), vm_si1, if_neg (by omega)]) j
      · rw [wbf1 d2 d1 q] at e1
        obtain ⟨rfl, rfl⟩ := vr_inj e1
        rw [rbf1 (v := vm_nx v) (c := d) d3 d1 q] at e2
        obtain ⟨rfl, rfl⟩ := vr_inj e2
        exact RE_f (Rd_E hR.2) ⟨fun k _ => by simp [vm_si1, vm_nx1], fun k _ => by simp [vm_si1, vm_nx1], fun k _ => by simp [vm_si1, vm_nx1]⟩
    · rw [w_bad h0 h1] at e1
      obtain ⟨rfl, rfl⟩ := vr_inj e1
      rw [r_bad h0 h1] at e2
      obtain ⟨rfl, rfl⟩ := vr_inj e2
      exact RE_f (Rd_E hR.2) ⟨fun k _ => by simp [vm_si1, vm_nx1], fun k _ => by simp [vm_si1, vm_nx1], fun k _ => by simp [vm_si1, vm_nx1]⟩

/-- what the reference's instructions are -/
theorem gh_wf (hI : lw_I xs H) (hw : vw v H) {k : Nat} (hk : k < 96) : (0 ≤ (v.1 67 (4 * k)).toInt ∧ (v.1 67 (4 * k)).toInt ≤ 9) ∧ (0 ≤ (v.1 67 (4 * k + 1)).toInt ∧ (v.1 67 (4 * k + 1)).toInt ≤ 5) ∧ (0 ≤ (v.1 67 (4 * k + 2)).toInt ∧ (v.1 67 (4 * k + 2)).toInt ≤ 5) ∧ (¬ v.1 67 (4 * k) = 0 → 0 ≤ (v.1 67 (4 * k + 3)).toInt ∧ (v.1 67 (4 * k + 3)).toInt ≤ 5) := by
  have hp : tc_g[67]? = some (32, 384, [(0, 0, 9), (0, 0, 5), (0, 0, 5), (5, 0, 5)]) := rfl
  obtain ⟨x, f1, f2⟩ := hI.1 67 _ hp
  have rd : ∀ j : Nat, j < 384 → x.2[j]? = some (.int (v.1 67 j)) := fun j hj => by
    obtain ⟨tg, fs, e1, e2, _⟩ := gh_rd hI hw (gh_arr hp hj)
    rw [f1] at e1
    cases e1
    exact e2
  rw [ty_cok_arr rfl] at f2
  obtain ⟨_, _, f3, f4⟩ := f2
  refine ⟨?_, ?_, ?_, fun h => ?_⟩
  · obtain ⟨z, z1, z2⟩ := f3 (4 * k) (0, 0, 9) _ (by
      have : 4 * k % 4 = 0 := by omega
      simp [this]) (rd (4 * k) (by omega))
    cases z1
    exact z2
  · obtain ⟨z, z1, z2⟩ := f3 (4 * k + 1) (0, 0, 5) _ (by
      have : (4 * k + 1) % 4 = 1 := by omega
      simp [this]) (rd (4 * k + 1) (by omega))
    cases z1
    exact z2
  · obtain ⟨z, z1, z2⟩ := f3 (4 * k + 2) (0, 0, 5) _ (by
      have : (4 * k + 2) % 4 = 2 := by omega
      simp [this]) (rd (4 * k + 2) (by omega))
    cases z1
    exact z2
  · rcases f4 0 5 rfl (4 * k + 3) _ (by omega) (rd (4 * k + 3) (by omega)) with z | z
    · rw [show 4 * k + 3 - 3 = 4 * k by omega, rd (4 * k) (by omega)] at z
      exact absurd (Value.int.inj (Option.some.inj z)) h
    · exact z
theorem gh_sWF (hI : lw_I xs H) (hw : vw v H) {b : Nat} (hb : b < 12) : sWF (sF v 67 b) := by
  intro i hi
  have h := gh_wf hI hw (k := 8 * b + i) (by omega)
  rw [show 4 * (8 * b + i) = 32 * b + 4 * i by omega] at h
  exact h
theorem gh_ten (hI : lw_I xs H) (hw : vw v H) : v.2.2.2 1 = 10 := by
  have hp : tc_g[1]? = some (32, 10, [(0, 1, 4)]) := rfl
  obtain ⟨x, f1, f2⟩ := hI.1 1 _ hp
  obtain ⟨tg, fs, e1, e2, _⟩ := gh_rd hI hw (gh_arr hp (k := 0) (by omega))
  rw [f1] at e1
  cases e1
  rw [ty_cok_arr rfl] at f2
  have f3 : tg = 32 := f2.1
  subst f3
  rw [← (hw.2 1 _ _ f1).1 (by decide)]
  exact f2.2.1
/-- pass, the class's, exactly -/
theorem pc_x {c : Nat} (hc : c ≤ 6) (h3 : v.1 3 3 = Int32.ofNat c) {a w1 : Int32} (e : vE 41 0 [.ref 2, .int a, .ref 93, .retAddr 0] [] v (vr w1 v1)) : (¬ a < 0 ∧ a ≤ 2 ∧ w1 = 0 ∧ v1 = vm_sl (c_psl a c 0 (c_copyFrom (vm_si v 2 7 0) 7 3)) 93 0 (c_diff (c_psl a c 0 (c_copyFrom (vm_si v 2 7 0) 7 3))).toInt64) ∨ ((a < 0 ∨ ¬ a ≤ 2) ∧ w1 = 1 ∧ v1 = vm_nx v) := by
  simp only [q41_0, q41_1, q41_2, q41_3, q41_4] at e
  obtain ⟨y, e1, e2⟩ := e
  simp only [q42_0, q42_1] at e1
  have bad : y = vt 12 v → w1 = 1 ∧ v1 = vm_nx v := by
    intro h
    subst h
    simp only [qh41_4_12, q41_12, q41_13, q41_14] at e2
    exact vr_inj e2
  by_cases h0 : a < 0
  · rw [if_pos h0] at e1
    simp only [q42_9] at e1
    exact Or.inr ⟨Or.inl h0, bad e1⟩
  · rw [if_neg h0] at e1
    simp only [q42_4, q42_5, q42_6] at e1
    by_cases h2 : a ≤ 2
    · rw [if_pos h2] at e1
      simp only [q42_19, q42_20, q42_21, q42_24, q42_25, q42_28, q42_29, q42_32, Nat.reduceAdd, ct11, exists_eq_left, vB_d, q42_35, q42_36, q42_39, ct43, vB_r, q42_42, q42_43, q42_44] at e1
      have hn : c_blockCount (c_copyFrom (vm_si v 2 7 0) 7 3) 3 = Int32.ofNat c := by
        unfold c_blockCount
        rw [cpc_copy.1]
        simpa [vm_si1] using h3
      rw [hn] at e1
      have e1 := (lp42 (a := a) hc c 0 (c_copyFrom (vm_si v 2 7 0) 7 3) (Nat.zero_add c)).mp e1
      subst e1
      simp only [vB_r, Nat.reduceAdd, q41_7, q41_8, q41_9, q41_15, q41_16] at e2
      obtain ⟨rfl, rfl⟩ := vr_inj e2
      exact Or.inl ⟨h0, h2, rfl, rfl⟩
    · rw [if_neg h2] at e1
      simp only [q42_9] at e1
      exact Or.inr ⟨Or.inr h2, bad e1⟩
/-- pass, the reference's, exactly -/
theorem pr_x {c : Nat} (hc : c ≤ 6) {a w1 : Int32} (hR : pR c 0 (r_copy (vm_si v 64 0 0) 0 1)) (e : vE 164 0 [.ref 64, .int a, .retAddr 0, .retAddr 0] [] v (vr w1 v1)) : (¬ a < 0 ∧ a ≤ 2 ∧ w1 = (r_psl a c 0 0 (r_copy (vm_si v 64 0 0) 0 1)).1 ∧ v1 = r_changed (r_psl a c 0 0 (r_copy (vm_si v 64 0 0) 0 1)).2) ∨ ((a < 0 ∨ ¬ a ≤ 2) ∧ v1 = vm_si v 64 0 1) := by
  simp only [q164_0, q164_1, q164_2, q164_3, ct148, exists_eq_left, vB_r, Nat.reduceAdd, q164_6] at e
  by_cases h : ¬ a < 0 ∧ a ≤ 2
  · have ho : r_outside v a 3 = 0 := by
      unfold r_outside
      rw [if_neg h.1, if_pos (le2_lt3.mp h.2)]
    rw [if_pos ho] at e
    simp only [q164_13, q164_14, q164_17, q164_18, q164_21] at e
    rw [if_pos (show (vm_si v 64 0 0).1 64 0 ≤ 0 from (by rw [vm_si1, if_pos ⟨rfl, rfl⟩]; decide))] at e
    simp only [q164_26, q164_27, q164_28, q164_29, ct161_01, exists_eq_left, vB_d, Nat.reduceAdd, q164_32, q164_33, q164_34, q164_35] at e
    have e := (lp164 (a := a) hc c 0 0 _ (Nat.zero_add c) hR).mp e
    obtain ⟨rfl, rfl⟩ := vr_inj e
    exact Or.inl ⟨h.1, h.2, rfl, rfl⟩
  · have ho : ¬ r_outside v a 3 = 0 := by
      unfold r_outside
      by_cases h0 : a < 0
      · rw [if_pos h0]; decide
      · rw [if_neg h0, if_neg (fun q => h ⟨h0, le2_lt3.mpr q⟩)]; decide
    rw [if_neg ho] at e
    simp only [q164_9, q164_10, q164_14, q164_17, q164_18, q164_21] at e
    rw [if_neg (show ¬ (vm_si v 64 0 1).1 64 0 ≤ 0 from (by rw [vm_si1, if_pos ⟨rfl, rfl⟩]; decide))] at e
    simp only [q164_24, q164_25] at e
    obtain ⟨_, rfl⟩ := vr_inj e
    refine Or.inr ⟨?_, rfl⟩
    by_cases h0 : a < 0
    · exact Or.inl h0
    · exact Or.inr (fun q => h ⟨h0, q⟩)
/-- the copies -/
theorem cc_o {p k : Nat} (h : p ≠ 2) (h7 : p ≠ 7) (h8 : p ≠ 8) (h9 : p ≠ 9) (h10 : p ≠ 10) : (c_copyFrom (vm_si v 2 7 0) 7 3).1 p k = v.1 p k := by
  simp [c_copyFrom, vm_si1, vm_cp1, h, h7, h8, h9, h10]
theorem cc_8 {k : Nat} (hk : k < 192) : (c_copyFrom (vm_si v 2 7 0) 7 3).1 8 k = v.1 4 k := by
  simp [c_copyFrom, vm_si1, vm_cp1, n192, n24, n6, n0, hk]
theorem cc_9 {k : Nat} (hk : k < 24) : (c_copyFrom (vm_si v 2 7 0) 7 3).1 9 k = v.1 5 k := by
  simp [c_copyFrom, vm_si1, vm_cp1, n192, n24, n6, n0, hk]
theorem rr_o {p k : Nat} (h : p ≠ 64) (h5 : p ≠ 65) (h6 : p ≠ 66) (h7 : p ≠ 67) (h8 : p ≠ 68) : (r_copy (vm_si v 64 0 0) 0 1).1 p k = v.1 p k := by
  simp [r_copy, vm_si1, vm_cp1, h, h5, h6, h7, h8]
theorem rr_67 {k : Nat} (hk : k < 192) : (r_copy (vm_si v 64 0 0) 0 1).1 67 k = v.1 67 k := by
  have h1 : ¬ 192 ≤ k := by omega
  simp [r_copy, vm_si1, vm_cp1, h1]
theorem rr_67b {k : Nat} (hk : k < 192) : (r_copy (vm_si v 64 0 0) 0 1).1 67 (192 + k) = v.1 67 k := by
  have h1 : 192 + k < 384 := by omega
  simp [r_copy, vm_si1, vm_cp1, h1]
theorem rr_68 {k : Nat} (hk : k < 24) : (r_copy (vm_si v 64 0 0) 0 1).1 68 k = v.1 68 k := by
  have h1 : ¬ 24 ≤ k := by omega
  simp [r_copy, vm_si1, vm_cp1, h1]
theorem rr_68b {k : Nat} (hk : k < 24) : (r_copy (vm_si v 64 0 0) 0 1).1 68 (24 + k) = v.1 68 k := by
  have h1 : 24 + k < 48 := by omega
  simp [r_copy, vm_si1, vm_cp1, h1]
end RSF
