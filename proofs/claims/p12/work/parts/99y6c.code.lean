/-! code: what it answers and what becomes of the lengths -/
section OPC
variable {xs : List Int32} {H H1 : am_H} {v v1 v2 w : vm_V} {x : vm_Y}
def Rl (v : vm_V) : Prop := (∀ k : Nat, k < 6 → v.1 6 k = v.1 66 k) ∧ ∀ k : Nat, k < 6 → v.1 10 k = v.1 66 (6 + k)
def Rt (v : vm_V) : Prop := Rc v ∧ Rl v
def fl_ms (ms : List Nat) : Bool := !(ty_in 6 ms) && (!(ty_in 10 ms) && !(ty_in 66 ms))
def fl_eq (v w : vm_V) : Prop := (∀ k : Nat, k < 6 → w.1 6 k = v.1 6 k) ∧ (∀ k : Nat, k < 6 → w.1 10 k = v.1 10 k) ∧ ∀ k : Nat, k < 12 → w.1 66 k = v.1 66 k
theorem gh_fl (hI : lw_I xs H) (hw : vw v H) (hw1 : vw v1 H1) {ms : List Nat} (hu : ty_un ms H H1) (hm : fl_ms ms = true) : fl_eq v v1 := by
  simp only [fl_ms, Bool.and_eq_true, Bool.not_eq_true'] at hm
  obtain ⟨m4, m5, m6⟩ := hm
  exact ⟨fun k hk => gh_fr hI hw hw1 hu m4 (gh_arr (n := 6) rfl hk), fun k hk => gh_fr hI hw hw1 hu m5 (gh_arr (n := 6) rfl hk), fun k hk => gh_fr hI hw hw1 hu m6 (gh_arr (n := 12) rfl hk)⟩
theorem fl_tr {u : vm_V} (h1 : fl_eq u v) (h2 : fl_eq v w) : fl_eq u w := ⟨fun k hk => (h2.1 k hk).trans (h1.1 k hk), fun k hk => (h2.2.1 k hk).trans (h1.2.1 k hk), fun k hk => (h2.2.2 k hk).trans (h1.2.2 k hk)⟩
theorem Rl_fl (h : Rl v) (hf : fl_eq v w) : Rl w := ⟨fun k hk => by rw [hf.1 k hk, hf.2.2 k (by omega), h.1 k hk], fun k hk => by rw [hf.2.1 k hk, hf.2.2 (6 + k) (by omega), h.2 k hk]⟩
theorem c_setCode1 {v : vm_V} {q : Nat} {b i o d a z : Int32} {p j : Nat} (h : p ≠ q + 1) : (c_setCode v q b i o d a z).1 p j = v.1 p j := by
  unfold c_setCode
  split
  · rfl
  · simp [vm_si1, h]
theorem c_setCode2 {v : vm_V} {q : Nat} {b i o d a z : Int32} : (c_setCode v q b i o d a z).2 = v.2 := by
  unfold c_setCode
  split <;> rfl
theorem r_put1 {v : vm_V} {k o d a z : Int32} {p j : Nat} (h : p ≠ 67) : (r_put v k o d a z).1 p j = v.1 p j := by
  simp [r_put, vm_si1, h]
theorem le9 {o : Int32} : o ≤ 9 ↔ o < 10 := by
  rw [Int32.le_iff_toInt_le, Int32.lt_iff_toInt_lt]
  have h2 : (9 : Int32).toInt = 9 := rfl
  have h3 : (10 : Int32).toInt = 10 := rfl
  omega
theorem out10 {k : Int32} : r_outside v k 10 = 0 ↔ ¬ k < 0 ∧ k ≤ 9 := by
  unfold r_outside
  by_cases q : k < 0
  · rw [if_pos q]
    exact ⟨fun h => absurd h i10, fun h => absurd q h.1⟩
  · rw [if_neg q]
    by_cases q2 : k < 10
    · rw [if_pos q2]
      exact ⟨fun _ => ⟨q, le9.mpr q2⟩, fun _ => rfl⟩
    · rw [if_neg q2]
      exact ⟨fun h => absurd h i10, fun h => absurd (le9.mp h.2) q2⟩
/-- what code answers -/
def ca (v : vm_V) (blk len op d a c : Int32) : Int32 := if blk = 0 then 1 else if r_outside v op 10 = 0 then (if c_badReg (c_writes v op) d = 0 then (if c_badReg (c_readsA v op) a = 0 then (if c_badReg (c_readsB v op) c = 0 then (if len < 8 then 0 else 3) else 2) else 2) else 2) else 2
theorem ca_eq {z1 z2 l1 l2 op d a c : Int32} (hz : z1 = 0 ↔ z2 = 0) (hl : ¬ z1 = 0 → l1 = l2) : ca v z1 l1 op d a c = ca w z2 l2 op d a c := by
  show ca v z1 l1 op d a c = ca v z2 l2 op d a c
  unfold ca
  by_cases q : z1 = 0
  · rw [if_pos q, if_pos (hz.mp q)]
  · rw [if_neg q, if_neg (fun q2 => q (hz.mpr q2)), hl q]
theorem i20 : ¬ (2 : Int32) = 0 := by decide
theorem i30 : ¬ (3 : Int32) = 0 := by decide
theorem bw {op d : Int32} : c_badReg (c_writes v op) d = 0 ↔ (r_writes v op = 0 ∨ r_outside v d 6 = 0) := by
  unfold c_writes r_writes
  by_cases q : op = 9
  · rw [if_pos q, bad0]
    exact ⟨fun _ => Or.inl rfl, fun _ => rfl⟩
  · rw [if_neg q, bad_out v]
    exact ⟨fun h => Or.inr h, fun h => h.resolve_left i10⟩
theorem ba {op d : Int32} : c_badReg (c_readsA v op) d = 0 ↔ (r_readsA v op = 0 ∨ r_outside v d 6 = 0) := by
  unfold c_readsA r_readsA
  by_cases q : op = 0
  · rw [if_pos q, bad0]
    exact ⟨fun _ => Or.inl rfl, fun _ => rfl⟩
  · rw [if_neg q, bad_out v]
    exact ⟨fun h => Or.inr h, fun h => h.resolve_left i10⟩
theorem bb {op d : Int32} : c_badReg (c_readsB v op) d = 0 ↔ (r_readsB v op = 0 ∨ r_outside v d 6 = 0) := by
  unfold c_readsB r_readsB
  by_cases q : op < 2
  · rw [if_pos q, if_pos (lt2.mpr q), bad0]
    exact ⟨fun _ => Or.inl rfl, fun _ => rfl⟩
  · rw [if_neg q, if_neg (fun q2 => q (lt2.mp q2))]
    by_cases q8 : op = 8
    · rw [if_pos q8, bad0]
      exact ⟨fun _ => Or.inl rfl, fun _ => rfl⟩
    · rw [if_neg q8, bad_out v]
      exact ⟨fun h => Or.inr h, fun h => h.resolve_left i10⟩
theorem wc0 {b op d a c w1 : Int32} (h : w_code v 0 b op d a c = vr w1 v1) : w1 = ca v (c_hasBlock v 3 b) (c_lengthOf v 3 b) op d a c ∧ (¬ w1 = 0 → v1.1 = v.1) ∧ (w1 = 0 → ¬ c_hasBlock v 3 b = 0 ∧ v1.2.1 93 0 = (c_lengthOf v 3 b).toInt64 ∧ ∀ q k : Nat, q ≠ 2 → q ≠ 4 → v1.1 q k = if q = 6 ∧ k = b.toNatClampNeg then c_lengthOf v 3 b + 1 else v.1 q k) := by
  unfold w_code at h
  rw [if_pos rfl] at h
  unfold ca
  have e1 : c_hasBlock (vm_si v 2 7 0) 3 b = c_hasBlock v 3 b := rfl
  have e2 : c_lengthOf (vm_si v 2 7 0) 3 b = c_lengthOf v 3 b := rfl
  have bad : ∀ z : Int32, ¬ z = 0 → vr z (vm_nx v) = vr w1 v1 → w1 = z ∧ (¬ w1 = 0 → v1.1 = v.1) ∧ (w1 = 0 → ¬ c_hasBlock v 3 b = 0 ∧ v1.2.1 93 0 = (c_lengthOf v 3 b).toInt64 ∧ ∀ q k : Nat, q ≠ 2 → q ≠ 4 → v1.1 q k = if q = 6 ∧ k = b.toNatClampNeg then c_lengthOf v 3 b + 1 else v.1 q k) := by
    intro z hz hh
    obtain ⟨rfl, rfl⟩ := vr_inj hh
    exact ⟨rfl, fun _ => rfl, fun q => absurd q hz⟩
  by_cases hb : c_hasBlock v 3 b = 0
  · rw [if_pos hb] at h ⊢
    exact bad 1 i10 h
  · rw [if_neg hb] at h ⊢
    by_cases ho : r_outside v op 10 = 0
    · rw [if_pos ho]
      obtain ⟨k1, k2⟩ := out10.mp ho
      rw [if_neg k1, if_pos k2] at h
      by_cases h1 : c_badReg (c_writes v op) d = 0
      · rw [if_pos h1] at h ⊢
        by_cases h2 : c_badReg (c_readsA v op) a = 0
        · rw [if_pos h2] at h ⊢
          by_cases h3 : c_badReg (c_readsB v op) c = 0
          · rw [if_pos h3] at h ⊢
            by_cases h4 : c_lengthOf v 3 b < 8
            · rw [if_pos h4] at h ⊢
              rw [e1, if_neg hb, e2, if_pos h4] at h
              obtain ⟨rfl, rfl⟩ := vr_inj h
              refine ⟨rfl, fun q => absurd rfl q, fun _ => ⟨hb, vm_sl2, fun q k q1 q2 => ?_⟩⟩
              rw [vm_sl1, c_setCode1 (by omega), vm_si1, vm_si1, if_neg (c := q = 2 ∧ k = 7) (fun z => q1 z.1)]
            · rw [if_neg h4] at h ⊢
              exact bad 3 i30 h
          · rw [if_neg h3] at h ⊢
            exact bad 2 i20 h
        · rw [if_neg h2] at h ⊢
          exact bad 2 i20 h
      · rw [if_neg h1] at h ⊢
        exact bad 2 i20 h
    · rw [if_neg ho]
      by_cases q : op < 0
      · rw [if_pos q] at h
        exact bad 2 i20 h
      · rw [if_neg q, if_neg (fun q2 => ho (out10.mpr ⟨q, q2⟩))] at h
        exact bad 2 i20 h

theorem wc1 {b op d a c w1 : Int32} (h : w_code v 1 b op d a c = vr w1 v1) : w1 = ca v (c_hasBlock v 7 b) (c_lengthOf v 7 b) op d a c ∧ (¬ w1 = 0 → v1.1 = v.1) ∧ (w1 = 0 → ¬ c_hasBlock v 7 b = 0 ∧ v1.2.1 93 0 = (c_lengthOf v 7 b).toInt64 ∧ ∀ q k : Nat, q ≠ 2 → q ≠ 8 → v1.1 q k = if q = 10 ∧ k = b.toNatClampNeg then c_lengthOf v 7 b + 1 else v.1 q k) := by
  unfold w_code at h
  rw [if_neg i10, if_pos rfl] at h
  unfold ca
  have e1 : c_hasBlock (vm_si v 2 7 0) 7 b = c_hasBlock v 7 b := rfl
  have e2 : c_lengthOf (vm_si v 2 7 0) 7 b = c_lengthOf v 7 b := rfl
  have bad : ∀ z : Int32, ¬ z = 0 → vr z (vm_nx v) = vr w1 v1 → w1 = z ∧ (¬ w1 = 0 → v1.1 = v.1) ∧ (w1 = 0 → ¬ c_hasBlock v 7 b = 0 ∧ v1.2.1 93 0 = (c_lengthOf v 7 b).toInt64 ∧ ∀ q k : Nat, q ≠ 2 → q ≠ 8 → v1.1 q k = if q = 10 ∧ k = b.toNatClampNeg then c_lengthOf v 7 b + 1 else v.1 q k) := by
    intro z hz hh
    obtain ⟨rfl, rfl⟩ := vr_inj hh
    exact ⟨rfl, fun _ => rfl, fun q => absurd q hz⟩
  by_cases hb : c_hasBlock v 7 b = 0
  · rw [if_pos hb] at h ⊢
    exact bad 1 i10 h
  · rw [if_neg hb] at h ⊢
    by_cases ho : r_outside v op 10 = 0
    · rw [if_pos ho]
      obtain ⟨k1, k2⟩ := out10.mp ho
      rw [if_neg k1, if_pos k2] at h
      by_cases h1 : c_badReg (c_writes v op) d = 0
      · rw [if_pos h1] at h ⊢
        by_cases h2 : c_badReg (c_readsA v op) a = 0
        · rw [if_pos h2] at h ⊢
          by_cases h3 : c_badReg (c_readsB v op) c = 0
          · rw [if_pos h3] at h ⊢
            by_cases h4 : c_lengthOf v 7 b < 8
            · rw [if_pos h4] at h ⊢
              rw [e1, if_neg hb, e2, if_pos h4] at h
              obtain ⟨rfl, rfl⟩ := vr_inj h
              refine ⟨rfl, fun q => absurd rfl q, fun _ => ⟨hb, vm_sl2, fun q k q1 q2 => ?_⟩⟩
              rw [vm_sl1, c_setCode1 (by omega), vm_si1, vm_si1, if_neg (c := q = 2 ∧ k = 7) (fun z => q1 z.1)]
            · rw [if_neg h4] at h ⊢
              exact bad 3 i30 h
          · rw [if_neg h3] at h ⊢
            exact bad 2 i20 h
        · rw [if_neg h2] at h ⊢
          exact bad 2 i20 h
      · rw [if_neg h1] at h ⊢
        exact bad 2 i20 h
    · rw [if_neg ho]
      by_cases q : op < 0
      · rw [if_pos q] at h
        exact bad 2 i20 h
      · rw [if_neg q, if_neg (fun q2 => ho (out10.mpr ⟨q, q2⟩))] at h
        exact bad 2 i20 h

theorem rc_a {n b op d a c w2 : Int32} (h : r_code v n b op d a c = vr w2 v2) (hL : ¬ r_isBlock (vm_si v 64 0 0) n b = 0 → (v.1 66 ((6 * n) + b).toNatClampNeg = 8 ↔ ¬ v.1 66 ((6 * n) + b).toNatClampNeg < 8)) : v2.1 64 0 = ca v (r_isBlock (vm_si v 64 0 0) n b) (v.1 66 ((6 * n) + b).toNatClampNeg) op d a c ∧ v2.2 = v.2 ∧ (¬ v2.1 64 0 = 0 → ∀ q k : Nat, q ≠ 64 → v2.1 q k = v.1 q k) ∧ (v2.1 64 0 = 0 → w2 = v.1 66 ((6 * n) + b).toNatClampNeg ∧ ∀ q k : Nat, q ≠ 64 → q ≠ 67 → v2.1 q k = if q = 66 ∧ k = ((6 * n) + b).toNatClampNeg then v.1 66 ((6 * n) + b).toNatClampNeg + 1 else v.1 q k) := by
  have ew : r_writes (vm_si v 64 0 0) op = r_writes v op := rfl
  have ea' : r_readsA (vm_si v 64 0 0) op = r_readsA v op := rfl
  have eb' : r_readsB (vm_si v 64 0 0) op = r_readsB v op := rfl
  have eo : ∀ y z : Int32, r_outside (vm_si v 64 0 0) y z = r_outside v y z := fun _ _ => rfl
  have el : (vm_si v 64 0 0).1 66 ((6 * n) + b).toNatClampNeg = v.1 66 ((6 * n) + b).toNatClampNeg := vm_si1.trans (if_neg (fun q => by omega))
  have bad : ∀ z : Int32, ¬ z = 0 → vr 0 (vm_si (vm_si v 64 0 0) 64 0 z) = vr w2 v2 → v2.1 64 0 = z ∧ v2.2 = v.2 ∧ (¬ v2.1 64 0 = 0 → ∀ q k : Nat, q ≠ 64 → v2.1 q k = v.1 q k) ∧ (v2.1 64 0 = 0 → w2 = v.1 66 ((6 * n) + b).toNatClampNeg ∧ ∀ q k : Nat, q ≠ 64 → q ≠ 67 → v2.1 q k = if q = 66 ∧ k = ((6 * n) + b).toNatClampNeg then v.1 66 ((6 * n) + b).toNatClampNeg + 1 else v.1 q k) := by
    intro z hz hh
    obtain ⟨rfl, rfl⟩ := vr_inj hh
    have e : (vm_si (vm_si v 64 0 0) 64 0 z).1 64 0 = z := by simp [vm_si1]
    refine ⟨e, rfl, fun _ q k q1 => by simp [vm_si1, q1], fun q => absurd (e.symm.trans q) hz⟩
  unfold r_code at h
  simp only [ew, ea', eb', eo, el] at h
  unfold ca
  by_cases hb : r_isBlock (vm_si v 64 0 0) n b = 0
  · rw [if_pos hb] at h ⊢
    exact bad 1 i10 h
  · rw [if_neg hb] at h ⊢
    by_cases ho : r_outside v op 10 = 0
    · rw [if_pos ho] at h ⊢
      have ok : ∀ _ : (if v.1 66 ((6 * n) + b).toNatClampNeg = 8 then vr 0 (vm_si (vm_si v 64 0 0) 64 0 3) else vr (((r_changed (vm_si (r_put (vm_si v 64 0 0) ((32 * ((6 * n) + b)) + (4 * (v.1 66 ((6 * n) + b).toNatClampNeg))) op d a c) 66 ((6 * n) + b).toNatClampNeg (((r_put (vm_si v 64 0 0) ((32 * ((6 * n) + b)) + (4 * (v.1 66 ((6 * n) + b).toNatClampNeg))) op d a c).1 66 ((6 * n) + b).toNatClampNeg) + 1))).1 66 ((6 * n) + b).toNatClampNeg) - 1) (r_changed (vm_si (r_put (vm_si v 64 0 0) ((32 * ((6 * n) + b)) + (4 * (v.1 66 ((6 * n) + b).toNatClampNeg))) op d a c) 66 ((6 * n) + b).toNatClampNeg (((r_put (vm_si v 64 0 0) ((32 * ((6 * n) + b)) + (4 * (v.1 66 ((6 * n) + b).toNatClampNeg))) op d a c).1 66 ((6 * n) + b).toNatClampNeg) + 1)))) = vr w2 v2, v2.1 64 0 = (if v.1 66 ((6 * n) + b).toNatClampNeg < 8 then 0 else 3) ∧ v2.2 = v.2 ∧ (¬ v2.1 64 0 = 0 → ∀ q k : Nat, q ≠ 64 → v2.1 q k = v.1 q k) ∧ (v2.1 64 0 = 0 → w2 = v.1 66 ((6 * n) + b).toNatClampNeg ∧ ∀ q k : Nat, q ≠ 64 → q ≠ 67 → v2.1 q k = if q = 66 ∧ k = ((6 * n) + b).toNatClampNeg then v.1 66 ((6 * n) + b).toNatClampNeg + 1 else v.1 q k) := by
        intro h
        by_cases h8 : v.1 66 ((6 * n) + b).toNatClampNeg = 8
        · rw [if_pos h8] at h
          rw [if_neg ((hL hb).mp h8)]
          exact bad 3 i30 h
        · rw [if_neg h8] at h
          have l8 : v.1 66 ((6 * n) + b).toNatClampNeg < 8 := Classical.byContradiction (fun q => h8 ((hL hb).mpr q))
          rw [if_pos l8]
          rw [r_put1 (by omega), el] at h
          obtain ⟨e1, rfl⟩ := vr_inj h
          have t0 : (r_changed (vm_si (r_put (vm_si v 64 0 0) ((32 * ((6 * n) + b)) + (4 * (v.1 66 ((6 * n) + b).toNatClampNeg))) op d a c) 66 ((6 * n) + b).toNatClampNeg (v.1 66 ((6 * n) + b).toNatClampNeg + 1))).1 64 0 = 0 := by
            have : (r_put (vm_si v 64 0 0) ((32 * ((6 * n) + b)) + (4 * (v.1 66 ((6 * n) + b).toNatClampNeg))) op d a c).1 64 0 = 0 := by
              rw [r_put1 (by omega)]
              rfl
            simp [r_changed, vm_si1, this]
          refine ⟨t0, ?_, fun q => absurd t0 q, fun _ => ⟨?_, fun q k q1 q2 => ?_⟩⟩
          · simp [r_changed, r_put, vm_si]
          · rw [← e1, r_changed1 (by omega), vm_si1, if_pos ⟨rfl, rfl⟩, Int32.add_sub_cancel]
          · rw [r_changed1 q1, vm_si1, r_put1 q2]
            by_cases z : q = 66 ∧ k = ((6 * n) + b).toNatClampNeg
            · rw [if_pos z, if_pos z]
            · rw [if_neg z, if_neg z, vm_si1, if_neg (fun y => q1 y.1)]
      have bw' := bw (v := v) (op := op) (d := d)
      have ba' := ba (v := v) (op := op) (d := a)
      have bb' := bb (v := v) (op := op) (d := c)
      by_cases hW : r_writes v op = 0
      · rw [if_pos (bw'.mpr (Or.inl hW))]
        rw [if_pos hW] at h
        by_cases hA : r_readsA v op = 0
        · rw [if_pos (ba'.mpr (Or.inl hA))]
          rw [if_pos hA] at h
          by_cases hC : r_readsB v op = 0
          · rw [if_pos (bb'.mpr (Or.inl hC))]
            rw [if_pos hC] at h
            exact ok h
          · rw [if_neg hC] at h
            by_cases oC : r_outside v c 6 = 0
            · rw [if_pos (bb'.mpr (Or.inr oC))]
              rw [if_pos oC] at h
              exact ok h
            · rw [if_neg (fun q => (bb'.mp q).elim hC oC)]
              rw [if_neg oC] at h
              exact bad 2 i20 h
        · rw [if_neg hA] at h
          by_cases oA : r_outside v a 6 = 0
          · rw [if_pos (ba'.mpr (Or.inr oA))]
            rw [if_pos oA] at h
            by_cases hC : r_readsB v op = 0
            · rw [if_pos (bb'.mpr (Or.inl hC))]
              rw [if_pos hC] at h
              exact ok h
            · rw [if_neg hC] at h
              by_cases oC : r_outside v c 6 = 0
              · rw [if_pos (bb'.mpr (Or.inr oC))]
                rw [if_pos oC] at h
                exact ok h
              · rw [if_neg (fun q => (bb'.mp q).elim hC oC)]
                rw [if_neg oC] at h
                exact bad 2 i20 h
          · rw [if_neg (fun q => (ba'.mp q).elim hA oA)]
            rw [if_neg oA] at h
            exact bad 2 i20 h
      · rw [if_neg hW] at h
        by_cases oD : r_outside v d 6 = 0
        · rw [if_pos (bw'.mpr (Or.inr oD))]
          rw [if_pos oD] at h
          by_cases hA : r_readsA v op = 0
          · rw [if_pos (ba'.mpr (Or.inl hA))]
            rw [if_pos hA] at h
            by_cases hC : r_readsB v op = 0
            · rw [if_pos (bb'.mpr (Or.inl hC))]
              rw [if_pos hC] at h
              exact ok h
            · rw [if_neg hC] at h
              by_cases oC : r_outside v c 6 = 0
              · rw [if_pos (bb'.mpr (Or.inr oC))]
                rw [if_pos oC] at h
                exact ok h
              · rw [if_neg (fun q => (bb'.mp q).elim hC oC)]
                rw [if_neg oC] at h
                exact bad 2 i20 h
          · rw [if_neg hA] at h
            by_cases oA : r_outside v a 6 = 0
            · rw [if_pos (ba'.mpr (Or.inr oA))]
              rw [if_pos oA] at h
              by_cases hC : r_readsB v op = 0
              · rw [if_pos (bb'.mpr (Or.inl hC))]
                rw [if_pos hC] at h
                exact ok h
              · rw [if_neg hC] at h
                by_cases oC : r_outside v c 6 = 0
                · rw [if_pos (bb'.mpr (Or.inr oC))]
                  rw [if_pos oC] at h
                  exact ok h
                · rw [if_neg (fun q => (bb'.mp q).elim hC oC)]
                  rw [if_neg oC] at h
                  exact bad 2 i20 h
            · rw [if_neg (fun q => (ba'.mp q).elim hA oA)]
              rw [if_neg oA] at h
              exact bad 2 i20 h
        · rw [if_neg (fun q => (bw'.mp q).elim hW oD)]
          rw [if_neg oD] at h
          exact bad 2 i20 h
    · rw [if_neg ho] at h ⊢
      exact bad 2 i20 h
end OPC
