/-! instruction, ending: what they throw and answer -/
section RSH
variable {xs : List Int32} {H H1 : am_H} {v v1 v2 w : vm_V} {x : vm_Y}
theorem out_nat {a : Int32} {l : Nat} (hl : l < 100000) : r_outside w a (Int32.ofNat l) = 0 ↔ ∃ j : Nat, j < l ∧ a = Int32.ofNat j := by
  unfold r_outside
  constructor
  · intro h
    by_cases q : a < 0
    · rw [if_pos q] at h
      exact absurd h i10
    · rw [if_neg q] at h
      by_cases q2 : a < Int32.ofNat l
      · have t0 : (0 : Int32).toInt = 0 := rfl
        have a0 := Int32.le_iff_toInt_le.mp (Int32.not_lt.mp q)
        have a2 := Int32.lt_iff_toInt_lt.mp q2
        rw [Int32.toInt_ofNat_of_lt (by omega)] at a2
        obtain ⟨j, n1, n2, n3⟩ := nn_of (x := a) (by omega)
        exact ⟨j, by omega, n1⟩
      · rw [if_neg q2] at h
        exact absurd h i10
  · rintro ⟨j, j1, rfl⟩
    rw [if_neg (nn_n0 (by omega)), if_pos ((nn_lt (by omega) (by omega)).mpr j1)]
theorem nn_le5 {a b : Nat} (ha : a < 100000) (hb : b < 100000) : Int32.ofNat a ≤ Int32.ofNat b ↔ a ≤ b := by
  rw [Int32.le_iff_toInt_le, Int32.toInt_ofNat_of_lt (by omega), Int32.toInt_ofNat_of_lt (by omega)]
  omega

theorem in_0 (hI : lw_I xs H) (hw : vw v H) (hR : Rp v) {b i f w1 w2 : Int32} (e1 : vr w1 v1 = w_instr v 0 b i f) (e2 : vr w2 v2 = r_instr v1 0 b i f) : v2.1 64 0 = w1 ∧ (w1 = 0 → v2.2.1 93 0 = w2.toInt64) := by
  obtain ⟨⟨c, c1, c2, c3⟩, ⟨d, d1, d2, d3⟩⟩ := Rc_cnt hI hw hR.1.1
  have hv : v1.1 = v.1 := by
    unfold w_instr at e1
    rw [if_pos rfl] at e1
    repeat' split at e1
    all_goals
      obtain ⟨_, rfl⟩ := vr_inj e1
      rfl
  have hb := hb_ib (v := v) (w := v1) (p := 3) (nn := 0) (b := b) c1 c2 (by omega) (by rw [hv]; exact c3)
  unfold r_instr at e2
  obtain ⟨e3, e4⟩ := vr_inj e2
  have k64 : ∀ z : Int32, (vm_si v1 64 0 z).1 64 0 = z := fun z => by rw [vm_si1, if_pos ⟨rfl, rfl⟩]
  by_cases q : c_hasBlock v 3 b = 0
  · have hl : c_lengthOf v 3 b = 0 := if_pos q
    have hz : c_hasCode v 3 b i = 0 := by
      unfold c_hasCode
      rw [hl]
      by_cases i0 : i < 0
      · rw [if_pos i0]
      · rw [if_neg i0]
        by_cases i8 : 8 ≤ i
        · rw [if_pos i8]
        · rw [if_neg i8, if_pos (Int32.not_lt.mp i0)]
    have hW : w_instr v 0 b i f = vr 1 (vm_nx v) := by
      unfold w_instr
      rw [if_pos rfl, if_pos hz]
    rw [hW] at e1
    obtain ⟨rfl, _⟩ := vr_inj e1
    rw [if_pos (show r_isBlock v1 0 b = 0 from hb.mp q)] at e4
    exact ⟨by rw [e4, k64], fun h => absurd h i10⟩
  · have nq : ¬ r_isBlock v1 0 b = 0 := fun z => q (hb.mpr z)
    obtain ⟨bn, n1, rfl⟩ := hb_nat (p := 3) c2 c1 q
    have hl : v.1 6 bn = v.1 66 (bn) := hR.1.2.1 bn (by omega)
    have bd := gh_bd hI hw (p := 66) (n := 12) (k := bn) (lo := 0) (hi := 8) rfl (by omega)
    obtain ⟨l, l1, l2, l3⟩ := nn_of bd.1
    have hlen : c_lengthOf v 3 (Int32.ofNat bn) = Int32.ofNat l := by
      rw [pu_len c2 c1 n1]
      exact hl.trans l1
    have i1 : (6 * (0 : Int32)) + Int32.ofNat bn = Int32.ofNat (0 + bn) := by
      rw [show (6 * (0 : Int32)) = Int32.ofNat 0 from by decide, nn_add]
    have i2 : v1.1 66 (Int32.ofNat (0 + bn)).toNatClampNeg = Int32.ofNat l := by
      rw [hv, nn_nat (by omega), show 0 + bn = bn by omega]
      exact l1
    rw [if_neg nq, i1, i2] at e3 e4
    by_cases ho : r_outside v1 i (Int32.ofNat l) = 0
    · rw [if_pos ho] at e3 e4
      obtain ⟨j, j1, rfl⟩ := (out_nat (by omega)).mp ho
      have hc1 : c_hasCode v 3 (Int32.ofNat bn) (Int32.ofNat j) = 1 := by
        unfold c_hasCode
        rw [hlen, if_neg (nn_n0 (by omega)), if_neg (show ¬ (8 : Int32) ≤ Int32.ofNat j from nl (k := 8) (by omega) (by omega) (by omega)), if_neg (nl (by omega) (by omega) j1)]
      by_cases hf : r_outside v1 f 4 = 0
      · rw [if_pos hf] at e3 e4
        obtain ⟨g, g1, rfl⟩ := (out_nat (w := v1) (l := 4) (by omega)).mp hf
        have hW : w_instr v 0 (Int32.ofNat bn) (Int32.ofNat j) (Int32.ofNat g) = vr 0 (vm_sl v 93 (0 : Int32).toNatClampNeg ((c_codeAt v 3 (Int32.ofNat bn) (Int32.ofNat j) (Int32.ofNat g)).toInt64)) := by
          unfold w_instr
          rw [if_pos rfl, hc1, if_neg i10, if_neg (nn_n0 (by omega)), if_pos (show Int32.ofNat g < 4 from (nn_lt (b := 4) (by omega) (by omega)).mpr g1)]
        rw [hW] at e1
        obtain ⟨rfl, e5⟩ := vr_inj e1
        refine ⟨by rw [e4, k64], fun _ => ?_⟩
        rw [k64, if_pos (by decide), vm_si1, if_neg (by omega), hv, show (32 : Int32) = Int32.ofNat 32 from rfl, show (4 : Int32) = Int32.ofNat 4 from rfl, nn_mul, nn_mul, nn_add, nn_add, nn_nat (by omega), show 32 * (0 + bn) + 4 * j + g = 32 * bn + 4 * j + g by omega] at e3
        rw [e4, e3, show (vm_si v1 64 0 0).2 = v1.2 from rfl, e5, pu_code c2 c1 n1 (by omega) g1]
        show (vm_sl v 93 (0 : Int32).toNatClampNeg _).2.1 93 (0 : Int32).toNatClampNeg = _
        rw [vm_sl2]
        exact congrArg Int32.toInt64 (hR.2.1 _ (by omega))
      · rw [if_neg hf] at e4
        have hW : w_instr v 0 (Int32.ofNat bn) (Int32.ofNat j) f = vr 2 (vm_nx v) := by
          unfold w_instr
          rw [if_pos rfl, hc1, if_neg i10]
          by_cases f0 : f < 0
          · rw [if_pos f0]
          · rw [if_neg f0, if_neg (fun z => hf (by unfold r_outside; rw [if_neg f0, if_pos z]))]
        rw [hW] at e1
        obtain ⟨rfl, _⟩ := vr_inj e1
        exact ⟨by rw [e4, k64], fun h => absurd h i20⟩
    · rw [if_neg ho] at e4
      have hz : c_hasCode v 3 (Int32.ofNat bn) i = 0 := by
        unfold c_hasCode
        rw [hlen]
        by_cases i0 : i < 0
        · rw [if_pos i0]
        · rw [if_neg i0]
          by_cases i8 : 8 ≤ i
          · rw [if_pos i8]
          · rw [if_neg i8, if_pos (Int32.not_lt.mp (fun z => ho (by unfold r_outside; rw [if_neg i0, if_pos z])))]
      have hW : w_instr v 0 (Int32.ofNat bn) i f = vr 1 (vm_nx v) := by
        unfold w_instr
        rw [if_pos rfl, if_pos hz]
      rw [hW] at e1
      obtain ⟨rfl, _⟩ := vr_inj e1
      exact ⟨by rw [e4, k64], fun h => absurd h i10⟩
theorem ed_0 (hI : lw_I xs H) (hw : vw v H) (hR : Rp v) {b f w1 w2 : Int32} (e1 : vr w1 v1 = w_ending v 0 b f) (e2 : vr w2 v2 = r_ending v1 0 b f) : v2.1 64 0 = w1 ∧ (w1 = 0 → v2.2.1 93 0 = w2.toInt64) := by
  obtain ⟨⟨c, c1, c2, c3⟩, ⟨d, d1, d2, d3⟩⟩ := Rc_cnt hI hw hR.1.1
  have k64 : ∀ z : Int32, (vm_si v1 64 0 z).1 64 0 = z := fun z => by rw [vm_si1, if_pos ⟨rfl, rfl⟩]
  have hv : v1.1 = v.1 := by
    unfold w_ending at e1
    rw [if_pos rfl] at e1
    generalize (if f = 4 then c_lengthOf v 3 b else c_endAt v 3 b f) = Z at e1
    repeat' split at e1
    all_goals
      obtain ⟨_, rfl⟩ := vr_inj e1
      rfl
  have hb := hb_ib (v := v) (w := v1) (p := 3) (nn := 0) (b := b) c1 c2 (by omega) (by rw [hv]; exact c3)
  unfold r_ending at e2
  obtain ⟨e3, e4⟩ := vr_inj e2
  by_cases q : c_hasBlock v 3 b = 0
  · have hW : w_ending v 0 b f = vr 1 (vm_nx v) := by
      unfold w_ending
      rw [if_pos rfl, if_pos q]
    rw [hW] at e1
    obtain ⟨rfl, _⟩ := vr_inj e1
    rw [if_pos (show r_isBlock v1 0 b = 0 from hb.mp q)] at e4
    exact ⟨by rw [e4, k64], fun h => absurd h i10⟩
  · have nq : ¬ r_isBlock v1 0 b = 0 := fun z => q (hb.mpr z)
    rw [if_neg nq] at e3 e4
    by_cases hf : r_outside v1 f 5 = 0
    · rw [if_pos hf] at e3 e4
      obtain ⟨bn, n1, rfl⟩ := hb_nat (p := 3) c2 c1 q
      obtain ⟨g, g1, rfl⟩ := (out_nat (w := v1) (l := 5) (by omega)).mp hf
      have i1 : (6 * (0 : Int32)) + Int32.ofNat bn = Int32.ofNat (0 + bn) := by
        rw [show (6 * (0 : Int32)) = Int32.ofNat 0 from by decide, nn_add]
      have hW : w_ending v 0 (Int32.ofNat bn) (Int32.ofNat g) = vr 0 (vm_sl v 93 (0 : Int32).toNatClampNeg ((if Int32.ofNat g = 4 then c_lengthOf v 3 (Int32.ofNat bn) else c_endAt v 3 (Int32.ofNat bn) (Int32.ofNat g)).toInt64)) := by
        unfold w_ending
        rw [if_pos rfl, if_neg q, if_neg (nn_n0 (by omega)), if_pos (show Int32.ofNat g ≤ 4 from (nn_le5 (b := 4) (by omega) (by omega)).mpr (by omega))]
      rw [hW] at e1
      obtain ⟨rfl, e5⟩ := vr_inj e1
      refine ⟨by rw [e4, k64], fun _ => ?_⟩
      rw [k64, if_pos (by decide), i1] at e3
      rw [e4, show (vm_si v1 64 0 0).2 = v1.2 from rfl, e5]
      show (vm_sl v 93 (0 : Int32).toNatClampNeg _).2.1 93 (0 : Int32).toNatClampNeg = _
      rw [vm_sl2, e3]
      refine congrArg Int32.toInt64 ?_
      by_cases g4 : Int32.ofNat g = 4
      · rw [if_pos g4, if_pos g4, vm_si1, if_neg (by omega), hv, nn_nat (by omega), pu_len c2 c1 n1, show 0 + bn = bn by omega]
        exact hR.1.2.1 bn (by omega)
      · have g3 : g < 4 := by
          have : g ≠ 4 := fun z => g4 (by rw [z]; rfl)
          omega
        rw [if_neg g4, if_neg g4, vm_si1, if_neg (by omega), hv, show (4 : Int32) = Int32.ofNat 4 from rfl, nn_mul, nn_add, nn_nat (by omega), pu_end c2 c1 n1 g3, show 4 * (0 + bn) + g = 4 * bn + g by omega]
        exact hR.2.2.2.1 _ (by omega)
    · rw [if_neg hf] at e4
      have hW : w_ending v 0 b f = vr 2 (vm_nx v) := by
        unfold w_ending
        rw [if_pos rfl, if_neg q]
        by_cases f0 : f < 0
        · rw [if_pos f0]
        · rw [if_neg f0, if_neg (fun z => hf (by
            unfold r_outside
            rw [if_neg f0, if_pos]
            have t4 := Int32.le_iff_toInt_le.mp z
            refine Int32.lt_iff_toInt_lt.mpr ?_
            have a4 : (4 : Int32).toInt = 4 := rfl
            have a5 : (5 : Int32).toInt = 5 := rfl
            omega))]
      rw [hW] at e1
      obtain ⟨rfl, _⟩ := vr_inj e1
      exact ⟨by rw [e4, k64], fun h => absurd h i20⟩

theorem in_1 (hI : lw_I xs H) (hw : vw v H) (hR : Rp v) {b i f w1 w2 : Int32} (e1 : vr w1 v1 = w_instr v 1 b i f) (e2 : vr w2 v2 = r_instr v1 1 b i f) : v2.1 64 0 = w1 ∧ (w1 = 0 → v2.2.1 93 0 = w2.toInt64) := by
  obtain ⟨⟨c, c1, c2, c3⟩, ⟨d, d1, d2, d3⟩⟩ := Rc_cnt hI hw hR.1.1
  have hv : v1.1 = v.1 := by
    unfold w_instr at e1
    rw [if_neg i10, if_pos rfl] at e1
    repeat' split at e1
    all_goals
      obtain ⟨_, rfl⟩ := vr_inj e1
      rfl
  have hb := hb_ib (v := v) (w := v1) (p := 7) (nn := 1) (b := b) d1 d2 (by omega) (by rw [hv]; exact d3)
  unfold r_instr at e2
  obtain ⟨e3, e4⟩ := vr_inj e2
  have k64 : ∀ z : Int32, (vm_si v1 64 0 z).1 64 0 = z := fun z => by rw [vm_si1, if_pos ⟨rfl, rfl⟩]
  by_cases q : c_hasBlock v 7 b = 0
  · have hl : c_lengthOf v 7 b = 0 := if_pos q
    have hz : c_hasCode v 7 b i = 0 := by
      unfold c_hasCode
      rw [hl]
      by_cases i0 : i < 0
      · rw [if_pos i0]
      · rw [if_neg i0]
        by_cases i8 : 8 ≤ i
        · rw [if_pos i8]
        · rw [if_neg i8, if_pos (Int32.not_lt.mp i0)]
    have hW : w_instr v 1 b i f = vr 1 (vm_nx v) := by
      unfold w_instr
      rw [if_neg i10, if_pos rfl, if_pos hz]
    rw [hW] at e1
    obtain ⟨rfl, _⟩ := vr_inj e1
    rw [if_pos (show r_isBlock v1 1 b = 0 from hb.mp q)] at e4
    exact ⟨by rw [e4, k64], fun h => absurd h i10⟩
  · have nq : ¬ r_isBlock v1 1 b = 0 := fun z => q (hb.mpr z)
    obtain ⟨bn, n1, rfl⟩ := hb_nat (p := 7) d2 d1 q
    have hl : v.1 10 bn = v.1 66 (6 + bn) := hR.1.2.2 bn (by omega)
    have bd := gh_bd hI hw (p := 66) (n := 12) (k := 6 + bn) (lo := 0) (hi := 8) rfl (by omega)
    obtain ⟨l, l1, l2, l3⟩ := nn_of bd.1
    have hlen : c_lengthOf v 7 (Int32.ofNat bn) = Int32.ofNat l := by
      rw [pu_len d2 d1 n1]
      exact hl.trans l1
    have i1 : (6 * (1 : Int32)) + Int32.ofNat bn = Int32.ofNat (6 + bn) := by
      rw [show (6 * (1 : Int32)) = Int32.ofNat 6 from by decide, nn_add]
    have i2 : v1.1 66 (Int32.ofNat (6 + bn)).toNatClampNeg = Int32.ofNat l := by
      rw [hv, nn_nat (by omega), show 6 + bn = 6 + bn by omega]
      exact l1
    rw [if_neg nq, i1, i2] at e3 e4
    by_cases ho : r_outside v1 i (Int32.ofNat l) = 0
    · rw [if_pos ho] at e3 e4
      obtain ⟨j, j1, rfl⟩ := (out_nat (by omega)).mp ho
      have hc1 : c_hasCode v 7 (Int32.ofNat bn) (Int32.ofNat j) = 1 := by
        unfold c_hasCode
        rw [hlen, if_neg (nn_n0 (by omega)), if_neg (show ¬ (8 : Int32) ≤ Int32.ofNat j from nl (k := 8) (by omega) (by omega) (by omega)), if_neg (nl (by omega) (by omega) j1)]
      by_cases hf : r_outside v1 f 4 = 0
      · rw [if_pos hf] at e3 e4
        obtain ⟨g, g1, rfl⟩ := (out_nat (w := v1) (l := 4) (by omega)).mp hf
        have hW : w_instr v 1 (Int32.ofNat bn) (Int32.ofNat j) (Int32.ofNat g) = vr 0 (vm_sl v 93 (0 : Int32).toNatClampNeg ((c_codeAt v 7 (Int32.ofNat bn) (Int32.ofNat j) (Int32.ofNat g)).toInt64)) := by
          unfold w_instr
          rw [if_neg i10, if_pos rfl, hc1, if_neg i10, if_neg (nn_n0 (by omega)), if_pos (show Int32.ofNat g < 4 from (nn_lt (b := 4) (by omega) (by omega)).mpr g1)]
        rw [hW] at e1
        obtain ⟨rfl, e5⟩ := vr_inj e1
        refine ⟨by rw [e4, k64], fun _ => ?_⟩
        rw [k64, if_pos (by decide), vm_si1, if_neg (by omega), hv, show (32 : Int32) = Int32.ofNat 32 from rfl, show (4 : Int32) = Int32.ofNat 4 from rfl, nn_mul, nn_mul, nn_add, nn_add, nn_nat (by omega), show 32 * (6 + bn) + 4 * j + g = 192 + (32 * bn + 4 * j + g) by omega] at e3
        rw [e4, e3, show (vm_si v1 64 0 0).2 = v1.2 from rfl, e5, pu_code d2 d1 n1 (by omega) g1]
        show (vm_sl v 93 (0 : Int32).toNatClampNeg _).2.1 93 (0 : Int32).toNatClampNeg = _
        rw [vm_sl2]
        exact congrArg Int32.toInt64 (hR.2.2.1 _ (by omega))
      · rw [if_neg hf] at e4
        have hW : w_instr v 1 (Int32.ofNat bn) (Int32.ofNat j) f = vr 2 (vm_nx v) := by
          unfold w_instr
          rw [if_neg i10, if_pos rfl, hc1, if_neg i10]
          by_cases f0 : f < 0
          · rw [if_pos f0]
          · rw [if_neg f0, if_neg (fun z => hf (by unfold r_outside; rw [if_neg f0, if_pos z]))]
        rw [hW] at e1
        obtain ⟨rfl, _⟩ := vr_inj e1
        exact ⟨by rw [e4, k64], fun h => absurd h i20⟩
    · rw [if_neg ho] at e4
      have hz : c_hasCode v 7 (Int32.ofNat bn) i = 0 := by
        unfold c_hasCode
        rw [hlen]
        by_cases i0 : i < 0
        · rw [if_pos i0]
        · rw [if_neg i0]
          by_cases i8 : 8 ≤ i
          · rw [if_pos i8]
          · rw [if_neg i8, if_pos (Int32.not_lt.mp (fun z => ho (by unfold r_outside; rw [if_neg i0, if_pos z])))]
      have hW : w_instr v 1 (Int32.ofNat bn) i f = vr 1 (vm_nx v) := by
        unfold w_instr
        rw [if_neg i10, if_pos rfl, if_pos hz]
      rw [hW] at e1
      obtain ⟨rfl, _⟩ := vr_inj e1
      exact ⟨by rw [e4, k64], fun h => absurd h i10⟩
theorem ed_1 (hI : lw_I xs H) (hw : vw v H) (hR : Rp v) {b f w1 w2 : Int32} (e1 : vr w1 v1 = w_ending v 1 b f) (e2 : vr w2 v2 = r_ending v1 1 b f) : v2.1 64 0 = w1 ∧ (w1 = 0 → v2.2.1 93 0 = w2.toInt64) := by
  obtain ⟨⟨c, c1, c2, c3⟩, ⟨d, d1, d2, d3⟩⟩ := Rc_cnt hI hw hR.1.1
  have k64 : ∀ z : Int32, (vm_si v1 64 0 z).1 64 0 = z := fun z => by rw [vm_si1, if_pos ⟨rfl, rfl⟩]
  have hv : v1.1 = v.1 := by
    unfold w_ending at e1
    rw [if_neg i10, if_pos rfl] at e1
    generalize (if f = 4 then c_lengthOf v 7 b else c_endAt v 7 b f) = Z at e1
    repeat' split at e1
    all_goals
      obtain ⟨_, rfl⟩ := vr_inj e1
      rfl
  have hb := hb_ib (v := v) (w := v1) (p := 7) (nn := 1) (b := b) d1 d2 (by omega) (by rw [hv]; exact d3)
  unfold r_ending at e2
  obtain ⟨e3, e4⟩ := vr_inj e2
  by_cases q : c_hasBlock v 7 b = 0
  · have hW : w_ending v 1 b f = vr 1 (vm_nx v) := by
      unfold w_ending
      rw [if_neg i10, if_pos rfl, if_pos q]
    rw [hW] at e1
    obtain ⟨rfl, _⟩ := vr_inj e1
    rw [if_pos (show r_isBlock v1 1 b = 0 from hb.mp q)] at e4
    exact ⟨by rw [e4, k64], fun h => absurd h i10⟩
  · have nq : ¬ r_isBlock v1 1 b = 0 := fun z => q (hb.mpr z)
    rw [if_neg nq] at e3 e4
    by_cases hf : r_outside v1 f 5 = 0
    · rw [if_pos hf] at e3 e4
      obtain ⟨bn, n1, rfl⟩ := hb_nat (p := 7) d2 d1 q
      obtain ⟨g, g1, rfl⟩ := (out_nat (w := v1) (l := 5) (by omega)).mp hf
      have i1 : (6 * (1 : Int32)) + Int32.ofNat bn = Int32.ofNat (6 + bn) := by
        rw [show (6 * (1 : Int32)) = Int32.ofNat 6 from by decide, nn_add]
      have hW : w_ending v 1 (Int32.ofNat bn) (Int32.ofNat g) = vr 0 (vm_sl v 93 (0 : Int32).toNatClampNeg ((if Int32.ofNat g = 4 then c_lengthOf v 7 (Int32.ofNat bn) else c_endAt v 7 (Int32.ofNat bn) (Int32.ofNat g)).toInt64)) := by
        unfold w_ending
        rw [if_neg i10, if_pos rfl, if_neg q, if_neg (nn_n0 (by omega)), if_pos (show Int32.ofNat g ≤ 4 from (nn_le5 (b := 4) (by omega) (by omega)).mpr (by omega))]
      rw [hW] at e1
      obtain ⟨rfl, e5⟩ := vr_inj e1
      refine ⟨by rw [e4, k64], fun _ => ?_⟩
      rw [k64, if_pos (by decide), i1] at e3
      rw [e4, show (vm_si v1 64 0 0).2 = v1.2 from rfl, e5]
      show (vm_sl v 93 (0 : Int32).toNatClampNeg _).2.1 93 (0 : Int32).toNatClampNeg = _
      rw [vm_sl2, e3]
      refine congrArg Int32.toInt64 ?_
      by_cases g4 : Int32.ofNat g = 4
      · rw [if_pos g4, if_pos g4, vm_si1, if_neg (by omega), hv, nn_nat (by omega), pu_len d2 d1 n1, show 6 + bn = 6 + bn by omega]
        exact hR.1.2.2 bn (by omega)
      · have g3 : g < 4 := by
          have : g ≠ 4 := fun z => g4 (by rw [z]; rfl)
          omega
        rw [if_neg g4, if_neg g4, vm_si1, if_neg (by omega), hv, show (4 : Int32) = Int32.ofNat 4 from rfl, nn_mul, nn_add, nn_nat (by omega), pu_end d2 d1 n1 g3, show 4 * (6 + bn) + g = 24 + (4 * bn + g) by omega]
        exact hR.2.2.2.2.1 _ (by omega)
    · rw [if_neg hf] at e4
      have hW : w_ending v 1 b f = vr 2 (vm_nx v) := by
        unfold w_ending
        rw [if_neg i10, if_pos rfl, if_neg q]
        by_cases f0 : f < 0
        · rw [if_pos f0]
        · rw [if_neg f0, if_neg (fun z => hf (by
            unfold r_outside
            rw [if_neg f0, if_pos]
            have t4 := Int32.le_iff_toInt_le.mp z
            refine Int32.lt_iff_toInt_lt.mpr ?_
            have a4 : (4 : Int32).toInt = 4 := rfl
            have a5 : (5 : Int32).toInt = 5 := rfl
            omega))]
      rw [hW] at e1
      obtain ⟨rfl, _⟩ := vr_inj e1
      exact ⟨by rw [e4, k64], fun h => absurd h i20⟩

theorem op_instr (hI : lw_I xs H) (hw : vw v H) (hR : Rp v) {n b i f w1 w2 : Int32} (e1 : vE 73 0 [.ref 2, .int n, .int b, .int i, .int f, .ref 93, .retAddr 0] [] v (vr w1 v1)) (e2 : vE 162 0 [.ref 64, .int n, .int b, .int i, .int f] [] v1 (vr w2 v2)) : v2.1 64 0 = w1 ∧ (w1 = 0 → v2.2.1 93 0 = w2.toInt64) := by
  rw [ct73] at e1
  rw [ct162] at e2
  by_cases h0 : n = 0
  · subst h0
    exact in_0 hI hw hR e1 e2
  · by_cases h1 : n = 1
    · subst h1
      exact in_1 hI hw hR e1 e2
    · have h3 : w_instr v n b i f = vr 1 (vm_nx v) := by
        unfold w_instr
        rw [if_neg h0, if_neg h1]
      rw [h3] at e1
      obtain ⟨rfl, rfl⟩ := vr_inj e1
      unfold r_instr at e2
      rw [if_pos (ib_out h0 h1)] at e2
      obtain ⟨_, rfl⟩ := vr_inj e2
      exact ⟨by rw [vm_si1, if_pos ⟨rfl, rfl⟩], fun h => absurd h i10⟩
theorem op_ending (hI : lw_I xs H) (hw : vw v H) (hR : Rp v) {n b f w1 w2 : Int32} (e1 : vE 75 0 [.ref 2, .int n, .int b, .int f, .ref 93, .retAddr 0] [] v (vr w1 v1)) (e2 : vE 163 0 [.ref 64, .int n, .int b, .int f] [] v1 (vr w2 v2)) : v2.1 64 0 = w1 ∧ (w1 = 0 → v2.2.1 93 0 = w2.toInt64) := by
  rw [ct75] at e1
  rw [ct163] at e2
  by_cases h0 : n = 0
  · subst h0
    exact ed_0 hI hw hR e1 e2
  · by_cases h1 : n = 1
    · subst h1
      exact ed_1 hI hw hR e1 e2
    · have h3 : w_ending v n b f = vr 1 (vm_nx v) := by
        unfold w_ending
        rw [if_neg h0, if_neg h1]
      rw [h3] at e1
      obtain ⟨rfl, rfl⟩ := vr_inj e1
      unfold r_ending at e2
      rw [if_pos (ib_out h0 h1)] at e2
      obtain ⟨_, rfl⟩ := vr_inj e2
      exact ⟨by rw [vm_si1, if_pos ⟨rfl, rfl⟩], fun h => absurd h i10⟩
end RSH
