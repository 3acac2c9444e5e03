/-! both sides of a pair; same -/
section ER
variable {xs : List Int32} {H H1 H2 : am_H} {v w v' w' v0 v1 v2 : vm_V} {x x1 x2 : vm_Y}
theorem EN_e {n n' : Nat} (h : GE 54 1 n v w v' w') (hn : n ≤ n') (hE : EN n v w 49 0) : EN n' v' w' 49 0 := by
  obtain ⟨r1, r2, r3, r4, r5, r6, r7, r8, r9, r10, r11⟩ := h
  obtain ⟨k, s, k1, k2, k3, k4, k5, k6, k7, k8, k9⟩ := hE
  have vq : ∀ j : Nat, v'.1 49 j = v.1 49 j := fun j => r2 49 j (by omega) (by omega)
  have wq : ∀ P : Nat, 79 ≤ P → P ≤ 82 → w'.1 P 0 = w.1 P 0 := fun P h1 h2 => r5 P 0 h1 h2 (by omega)
  refine ⟨k, s, k1, k2, (vq 6).trans k3, (wq 79 (by omega) (by omega)).trans k4, (vq 8).trans k5, (wq 81 (by omega) (by omega)).trans k6, fun z => (vq 7).trans (k7 z), fun z => ?_, fun z => ?_⟩
  · obtain ⟨t, vv, t1, t2, t3, t4, t5, t6⟩ := k8 z
    exact ⟨t, vv, by omega, (vq 7).trans t2, (wq 80 (by omega) (by omega)).trans t3, t4, t5, sv_r r1 t1 (fun k hk => r7 _ (by omega)) t6⟩
  · obtain ⟨y, y1, y2, y3⟩ := k9 z
    exact ⟨y, y1, (vq 9).trans y2, (wq 82 (by omega) (by omega)).trans y3⟩
theorem OS_e {n n' c : Nat} (h : GE 54 1 n v w v' w') (hn : n ≤ n') (hO : OS n v w 49 0 c) : OS n' v' w' 49 0 c := by
  obtain ⟨r1, r2, r3, r4, r5, r6, r7, r8, r9, r10, r11⟩ := h
  have vq : ∀ P j : Nat, 49 ≤ P → P ≤ 53 → v'.1 P j = v.1 P j := fun P j h1 h2 => r2 P j (by omega) (by omega)
  exact OS_same r1 hn (fun k => vq _ _ (by omega) (by omega)) (vq _ _ (by omega) (by omega)) (fun P e q1 q2 _ => vq _ _ (by omega) (by omega)) (fun k _ _ => r7 k (by omega)) (r8 0 (by omega)) (fun e he => r9 _ (by omega)) (fun k _ _ => r10 k (by omega)) hO
/-- what both know of a pair of blocks -/
def PR (n a c d : Nat) (v w : vm_V) : Prop := VI n a v ∧ AR n a v w ∧ OS n v w 49 0 c ∧ EN n v w 49 0 ∧ OS n v w 54 1 d ∧ EN n v w 54 1
/-- Checker.workOut; begin and workOut twice -/
theorem two {cc dd b b2 : Nat} (hD : prD 3 0 cc v0) (hD2 : prD 7 1 dd v0) (hb6 : b < 6) (hb26 : b2 < 6) (hl : (∀ t : Nat, t < 22 → v.2.2.2 (21 + t) = 23) ∧ v.2.2.2 48 = 23) (hv : ∀ q j : Nat, q < 19 → v.1 q j = v0.1 q j) (hw : ∀ q j : Nat, rng q j → w.1 q j = v0.1 q j) (e1 : vE 86 0 [.ref 18, .ref 3, .int (Int32.ofNat b), .ref 7, .int (Int32.ofNat b2)] [] v x1) {Q : vm_V → Prop} (e2 : ∃ y2 : vm_Y, vE 178 0 [.ref 64, .retAddr 0, .retAddr 0, .retAddr 0] [] w y2 ∧ ∀ u : vm_V, y2 = vd u → ∃ y3 : vm_Y, vE 180 0 [.ref 64, .int (Int32.ofNat 0), .int (Int32.ofNat 0), .int (Int32.ofNat b), .retAddr 0, .retAddr 0, .retAddr 0] [] u y3 ∧ ∀ u : vm_V, y3 = vd u → ∃ y4 : vm_Y, vE 180 0 [.ref 64, .int (Int32.ofNat 1), .int (Int32.ofNat 1), .int (Int32.ofNat b2), .retAddr 0, .retAddr 0, .retAddr 0] [] u y4 ∧ ∀ u : vm_V, y4 = vd u → Q u) : ∃ (n a c d : Nat) (v' w' : vm_V), x1 = vd v' ∧ Q w' ∧ PR n a c d v' w' ∧ (∀ P j : Nat, (P < 19 ∨ 58 < P) → v'.1 P j = v.1 P j) ∧ v'.2 = v.2 ∧ (∀ P j : Nat, (P < 64 ∨ (64 < P ∧ P < 69) ∨ (82 < P ∧ P ≠ 92)) → w'.1 P j = w.1 P j) ∧ (∀ j : Nat, j ≠ 5 → w'.1 64 j = w.1 64 j) ∧ w'.2 = w.2 := by
  obtain ⟨y2, e2, e3⟩ := e2
  obtain ⟨u2, b1, _⟩ := rb_x e2
  obtain ⟨y3, e3, e4⟩ := e3 u2 b1
  simp only [q86_0, q86_1, q86_4, Nat.reduceAdd] at e1
  obtain ⟨y1, s1, s2⟩ := e1
  obtain ⟨u1, a1, a2, a3, a4, a5⟩ := cb_x hl.1 hl.2 s1
  subst a1
  simp only [vB_d, Nat.reduceAdd, q86_7, q86_8, q86_11, q86_12, q86_15, q86_16, q86_17] at s2
  obtain ⟨z1, t1, t2⟩ := s2
  obtain ⟨m, am, cm, v', w', g1, g2, g3, g4, g5, g6, g7, g8, g9, g10, g11, g12, g13⟩ := one (x1 := z1) (x2 := y3) (p := 3) (P := 0) (by omega) (by omega) hD hb6 hl hv hw s1 e2 (fun u hu => by
    have := vd_inj hu
    subst this
    exact t1) (fun u hu => by
    have := vd_inj (b1.symm.trans hu)
    subst this
    exact e3)
  obtain ⟨y4, e4, e5⟩ := e4 w' g2
  subst g1
  simp only [vB_d, Nat.reduceAdd, q86_20, q86_21, q86_24, q86_25, q86_28, q86_29, q86_31] at t2
  obtain ⟨z2, t3, t4⟩ := t2
  obtain ⟨n2, a2', c2, v3, w3, k1, k2, k3, k4, k5, k6, k7, k8, k9⟩ := side (x1 := z2) (x2 := y4) (o := 54) (S := 1) (p := 7) (P := 1) (by omega) (by omega) (by omega) (by omega) hD2 hb26 g3 g4 g7 (by omega) (fun q j hq => (g9 q j (Or.inl hq)).trans (hv q j hq)) (fun q j h => by
    have q2 : 65 ≤ q ∧ q ≤ 68 := by
      unfold rng at h
      omega
    exact (g11 q j (by omega)).trans (hw q j h)) t3 e4
  subst k1
  simp only [vB_d, Nat.reduceAdd, q86_34] at t4
  refine ⟨n2, a2', cm, c2, v3, w3, t4, e5 w3 k2, ⟨k3, k4, OS_e k9 k7 g5, EN_e k9 k7 g6, k5, k6⟩, fun P j hP => ?_, k9.2.2.1.trans g10, fun P j hP => (k9.2.2.2.1 P j hP).trans (g11 P j hP), fun j hj => (k9.2.2.2.2.2.1 j hj).trans (g12 j hj), k9.2.2.2.2.2.2.2.2.2.2.trans g13⟩
  exact (k9.2.1 P j (by omega) (by omega)).trans (g9 P j (by omega))
theorem isReg_o {r : Int32} : c_isReg v r = 0 ↔ ¬ r_outside w r 6 = 0 := by
  unfold c_isReg r_outside
  by_cases h : r < 0
  · rw [if_pos h, if_pos h]
    exact ⟨fun _ => i10, fun _ => rfl⟩
  · rw [if_neg h, if_neg h]
    by_cases h6 : r < 6
    · rw [if_pos h6, if_neg (Int32.not_le.mpr h6)]
      exact ⟨fun q => absurd q i10, fun q => absurd rfl q⟩
    · rw [if_neg h6, if_pos (Int32.not_lt.mp h6)]
      exact ⟨fun _ => i10, fun _ => rfl⟩
theorem bI_01 {c : Prop} [Decidable c] : (bI c).toInt64 = if c then 1 else 0 := by
  unfold bI
  by_cases h : c
  · rw [if_pos h, if_pos h]
    rfl
  · rw [if_neg h, if_neg h]
    rfl
/-- same -/
theorem op_same (hI : lw_I xs H) (hw : vw v H) (hR : Rp v) (hK : RK v) (hf : ∀ q j : Nat, rng q j → v1.1 q j = v.1 q j) {b r b2 r2 w1 w2 : Int32} (e1 : vE 125 0 [.ref 2, .int b, .int r, .int b2, .int r2, .ref 93, .retAddr 0] [] v (vr w1 v1)) (e2 : vE 197 0 [.ref 64, .int b, .int r, .int b2, .int r2] [] v1 (vr w2 v2)) : v2.1 64 0 = w1 ∧ (w1 = 0 → v2.2.1 93 0 = w2.toInt64) ∧ (w2 = 0 ∨ w2 = 1) := by
  have hl := vlen hI hw
  have hz : ∀ (u : vm_V) (z : Int32), (vm_si u 64 0 z).1 64 0 = z := fun u z => si_s
  obtain ⟨cc, hD⟩ := prD_of hI hw hR hK (p := 3) (P := 0) (Or.inl ⟨rfl, rfl⟩)
  obtain ⟨dd, hD2⟩ := prD_of hI hw hR hK (p := 7) (P := 1) (Or.inr ⟨rfl, rfl⟩)
  have hb := hb_ib (v := v) (w := v1) (p := 3) (nn := 0) (b := b) hD.1 hD.2.1 (by omega) ((hf 65 0 (by unfold rng; omega)).trans hD.2.2.1)
  have hb2 := hb_ib (v := v) (w := v1) (p := 7) (nn := 1) (b := b2) hD2.1 hD2.2.1 (by omega) ((hf 65 1 (by unfold rng; omega)).trans hD2.2.2.1)
  have hb : c_hasBlock v 3 b = 0 ↔ r_isBlock v1 0 b = 0 := hb
  have hb2 : c_hasBlock v 7 b2 = 0 ↔ r_isBlock v1 1 b2 = 0 := hb2
  -- what the reference does where it throws
  have bad : vE 197 38 [.ref 64, .int b, .int r, .int b2, .int r2] [.ref 64] v1 (vr w2 v2) → v2.1 64 0 = 1 ∧ w2 = 0 := fun e => by
    simp only [q197_38, q197_39, q197_43, q197_46, q197_47, q197_50, hz] at e
    rw [if_neg (show ¬ (1 : Int32) ≤ 0 from by decide)] at e
    simp only [q197_53, q197_54] at e
    obtain ⟨rfl, rfl⟩ := vr_inj e
    exact ⟨hz _ _, rfl⟩
  have thr : ∀ y : vm_Y, y = vt 10 v → vB 125 9 [.ref 2, .int b, .int r, .int b2, .int r2, .ref 93, .retAddr 0] [.int 0, .ref 93] y (vr w1 v1) → w1 = 1 := fun y hy e => by
    subst hy
    simp only [qh125_9_10, q125_24, q125_26, q125_27] at e
    exact (vr_inj e).1
  simp only [q125_0, q125_2, q125_3, q125_4, q125_5, q125_6, q125_7, q125_9] at e1
  obtain ⟨y, e3, e4⟩ := e1
  simp only [q126_0, q126_1, q126_4, q126_5, Nat.reduceAdd, ct25, exists_eq_left] at e3
  simp only [q197_0, q197_1, q197_2, q197_3, q197_4, ct152, exists_eq_left, vB_r, Nat.reduceAdd, q197_7] at e2
  by_cases c1 : c_hasBlock v 3 b = 0
  · rw [if_pos (hb.mp c1)] at e2
    obtain ⟨p1, p2⟩ := bad e2
    simp only [if_pos c1, qt126] at e3
    have := thr y e3 e4
    exact ⟨by rw [p1, this], fun z => absurd (this.symm.trans z) i10, Or.inl p2⟩
  · rw [if_neg (fun z => c1 (hb.mpr z))] at e2
    simp only [if_neg c1, vB_d, Nat.reduceAdd, q126_8, q126_9, q126_12, q126_13, ct25, exists_eq_left] at e3
    simp only [q197_10, q197_11, q197_13, ct148, exists_eq_left, vB_r, Nat.reduceAdd, q197_16] at e2
    by_cases c2 : c_hasBlock v 7 b2 = 0
    · simp only [if_pos c2, qt126] at e3
      have : v2.1 64 0 = 1 ∧ w2 = 0 := by
        by_cases o1 : r_outside v1 r 6 = 0
        · rw [if_pos o1] at e2
          simp only [q197_19, q197_20, q197_21, q197_22, ct152, exists_eq_left, vB_r, Nat.reduceAdd, q197_25] at e2
          rw [if_pos (hb2.mp c2)] at e2
          exact bad e2
        · rw [if_neg o1] at e2
          exact bad e2
      exact ⟨by rw [this.1, thr y e3 e4], fun z => absurd ((thr y e3 e4).symm.trans z) i10, Or.inl this.2⟩
    · simp only [if_neg c2, vB_d, Nat.reduceAdd, q126_16, q126_17, ct28, exists_eq_left, vB_r, q126_20] at e3
      by_cases o1 : r_outside v1 r 6 = 0
      · rw [if_pos o1] at e2
        simp only [q197_19, q197_20, q197_21, q197_22, ct152, exists_eq_left, vB_r, Nat.reduceAdd, q197_25] at e2
        rw [if_neg (fun z => c2 (hb2.mpr z))] at e2
        simp only [q197_28, q197_30, q197_32, ct148, exists_eq_left, vB_r, Nat.reduceAdd, q197_35] at e2
        rw [if_neg (fun z => isReg_o.mp z o1)] at e3
        simp only [q126_23, q126_25, ct28, exists_eq_left, vB_r, Nat.reduceAdd, q126_28] at e3
        by_cases o2 : r_outside v1 r2 6 = 0
        · rw [if_pos o2] at e2
          rw [if_neg (fun z => isReg_o.mp z o2)] at e3
          simp only [q197_42, q197_43, q197_46, q197_47, q197_50, hz] at e2
          rw [if_pos (show (0 : Int32) ≤ 0 from by decide)] at e2
          obtain ⟨bn, n1, rfl⟩ := hb_nat (p := 3) hD.2.1 hD.1 c1
          obtain ⟨bm, n2, rfl⟩ := hb_nat (p := 7) hD2.2.1 hD2.1 c2
          obtain ⟨rn, r1, rfl⟩ := (out_nat (w := v1) (l := 6) (by omega)).mp o1
          obtain ⟨rm, r3, rfl⟩ := (out_nat (w := v1) (l := 6) (by omega)).mp o2
          have q1 := hD.1
          have q2 := hD2.1
          simp only [q126_41, q126_42, q126_45, q126_46, q126_49, q126_50, q126_51, q126_54, q126_55, Nat.reduceAdd] at e3
          obtain ⟨x1, s1, s2⟩ := e3
          simp only [q197_55, q197_56] at e2
          obtain ⟨y2, s3, s4⟩ := e2
          have i24 : (24 : Int32) * Int32.ofNat rn = Int32.ofNat (24 * rn) := c24 rn
          have j24 : (144 : Int32) + 24 * Int32.ofNat rm = Int32.ofNat (144 + 24 * rm) := by
            rw [c24, show (144 : Int32) = Int32.ofNat 144 from rfl, nn_add]
          obtain ⟨n, a, c, d, v', w', g1, g2, g3, g4, g5, g6, g7, g8⟩ := two (x1 := x1) (Q := fun u => w2 = bI (∀ k : Nat, k < 24 → u.1 72 (24 * rn + k) = u.1 72 (144 + 24 * rm + k)) ∧ v2 = u) hD hD2 (show bn < 6 by omega) (show bm < 6 by omega) hl (fun _ _ _ => rfl) (fun q j h => by
            rw [vm_si1b, if_neg (by unfold rng at h; omega)]
            exact hf q j h) s1 ⟨y2, s3, fun u hu => by
            subst hu
            simp only [vB_d, Nat.reduceAdd, q197_59, q197_60, q197_61, q197_62, q197_63] at s4
            obtain ⟨y3, s5, s6⟩ := s4
            refine ⟨y3, s5, fun u hu => ?_⟩
            subst hu
            simp only [vB_d, Nat.reduceAdd, q197_66, q197_67, q197_68, q197_69, q197_70] at s6
            obtain ⟨y4, s7, s8⟩ := s6
            refine ⟨y4, s7, fun u hu => ?_⟩
            subst hu
            simp only [vB_d, Nat.reduceAdd, q197_73, q197_74, q197_77, q197_79, q197_80, q197_81, q197_82, q197_85, q197_88, q197_90, q197_92, q197_93, q197_94, i24, j24, ct187 (show 24 * rn < 1000 by omega) (show 144 + 24 * rm < 1000 by omega), exists_eq_left, vB_r, q197_97] at s8
            exact vr_inj s8⟩
          subst g1
          simp only [vB_d, Nat.reduceAdd, q126_58, q126_59, q126_62, q126_63, q126_65, ct127, exists_eq_left, vB_r, q126_68] at s2
          subst s2
          obtain ⟨rfl, rfl⟩ := g2
          obtain ⟨hV, hA, O1, _, O2, _⟩ := g3
          obtain ⟨t1, t2, t3, t4⟩ := O1.1 rn r1
          obtain ⟨u1, u2, u3, u4⟩ := O2.1 rm r3
          have hs : c_hSame v' (Int32.ofNat rn) (Int32.ofNat rm) = bI (t1 = u1) := by
            unfold c_hSame
            rw [ovin_n r1, ovin_n r3, t3, u3]
            have n22 := hV.2.2.2.1
            by_cases z : t1 = u1
            · rw [if_pos (by rw [z])]
              exact (if_pos z).symm
            · rw [if_neg (fun q => z (on_inj (by omega) (by omega) q))]
              exact (if_neg z).symm
          have t4' : sv v' v2 t1 72 (24 * rn) := by
            rw [show 144 * 0 + 24 * rn = 24 * rn by omega] at t4
            exact t4
          have u4' : sv v' v2 u1 72 (144 + 24 * rm) := by
            rw [show 144 * 1 + 24 * rm = 144 + 24 * rm by omega] at u4
            exact u4
          have key : bI (∀ k : Nat, k < 24 → v2.1 72 (24 * rn + k) = v2.1 72 (144 + 24 * rm + k)) = bI (t1 = u1) := bI_c (sv_eq hV t2 u2 t4' u4')
          rw [key]
          rw [hs] at e4
          refine ⟨?_, ?_, ?_⟩
          · rw [g7 0 (by omega), hz]
            simp only [vB_r, Nat.reduceAdd, q125_12] at e4
            by_cases z : t1 = u1
            · rw [if_neg (fun q => bI_z.mp q z)] at e4
              simp only [q125_15, q125_16, q125_20, q125_21, q125_28, q125_29] at e4
              exact (vr_inj e4).1.symm
            · rw [if_pos (bI_z.mpr z)] at e4
              simp only [q125_19, q125_20, q125_21, q125_28, q125_29] at e4
              exact (vr_inj e4).1.symm
          · intro _
            rw [g8, bI_01]
            simp only [vB_r, Nat.reduceAdd, q125_12] at e4
            by_cases z : t1 = u1
            · rw [if_neg (fun q => bI_z.mp q z)] at e4
              simp only [q125_15, q125_16, q125_20, q125_21, q125_28, q125_29] at e4
              rw [if_pos z]
              obtain ⟨_, rfl⟩ := vr_inj e4
              exact vm_sl2
            · rw [if_pos (bI_z.mpr z)] at e4
              simp only [q125_19, q125_20, q125_21, q125_28, q125_29] at e4
              rw [if_neg z]
              obtain ⟨_, rfl⟩ := vr_inj e4
              exact vm_sl2
          · by_cases z : t1 = u1
            · exact Or.inr (if_pos z)
            · exact Or.inl (if_neg z)
        · rw [if_neg o2] at e2
          rw [if_pos (isReg_o.mpr o2)] at e3
          simp only [q126_31] at e3
          obtain ⟨p1, p2⟩ := bad e2
          exact ⟨by rw [p1, thr y e3 e4], fun z => absurd ((thr y e3 e4).symm.trans z) i10, Or.inl p2⟩
      · rw [if_neg o1] at e2
        rw [if_pos (isReg_o.mpr o1)] at e3
        simp only [q126_31] at e3
        obtain ⟨p1, p2⟩ := bad e2
        exact ⟨by rw [p1, thr y e3 e4], fun z => absurd ((thr y e3 e4).symm.trans z) i10, Or.inl p2⟩
end ER
