/-! meet, look, judge -/
section ET
variable {xs : List Int32} {H : am_H} {v w v' w' v0 : vm_V} {x x1 x2 : vm_Y}
def w_mt (s t np : Nat) (w : vm_V) : vm_V := if w.1 85 s = -1 then vm_si (vm_si (vm_si (vm_si w 83 np (Int32.ofNat s)) 84 np (Int32.ofNat t)) 64 25 (Int32.ofNat (np + 1))) 85 s (Int32.ofNat t) else vm_si (vm_si (vm_si w 83 np (Int32.ofNat s)) 84 np (Int32.ofNat t)) 64 25 (Int32.ofNat (np + 1))
def pM (w : vm_V) (s t j : Nat) : Prop := w.1 83 j = Int32.ofNat s ∧ w.1 84 j = Int32.ofNat t
theorem rm_l {s t np : Nat} (hn : w.1 64 25 = Int32.ofNat np) (h1 : np < 100) (hs : s < 6) : ∀ (m k : Nat), k + m = np → (∀ j : Nat, j < k → ¬ pM w s t j) → vE 176 2 [.ref 64, .int (Int32.ofNat s), .int (Int32.ofNat t), .int (Int32.ofNat k)] [] w x → ((∃ j : Nat, j < np ∧ pM w s t j) ∧ x = vd w) ∨ ((∀ j : Nat, j < np → ¬ pM w s t j) ∧ x = vd (w_mt s t np w))
  | 0, k, h, hp, e => by
    obtain rfl : k = np := by omega
    have a1 : ∀ z : Int32, (vm_si w 83 k z).1 64 25 = Int32.ofNat k := fun z => by
      rw [si_o (by omega)]
      exact hn
    have a2 : ∀ z y : Int32, (vm_si (vm_si w 83 k z) 84 k y).1 64 25 = Int32.ofNat k := fun z y => by
      rw [si_o (by omega)]
      exact a1 z
    have a3 : ∀ z y q : Int32, (vm_si (vm_si (vm_si w 83 k z) 84 k y) 64 25 q).1 85 s = w.1 85 s := fun z y q => by
      rw [si_o (by omega), si_o (by omega), si_o (by omega)]
    rw [q176_2] at e
    simp only [q176_3, q176_4, q176_7, hn] at e
    rw [if_pos (Int32.le_refl _)] at e
    simp only [q176_37, q176_38, q176_41, q176_42, q176_45, q176_46, hn, Nat.reduceAdd, nn_nat (show k < 2147483648 by omega), q176_47, q176_48, q176_51, q176_52, q176_55, q176_56, a1, q176_57, q176_58, q176_59, q176_62, q176_63, q176_64, a2, nn_s, q176_67, q176_68, q176_71, q176_72, q176_73, q176_74, nn_nat (show s < 2147483648 by omega), a3] at e
    refine Or.inr ⟨hp, ?_⟩
    unfold w_mt
    by_cases z : w.1 85 s = -1
    · rw [if_pos z] at e ⊢
      simpa only [q176_77, q176_78, q176_81, q176_82, q176_83, q176_84, Nat.reduceAdd, nn_nat (show s < 2147483648 by omega)] using e
    · rw [if_neg z] at e ⊢
      simpa only [q176_84] using e
  | m + 1, k, h, hp, e => by
    rw [q176_2] at e
    simp only [q176_3, q176_4, q176_7, hn] at e
    rw [if_neg (nl (by omega) (by omega) (by omega))] at e
    simp only [q176_10, q176_11, q176_14, q176_15, q176_16, q176_17, Nat.reduceAdd, nn_nat (show k < 2147483648 by omega)] at e
    have nx : ¬ pM w s t k → vE 176 31 [.ref 64, .int (Int32.ofNat s), .int (Int32.ofNat t), .int (Int32.ofNat k)] [] w x → ((∃ j : Nat, j < np ∧ pM w s t j) ∧ x = vd w) ∨ ((∀ j : Nat, j < np → ¬ pM w s t j) ∧ x = vd (w_mt s t np w)) := fun hno e => by
      simp only [q176_31, q176_34, nn_s] at e
      refine rm_l hn h1 hs m (k + 1) (by omega) (fun j hj => ?_) e
      by_cases z : j = k
      · rw [z]
        exact hno
      · exact hp j (by omega)
    by_cases c1 : w.1 83 k = Int32.ofNat s
    · rw [if_pos c1] at e
      simp only [q176_20, q176_21, q176_24, q176_25, q176_26, q176_27, Nat.reduceAdd, nn_nat (show k < 2147483648 by omega)] at e
      by_cases c2 : w.1 84 k = Int32.ofNat t
      · rw [if_pos c2] at e
        simp only [q176_30] at e
        exact Or.inl ⟨⟨k, by omega, c1, c2⟩, e⟩
      · rw [if_neg c2] at e
        exact nx (fun q => c2 q.2) e
    · rw [if_neg c1] at e
      exact nx (fun q => c1 q.1) e
/-- meet, the reference's -/
theorem rm_x {s t np : Nat} (hn : w.1 64 25 = Int32.ofNat np) (h1 : np < 100) (hs : s < 6) (e : vE 176 0 [.ref 64, .int (Int32.ofNat s), .int (Int32.ofNat t), .retAddr 0] [] w x) : ((∃ j : Nat, j < np ∧ pM w s t j) ∧ x = vd w) ∨ ((∀ j : Nat, j < np → ¬ pM w s t j) ∧ x = vd (w_mt s t np w)) := by
  simp only [q176_0, q176_1] at e
  exact rm_l hn h1 hs np 0 (Nat.zero_add np) (fun j hj => by omega) e
theorem w_mto {s t np P k : Nat} (h3 : P ≠ 83) (h4 : P ≠ 84) (h5 : P ≠ 85) (h6 : ¬ (P = 64 ∧ k = 25)) : (w_mt s t np w).1 P k = w.1 P k := by
  unfold w_mt
  split
  · rw [si_o h5, vm_si1b, if_neg h6, si_o h4, si_o h3]
  · rw [vm_si1b, if_neg h6, si_o h4, si_o h3]
theorem w_mt3 {s t np k : Nat} : (w_mt s t np w).1 83 k = if k = np then Int32.ofNat s else w.1 83 k := by
  unfold w_mt
  have : ∀ u : vm_V, u.1 83 k = (vm_si w 83 np (Int32.ofNat s)).1 83 k → u.1 83 k = if k = np then Int32.ofNat s else w.1 83 k := fun u hu => by
    rw [hu, vm_si1b]
    by_cases z : k = np
    · rw [if_pos ⟨rfl, z⟩, if_pos z]
    · rw [if_neg (fun y => z y.2), if_neg z]
  split
  · exact this _ (by rw [si_o (by omega), si_o (by omega), si_o (by omega)])
  · exact this _ (by rw [si_o (by omega), si_o (by omega)])
theorem w_mt4 {s t np k : Nat} : (w_mt s t np w).1 84 k = if k = np then Int32.ofNat t else w.1 84 k := by
  unfold w_mt
  have : ∀ u : vm_V, u.1 84 k = (vm_si (vm_si w 83 np (Int32.ofNat s)) 84 np (Int32.ofNat t)).1 84 k → u.1 84 k = if k = np then Int32.ofNat t else w.1 84 k := fun u hu => by
    rw [hu, vm_si1b]
    by_cases z : k = np
    · rw [if_pos ⟨rfl, z⟩, if_pos z]
    · rw [if_neg (fun y => z y.2), if_neg z, si_o (by omega)]
  split
  · exact this _ (by rw [si_o (by omega), si_o (by omega)])
  · exact this _ (by rw [si_o (by omega)])
theorem w_mt5 {s t np k : Nat} : (w_mt s t np w).1 85 k = if k = s ∧ w.1 85 s = -1 then Int32.ofNat t else w.1 85 k := by
  unfold w_mt
  by_cases z : w.1 85 s = -1
  · rw [if_pos z, vm_si1b]
    by_cases y : k = s
    · rw [if_pos ⟨rfl, y⟩, if_pos ⟨y, z⟩]
    · rw [if_neg (fun q => y q.2), if_neg (fun q => y q.1), si_o (by omega), si_o (by omega), si_o (by omega)]
  · rw [if_neg z, if_neg (fun q => z q.2), si_o (by omega), si_o (by omega), si_o (by omega)]
theorem w_mtn {s t np : Nat} : (w_mt s t np w).1 64 25 = Int32.ofNat (np + 1) := by
  unfold w_mt
  split
  · rw [si_o (by omega), si_s]
  · exact si_s
theorem w_mt2 {s t np : Nat} : (w_mt s t np w).2 = w.2 := by
  unfold w_mt
  split <;> rfl
/-- look behind both workings-out: what it answers -/
theorem lt_x {n a c d s t : Nat} (h : PR n a c d v w) (e : vE 177 30 [.ref 64, .int (Int32.ofNat s), .int (Int32.ofNat t)] [] w x) : ∃ k x0 x3 : Nat, k < 3 ∧ x0 < 6 ∧ x3 < 6 ∧ v.1 49 6 = Int32.ofNat k ∧ v.1 49 8 = Int32.ofNat x0 ∧ v.1 54 8 = Int32.ofNat x3 ∧ (¬ pA1 c d v → x = vr 2 w) ∧ (pA1 c d v → ¬ pA2 v → x = vr 3 w) ∧ (pA1 c d v → pA2 v → ¬ k = 2 → ¬ pA3 v → x = vr 4 w) ∧ (pA1 c d v → pA2 v → k = 2 → x = vr 0 w) ∧ (pA1 c d v → pA2 v → k = 0 → pA3 v → ∃ y : vm_Y, vE 176 0 [.ref 64, .int (Int32.ofNat x0), .int (Int32.ofNat x3), .retAddr 0] [] w y ∧ ∀ u : vm_V, y = vd u → u.1 79 0 = w.1 79 0 → x = vr 0 u) ∧ (pA1 c d v → pA2 v → k = 1 → pA3 v → ∃ y0 y3 : Nat, y0 < 6 ∧ y3 < 6 ∧ v.1 49 9 = Int32.ofNat y0 ∧ v.1 54 9 = Int32.ofNat y3 ∧ ∃ y : vm_Y, vE 176 0 [.ref 64, .int (Int32.ofNat x0), .int (Int32.ofNat x3), .retAddr 0] [] w y ∧ ∀ u : vm_V, y = vd u → (∀ P j : Nat, 79 ≤ P → P ≤ 82 → u.1 P j = w.1 P j) → ∃ y : vm_Y, vE 176 0 [.ref 64, .int (Int32.ofNat y0), .int (Int32.ofNat y3), .retAddr 0] [] u y ∧ ∀ u : vm_V, y = vd u → x = vr 0 u) := by
  have hA1 := pA1_r h
  have hA3 := pA3_r h
  obtain ⟨hV, hA, O1, E1, O2, E2⟩ := h
  have h : PR n a c d v w := ⟨hV, hA, O1, E1, O2, E2⟩
  obtain ⟨k, s0, k1, k2, k3, k4, k5, k6, k7, k8, k9⟩ := E1
  obtain ⟨m, s1, m1, m2, m3, m4, m5, m6, m7, m8, m9⟩ := E2
  have z0 : (0 : Int32).toNatClampNeg = 0 := rfl
  have z1 : (1 : Int32).toNatClampNeg = 1 := rfl
  simp only [q177_30, q177_31] at e
  obtain ⟨y, e1, e2⟩ := e
  obtain ⟨b, b1, rfl⟩ := ea_x O1.2.1.2.1 O2.2.1.2.1 O1.2.1.2.2 O2.2.1.2.2 e1
  rw [← hA1] at b1
  simp only [vB_r, Nat.reduceAdd, q177_34] at e2
  refine ⟨k, s0, s1, k1, k2, m2, k3, k5, m5, ?_⟩
  by_cases a1 : pA1 c d v
  · rw [if_neg (fun q => b1.mp q a1)] at e2
    simp only [q177_39, q177_40] at e2
    obtain ⟨y, e3, e4⟩ := e2
    obtain ⟨b', b2, rfl⟩ := eg_x h e3
    simp only [vB_r, Nat.reduceAdd, q177_43] at e4
    by_cases a2 : pA2 v
    · rw [if_neg (fun q => b2.mp q a2)] at e4
      have km : k = m := on_inj (by omega) (by omega) (k3.symm.trans (a2.1.trans m3))
      subst km
      simp only [q177_48, q177_49, q177_52, q177_53, q177_54, q177_55, Nat.reduceAdd, z0, k4] at e4
      refine ⟨fun q => absurd a1 q, fun _ q => absurd a2 q, ?_⟩
      have at67 : vE 177 67 [.ref 64, .int (Int32.ofNat s), .int (Int32.ofNat t)] [] w x → (k = 2 → x = vr 0 w) ∧ (k = 0 → ∃ y : vm_Y, vE 176 0 [.ref 64, .int (Int32.ofNat s0), .int (Int32.ofNat s1), .retAddr 0] [] w y ∧ ∀ u : vm_V, y = vd u → u.1 79 0 = w.1 79 0 → x = vr 0 u) ∧ (k = 1 → ∃ y0 y3 : Nat, y0 < 6 ∧ y3 < 6 ∧ v.1 49 9 = Int32.ofNat y0 ∧ v.1 54 9 = Int32.ofNat y3 ∧ ∃ y : vm_Y, vE 176 0 [.ref 64, .int (Int32.ofNat s0), .int (Int32.ofNat s1), .retAddr 0] [] w y ∧ ∀ u : vm_V, y = vd u → (∀ P j : Nat, 79 ≤ P → P ≤ 82 → u.1 P j = w.1 P j) → ∃ y : vm_Y, vE 176 0 [.ref 64, .int (Int32.ofNat y0), .int (Int32.ofNat y3), .retAddr 0] [] u y ∧ ∀ u : vm_V, y = vd u → x = vr 0 u) := fun e => by
        simp only [q177_67, q177_68, q177_71, q177_72, q177_73, q177_74, Nat.reduceAdd, z0, k4] at e
        by_cases q2 : k = 2
        · subst q2
          rw [if_pos (show Int32.ofNat 2 = 2 from rfl)] at e
          simp only [q177_93, q177_94, q177_97, q177_98, q177_99, q177_100, Nat.reduceAdd, z0, k4] at e
          rw [if_neg (show ¬ Int32.ofNat 2 = 1 from by decide)] at e
          simp only [q177_119, q177_120] at e
          exact ⟨fun _ => e, fun q => by omega, fun q => by omega⟩
        · rw [if_neg (show ¬ Int32.ofNat k = 2 from nat10 (m := 2) (by omega) (by omega) q2)] at e
          simp only [q177_77, q177_78, q177_79, q177_82, q177_83, q177_84, q177_85, q177_88, q177_89, q177_90, Nat.reduceAdd, z0, z1, k6, m6] at e
          obtain ⟨y, f1, f2⟩ := e
          refine ⟨fun q => absurd q q2, fun q0 => ⟨y, f1, fun u hu h79 => ?_⟩, fun q1 => ?_⟩
          · subst hu
            simp only [vB_d, Nat.reduceAdd, q177_93, q177_94, q177_97, q177_98, q177_99, q177_100, z0, h79, k4] at f2
            rw [if_neg (show ¬ Int32.ofNat k = 1 from nat10 (m := 1) (by omega) (by omega) (by omega))] at f2
            simpa only [q177_119, q177_120] using f2
          · obtain ⟨y0, p1, p2, p3⟩ := k9 q1
            obtain ⟨y3, r1, r2, r3⟩ := m9 q1
            refine ⟨y0, y3, p1, r1, p2, r2, y, f1, fun u hu hq => ?_⟩
            subst hu
            simp only [vB_d, Nat.reduceAdd, q177_93, q177_94, q177_97, q177_98, q177_99, q177_100, z0, (hq 79 0 (by omega) (by omega)).trans k4] at f2
            rw [if_pos (by rw [q1]; rfl)] at f2
            simp only [q177_103, q177_104, q177_105, q177_108, q177_109, q177_110, q177_111, q177_114, q177_115, q177_116, Nat.reduceAdd, z0, z1, (hq 82 0 (by omega) (by omega)).trans p3, (hq 82 1 (by omega) (by omega)).trans r3] at f2
            obtain ⟨y', f3, f4⟩ := f2
            refine ⟨y', f3, fun u hu => ?_⟩
            subst hu
            simpa only [vB_d, Nat.reduceAdd, q177_119, q177_120] using f4
      by_cases q2 : k = 2
      · rw [if_pos (by rw [q2]; rfl)] at e4
        obtain ⟨g1, g2, g3⟩ := at67 e4
        exact ⟨fun _ _ q => absurd q2 q, fun _ _ q => g1 q, fun _ _ q => by omega, fun _ _ q => by omega⟩
      · rw [if_neg (show ¬ Int32.ofNat k = 2 from nat10 (m := 2) (by omega) (by omega) q2)] at e4
        simp only [q177_58, q177_59] at e4
        obtain ⟨y, e5, e6⟩ := e4
        obtain ⟨b', b3, rfl⟩ := ra_y e5
        rw [← hA3] at b3
        simp only [vB_r, Nat.reduceAdd, q177_62] at e6
        by_cases a3 : pA3 v
        · rw [if_neg (fun q => b3.mp q a3)] at e6
          obtain ⟨g1, g2, g3⟩ := at67 e6
          exact ⟨fun _ _ _ q => absurd a3 q, fun _ _ q => absurd q q2, fun _ _ q _ => g2 q, fun _ _ q _ => g3 q⟩
        · rw [if_pos (b3.mpr a3)] at e6
          simp only [q177_65, q177_66] at e6
          exact ⟨fun _ _ _ _ => e6, fun _ _ q => absurd q q2, fun _ _ _ q => absurd q a3, fun _ _ _ q => absurd q a3⟩
    · rw [if_pos (b2.mpr a2)] at e4
      simp only [q177_46, q177_47] at e4
      exact ⟨fun q => absurd a1 q, fun _ _ => e4, fun _ q => absurd q a2, fun _ q => absurd q a2, fun _ q => absurd q a2, fun _ q => absurd q a2⟩
  · rw [if_pos (b1.mpr a1)] at e2
    simp only [q177_37, q177_38] at e2
    exact ⟨fun _ => e2, fun q => absurd q a1, fun q => absurd q a1, fun q => absurd q a1, fun q => absurd q a1, fun q => absurd q a1⟩
/-- meetGoals and judge, the class's -/
theorem jg_x {c d k : Nat} {b p : Int32} (hk : k < 3) (h4 : v.1 49 4 = Int32.ofNat c) (h5 : v.1 54 4 = Int32.ofNat d) (h8 : c ≤ 8) (hd8 : d ≤ 8) (h6 : v.1 49 6 = Int32.ofNat k) (e : vE 111 0 [.ref 18, .int b, .int p] [] v x) : (¬ pA1 c d v → x = vd (c_refuse v 2 b p)) ∧ (pA1 c d v → ¬ pA2 v → x = vd (c_refuse v 3 b p)) ∧ (pA1 c d v → pA2 v → ¬ k = 2 → ¬ pA3 v → x = vd (c_refuse v 4 b p)) ∧ (pA1 c d v → pA2 v → k = 2 → x = vd v) ∧ (pA1 c d v → pA2 v → k = 0 → pA3 v → x = vd (c_meet v (v.1 49 8) (v.1 54 8))) ∧ (pA1 c d v → pA2 v → k = 1 → pA3 v → x = vd (c_meet (c_meet v (v.1 49 8) (v.1 54 8)) ((c_meet v (v.1 49 8) (v.1 54 8)).1 49 9) ((c_meet v (v.1 49 8) (v.1 54 8)).1 54 9))) := by
  simp only [q111_0, q111_1, q111_4, q111_5, q111_8, Nat.reduceAdd] at e
  obtain ⟨y, e1, e2⟩ := e
  obtain ⟨z, z1, rfl⟩ := he_x h4 h5 h8 hd8 e1
  simp only [vB_r, Nat.reduceAdd, q111_11] at e2
  by_cases a1 : pA1 c d v
  · rw [if_neg (fun q => z1.mp q a1)] at e2
    simp only [q111_24, q111_25, q111_28, q111_29, q111_32, Nat.reduceAdd, ct113, exists_eq_left, vB_r, q111_35] at e2
    have h2 : c_hEnd v 49 54 = 0 ↔ ¬ pA2 v := by
      unfold c_hEnd pA2
      by_cases q1 : v.1 49 6 = v.1 54 6
      · rw [if_pos q1]
        by_cases q2 : v.1 49 7 = v.1 54 7
        · rw [if_pos q2]
          exact ⟨fun q => absurd q i10, fun q => absurd ⟨q1, q2⟩ q⟩
        · rw [if_neg q2]
          exact ⟨fun _ q => q2 q.2, fun _ => rfl⟩
      · rw [if_neg q1]
        exact ⟨fun _ q => q1 q.1, fun _ => rfl⟩
    by_cases a2 : pA2 v
    · rw [if_neg (fun q => h2.mp q a2)] at e2
      simp only [q111_48, q111_49, q111_52, Nat.reduceAdd, ct114, c_eK, exists_eq_left, vB_r, q111_55, q111_56, h6] at e2
      refine ⟨fun q => absurd a1 q, fun _ q => absurd a2 q, ?_⟩
      have at83 : vE 111 83 [.ref 18, .int b, .int p] [] v x → (k = 2 → x = vd v) ∧ (k = 0 → x = vd (c_meet v (v.1 49 8) (v.1 54 8))) ∧ (k = 1 → x = vd (c_meet (c_meet v (v.1 49 8) (v.1 54 8)) ((c_meet v (v.1 49 8) (v.1 54 8)).1 49 9) ((c_meet v (v.1 49 8) (v.1 54 8)).1 54 9))) := fun e => by
        simp only [q111_83, q111_84, q116_0, q116_1, q116_4, Nat.reduceAdd, ct114, c_eK, exists_eq_left, vB_r, q116_7, q116_8, q116_9, q116_10, h6] at e
        obtain ⟨y, e, e9⟩ := e
        by_cases q2 : k = 2
        · subst q2
          rw [if_pos (show Int32.ofNat 2 = 2 from rfl)] at e
          simp only [q116_31, q116_32, q116_33] at e
          rw [if_neg (show ¬ Int32.ofNat 2 = 1 from by decide)] at e
          simp only [q116_54] at e
          subst e
          simp only [vB_d, Nat.reduceAdd, q111_87] at e9
          exact ⟨fun _ => e9, fun q => by omega, fun q => by omega⟩
        · rw [if_neg (show ¬ Int32.ofNat k = 2 from nat10 (m := 2) (by omega) (by omega) q2)] at e
          simp only [q116_13, q116_14, q116_15, q116_18, q116_21, q116_22, q116_25, q116_28, Nat.reduceAdd, ct117, c_gX, ct81, exists_eq_left, vB_r, vB_d, q116_31, q116_32, q116_33] at e
          by_cases q1 : k = 1
          · subst q1
            rw [if_pos (show Int32.ofNat 1 = 1 from rfl)] at e
            simp only [q116_36, q116_37, q116_38, q116_41, q116_44, q116_45, q116_48, q116_51, Nat.reduceAdd, ct118, c_gY, ct81, exists_eq_left, vB_r, vB_d, q116_54] at e
            subst e
            simp only [vB_d, Nat.reduceAdd, q111_87] at e9
            exact ⟨fun q => by omega, fun q => by omega, fun _ => e9⟩
          · rw [if_neg (show ¬ Int32.ofNat k = 1 from nat10 (m := 1) (by omega) (by omega) q1)] at e
            simp only [q116_54] at e
            subst e
            simp only [vB_d, Nat.reduceAdd, q111_87] at e9
            exact ⟨fun q => absurd q q2, fun _ => e9, fun q => absurd q q1⟩
      by_cases q2 : k = 2
      · rw [if_pos (by rw [q2]; rfl)] at e2
        obtain ⟨g1, g2, g3⟩ := at83 e2
        exact ⟨fun _ _ q => absurd q2 q, fun _ _ q => g1 q, fun _ _ q => by omega, fun _ _ q => by omega⟩
      · rw [if_neg (show ¬ Int32.ofNat k = 2 from nat10 (m := 2) (by omega) (by omega) q2)] at e2
        simp only [q111_59, q111_60, q111_63, q111_64, q111_67, Nat.reduceAdd] at e2
        obtain ⟨y, e3, e4⟩ := e2
        obtain ⟨z', z3, rfl⟩ := hr_x e3
        simp only [vB_r, Nat.reduceAdd, q111_70] at e4
        by_cases a3 : pA3 v
        · rw [if_neg (fun q => z3.mp q a3)] at e4
          obtain ⟨g1, g2, g3⟩ := at83 e4
          exact ⟨fun _ _ _ q => absurd a3 q, fun _ _ q => absurd q q2, fun _ _ q _ => g2 q, fun _ _ q _ => g3 q⟩
        · rw [if_pos (z3.mpr a3)] at e4
          simp only [q111_73, q111_74, q111_75, q111_76, q111_77, ct82, exists_eq_left, vB_d, Nat.reduceAdd, q111_80, q111_87] at e4
          exact ⟨fun _ _ _ _ => e4, fun _ _ q => absurd q q2, fun _ _ _ q => absurd q a3, fun _ _ _ q => absurd q a3⟩
    · rw [if_pos (h2.mpr a2)] at e2
      simp only [q111_38, q111_39, q111_40, q111_41, q111_42, ct82, exists_eq_left, vB_d, Nat.reduceAdd, q111_45, q111_87] at e2
      exact ⟨fun q => absurd a1 q, fun _ _ => e2, fun _ q => absurd q a2, fun _ q => absurd q a2, fun _ q => absurd q a2, fun _ q => absurd q a2⟩
  · rw [if_pos (z1.mpr a1)] at e2
    simp only [q111_14, q111_15, q111_16, q111_17, q111_18, ct82, exists_eq_left, vB_d, Nat.reduceAdd, q111_21, q111_87] at e2
    exact ⟨fun _ => e2, fun q => absurd q a1, fun q => absurd q a1, fun q => absurd q a1, fun q => absurd q a1, fun q => absurd q a1⟩
end ET
