/-! check: in step -/
section EV
variable {xs : List Int32} {H : am_H} {v w v' w' v0 v1 v2 wz : vm_V} {x x1 x2 : vm_Y}
def OU (x1 x2 : vm_Y) (wz : vm_V) : Prop := (∃ (np : Nat) (u1 u2 : vm_V), x1 = vr (Int32.ofNat np) u1 ∧ x2 = vr (Int32.ofNat np) u2 ∧ u2.1 64 0 = 0 ∧ u2.2 = wz.2) ∨ ∃ u1 u2 : vm_V, x1 = vt 13 u1 ∧ x2 = vr 0 u2 ∧ u2.1 64 0 = 1
/-- all pairs are looked at -/
theorem ls_e {i : Nat} {l2 l3 : Value} (h : CK i v w) (h20 : w.1 64 20 = 0) (e1 : vE 78 9 [.ref 2, .int (Int32.ofNat i), l2, l3] [] v x1) (e2 : vE 175 48 [.ref 64, .int (Int32.ofNat i)] [] w x2) : x1 = vr (Int32.ofNat i) (vm_si v 2 7 1) ∧ x2 = vr (Int32.ofNat i) w := by
  obtain ⟨h1, h2, h3, _⟩ := h
  have fin : vE 78 76 [.ref 2, .int (Int32.ofNat i), l2, l3] [] v x1 → x1 = vr (Int32.ofNat i) (vm_si v 2 7 1) := fun e => by
    have hr : (vm_si v 2 7 1).1 18 6 = 0 := (si_o (by omega)).trans h2
    have hq : (vm_si v 2 7 1).1 18 5 = Int32.ofNat i := (si_o (by omega)).trans h1
    simp only [q78_76, q78_77, q78_78, q78_81, q78_82, q78_85, Nat.reduceAdd, ct119, c_reason, hr, exists_eq_left, vB_r, q78_88] at e
    rw [if_pos trivial] at e
    simp only [q78_101, q78_102, q78_105, Nat.reduceAdd, ct120, c_pairs, hq, exists_eq_left, vB_r, q78_108] at e
    exact e
  have hc : c_isW v (Int32.ofNat i) = 0 := by
    unfold c_isW
    rw [if_pos h2, h1, if_pos (Int32.le_refl _)]
  constructor
  · rw [q78_9] at e1
    simp only [q78_10, q78_12] at e1
    by_cases z : (6 : Int32) ≤ Int32.ofNat i
    · rw [if_pos z] at e1
      exact fin e1
    · rw [if_neg z] at e1
      simp only [q78_15, q78_16, q78_19, q78_20, Nat.reduceAdd, ct83, hc, exists_eq_left, vB_r, q78_23] at e1
      rw [if_pos trivial] at e1
      exact fin e1
  · rw [q175_48] at e2
    simp only [q175_49, q175_50, q175_53, h3] at e2
    rw [if_pos (Int32.le_refl _)] at e2
    simp only [q175_119, q175_120, q175_123, h20] at e2
    rw [if_pos (show (0 : Int32) ≤ 0 from Int32.le_refl _)] at e2
    simp only [q175_134, q175_135, q175_138, h3] at e2
    exact e2
/-- the loops, in step -/
theorem ls_x {cc dd : Nat} (hI : lw_I xs H) (hw0 : vw v0 H) (hl : (∀ t : Nat, t < 22 → v0.2.2.2 (21 + t) = 23) ∧ v0.2.2.2 48 = 23) (hD : prD 3 0 cc v0) (hD2 : prD 7 1 dd v0) : ∀ (m i np : Nat) (v w : vm_V) (l2 l3 : Value), i + m = 6 → CK np v w → i ≤ np → (∀ q j : Nat, q < 18 → v.1 q j = v0.1 q j) → (∀ q j : Nat, 60 < q → v.1 q j = v0.1 q j) → v.2 = v0.2 → w.1 64 20 = 0 → w.1 64 0 = 0 → (∀ q j : Nat, rng q j → w.1 q j = v0.1 q j) → w.2 = wz.2 → vE 78 9 [.ref 2, .int (Int32.ofNat i), l2, l3] [] v x1 → vE 175 48 [.ref 64, .int (Int32.ofNat i)] [] w x2 → OU x1 x2 wz := by
  intro m
  induction m with
  | zero =>
    intro i np v w l2 l3 h hC hi hv hv2 hv3 h20 h0 hr h2 e1 e2
    have n6 := CK_6 hC
    obtain rfl : i = np := by omega
    obtain ⟨a1, a2⟩ := ls_e hC h20 e1 e2
    exact Or.inl ⟨i, _, w, a1, a2, h0, h2⟩
  | succ m ih =>
    intro i np v w l2 l3 h hC hi hv hv2 hv3 h20 h0 hr h2 e1 e2
    have n6 := CK_6 hC
    by_cases z : i = np
    · subst z
      obtain ⟨a1, a2⟩ := ls_e hC h20 e1 e2
      exact Or.inl ⟨i, _, w, a1, a2, h0, h2⟩
    have lt : i < np := by omega
    have rg : ∀ q j : Nat, rng q j → 65 ≤ q ∧ q ≤ 68 := fun q j h => by
      unfold rng at h
      omega
    obtain ⟨s, t, s6, t6, b1, b2, b3, b4⟩ := hC.2.2.2.1 i lt
    have b5 : w.1 85 s = Int32.ofNat t := (hC.2.2.2.2.1 s s6).1.symm.trans b4
    have hc : c_isW v (Int32.ofNat i) = 1 := by
      unfold c_isW
      rw [if_pos hC.2.1, hC.1, if_neg (nl (by omega) (by omega) lt)]
    have hs : c_wIn v (Int32.ofNat i) = Int32.ofNat s := by
      unfold c_wIn
      rw [if_neg (nn_n0 (by omega)), if_neg (show ¬ (6 : Int32) ≤ Int32.ofNat i from nl (k := 6) (by omega) (by omega) (by omega)), nn_nat (show i < 2147483648 by omega)]
      exact b1
    have ht : c_pOf v (Int32.ofNat s) = Int32.ofNat t := by
      unfold c_pOf
      rw [if_neg (nn_n0 (by omega)), if_neg (show ¬ (6 : Int32) ≤ Int32.ofNat s from nl (k := 6) (by omega) (by omega) s6), nn_nat (show s < 2147483648 by omega)]
      exact b4
    rw [q78_9] at e1
    simp only [q78_10, q78_12] at e1
    rw [if_neg (show ¬ (6 : Int32) ≤ Int32.ofNat i from nl (k := 6) (by omega) (by omega) (by omega))] at e1
    simp only [q78_15, q78_16, q78_19, q78_20, Nat.reduceAdd, ct83, hc, exists_eq_left, vB_r, q78_23] at e1
    rw [if_neg i10] at e1
    simp only [q78_26, q78_27, q78_30, q78_31, Nat.reduceAdd, ct84, hs, exists_eq_left, vB_r, q78_34, q78_35, q78_36, q78_39, q78_40, ct85, ht, q78_43, q78_44, q78_45, q78_48, q78_49, q78_52, q78_53, q78_54, q78_57, q78_58] at e1
    obtain ⟨y1, f1, f2⟩ := e1
    rw [q175_48] at e2
    simp only [q175_49, q175_50, q175_53, hC.2.2.1] at e2
    rw [if_neg (nl (by omega) (by omega) lt)] at e2
    simp only [q175_56, q175_57, q175_60, h20] at e2
    rw [if_pos trivial] at e2
    simp only [q175_63, q175_64, q175_65, q175_66, q175_69, q175_70, q175_71, q175_72, q175_75, q175_76, q175_77, Nat.reduceAdd, nn_nat (show i < 2147483648 by omega), b2, b3] at e2
    obtain ⟨y, d1, d2⟩ := e2
    obtain ⟨R1, R2⟩ := rl_x (by omega) b2 b3 d2
    have vr_ : ∀ q j : Nat, rng q j → v.1 q j = v0.1 q j := fun q j h => hv2 q j (by have := rg q j h; omega)
    have hDv : prD 3 0 cc v := prD_f (Or.inl ⟨rfl, rfl⟩) (fun q j _ _ => hv q j (by omega)) vr_ hD
    have hD2v : prD 7 1 dd v := prD_f (Or.inr ⟨rfl, rfl⟩) (fun q j _ _ => hv q j (by omega)) vr_ hD2
    obtain ⟨n, a, c, d, v', w', g1, g2, g3, g4, g5, g6, g7, g8⟩ := lk_2 hDv hD2v s6 t6 (by rw [hv3]; exact hl) (fun q j h => (hr q j h).trans (vr_ q j h).symm) b5 f1 d1
    obtain ⟨kk, x0, x3, k1, k2, k3, k4, k5, k6, L1, L2, L3, L4, L5, L6⟩ := lt_x g3 g2
    subst g1
    simp only [vB_d, Nat.reduceAdd, q78_61, q78_62, q78_65, q78_66, q78_67] at f2
    obtain ⟨y3, f3, f4⟩ := f2
    obtain ⟨J1, J2, J3, J4, J5, J6⟩ := jg_x k1 g3.2.2.1.2.1.1 g3.2.2.2.2.1.2.1.1 g3.2.2.1.2.1.2.2 g3.2.2.2.2.1.2.1.2.2 k4 f3
    rw [k5, k6] at J5 J6
    have hC' : CK np v' w' := CK_f hC (fun P j h => g4 P j (by omega)) (fun P j h => by
      rcases h with h | ⟨rfl, rfl⟩
      · exact g6 P j (by omega)
      · exact g7 25 (by omega))
    have wr : ∀ (u2 : vm_V), (∀ P k : Nat, P ≠ 83 → P ≠ 84 → P ≠ 85 → ¬ (P = 64 ∧ k = 25) → u2.1 P k = w'.1 P k) → ∀ q j : Nat, rng q j → (vm_si u2 64 20 0).1 q j = v0.1 q j := fun u2 a7 q j h => by
      have q2 := rg q j h
      rw [vm_si1b, if_neg (by omega), a7 q j (by omega) (by omega) (by omega) (by omega), g6 q j (by omega)]
      exact hr q j h
    -- one round more
    have nx : ∀ (u1 u2 : vm_V) (np' : Nat), y3 = vd u1 → y = vr 0 u2 → CK np' u1 u2 → np ≤ np' → (∀ P j : Nat, P ≠ 18 → P ≠ 59 → P ≠ 60 → u1.1 P j = v'.1 P j) → u1.2 = v'.2 → (∀ P k : Nat, P ≠ 83 → P ≠ 84 → P ≠ 85 → ¬ (P = 64 ∧ k = 25) → u2.1 P k = w'.1 P k) → u2.2 = w'.2 → OU x1 x2 wz := fun u1 u2 np' a1 a2 a3 a4 a5 a6 a7 a8 => by
      subst a1
      simp only [vB_d, Nat.reduceAdd, q78_70, q78_73, nn_s] at f4
      refine ih (i + 1) np' u1 (vm_si u2 64 20 0) _ _ (by omega) (CK_f a3 (fun _ _ _ => rfl) (fun P q h => by rw [vm_si1b, if_neg (by omega)])) (by omega) (fun q j hq => ?_) (fun q j hq => ?_) (a6.trans (g5.trans hv3)) si_s ?_ (wr u2 a7) (a8.trans (g8.trans h2)) f4 (R2 u2 a2)
      · rw [a5 q j (by omega) (by omega) (by omega), g4 q j (by omega)]
        exact hv q j hq
      · rw [a5 q j (by omega) (by omega) (by omega), g4 q j (by omega)]
        exact hv2 q j hq
      · rw [si_n (by omega), a7 64 0 (by omega) (by omega) (by omega) (by omega), g7 0 (by omega)]
        exact h0
    -- both refuse
    have rf : ∀ u1 : vm_V, y3 = vd u1 → ¬ u1.1 18 6 = 0 → (∃ u : vm_V, x2 = vr 0 u ∧ u.1 64 0 = 1) → OU x1 x2 wz := fun u1 a1 a2 a3 => by
      obtain ⟨u, a3, a4⟩ := a3
      subst a1
      simp only [vB_d, Nat.reduceAdd, q78_70, q78_73, nn_s] at f4
      exact Or.inr ⟨_, u, cl_end a2 f4, a3, a4⟩
    have bs : ∀ (u2 : vm_V) (j npp : Nat), y = vr 0 u2 → BS j npp u2 → np ≤ j → j ≤ 6 → npp ≤ 9 → (∀ P k : Nat, P ≠ 83 → P ≠ 84 → P ≠ 85 → ¬ (P = 64 ∧ k = 25) → u2.1 P k = w'.1 P k) → ∃ u : vm_V, x2 = vr 0 u ∧ u.1 64 0 = 1 := fun u2 j npp a2 a3 a4 a5 a6 a7 => bs_l hI hw0 hl hD hD2 (j - (i + 1)) (i + 1) npp (vm_si u2 64 20 0) (by omega) (BS_f a3 (fun P q h => by rw [vm_si1b, if_neg (by omega)])) (by omega) si_s (wr u2 a7) (R2 u2 a2)
    have cr : ∀ r : Int32, (c_refuse v' r (Int32.ofNat s) (Int32.ofNat t)).1 18 6 = r := fun r => by
      unfold c_refuse
      rw [si_n (by omega), si_n (by omega), si_s]
    by_cases p1 : pA1 c d v'
    · by_cases p2 : pA2 v'
      · by_cases q2 : kk = 2
        · exact nx v' w' np (J4 p1 p2 q2) (L4 p1 p2 q2) hC' (Nat.le_refl np) (fun _ _ _ _ _ => rfl) rfl (fun _ _ _ _ _ _ => rfl) rfl
        · by_cases p3 : pA3 v'
          · by_cases q0 : kk = 0
            · obtain ⟨y2, M1, M2⟩ := L5 p1 p2 q0 p3
              obtain ⟨u, u1, u2, u3, u4, u5, u6⟩ := mt_j hC' k2 k3 M1
              have Y := M2 u u1 (u2 79 0 (by omega) (by omega) (by omega) (by omega))
              rcases u6 with ⟨np', n1, n2⟩ | ⟨n1, n2⟩
              · exact nx _ u np' (J5 p1 p2 q0 p3) Y n2 n1 u4 u5 u2 u3
              · exact rf _ (J5 p1 p2 q0 p3) (by rw [n1]; exact i10) (bs u np (np + 1) Y n2 (Nat.le_refl np) n6 (by omega) u2)
            · have kk1 : kk = 1 := by omega
              obtain ⟨y0, y4, r1, r2, r3, r4, y2, M1, M2⟩ := L6 p1 p2 kk1 p3
              obtain ⟨u, u1, u2, u3, u4, u5, u6⟩ := mt_j hC' k2 k3 M1
              obtain ⟨y5, M3, M4⟩ := M2 u u1 (fun P j _ _ => u2 P j (by omega) (by omega) (by omega) (by omega))
              have J := J6 p1 p2 kk1 p3
              rw [u4 49 9 (by omega) (by omega) (by omega), u4 54 9 (by omega) (by omega) (by omega), r3, r4] at J
              rcases u6 with ⟨np', n1, n2⟩ | ⟨n1, n2⟩
              · obtain ⟨u', t1, t2, t3, t4, t5, t7⟩ := mt_j n2 r1 r2 M3
                have Y := M4 u' t1
                have n7 := CK_6 n2
                rcases t7 with ⟨np2, n3, n4⟩ | ⟨n3, n4⟩
                · exact nx _ u' np2 J Y n4 (by omega) (fun P j a b c => (t4 P j a b c).trans (u4 P j a b c)) (t5.trans u5) (fun P k a b c d => (t2 P k a b c d).trans (u2 P k a b c d)) (t3.trans u3)
                · exact rf _ J (by rw [n3]; exact i10) (bs u' np' (np' + 1) Y n4 n1 n7 (by omega) (fun P k a b c d => (t2 P k a b c d).trans (u2 P k a b c d)))
              · obtain ⟨u', npp, t1, t2, t3, t4, t5, t7⟩ := BS_mt n2 r1 r2 (by omega) M3
                have Y := M4 u' t1
                rw [cm_d (by rw [n1]; exact i10)] at J
                exact rf _ J (by rw [n1]; exact i10) (bs u' np npp Y t2 (Nat.le_refl np) n6 (by omega) (fun P k a b c d => (t5 P k a b c d).trans (u2 P k a b c d)))
          · exact rf _ (J3 p1 p2 q2 p3) (by rw [cr]; decide) (R1 4 w' (L3 p1 p2 q2 p3) (by decide) (by decide))
      · exact rf _ (J2 p1 p2) (by rw [cr]; decide) (R1 3 w' (L2 p1 p2) (by decide) (by decide))
    · exact rf _ (J1 p1) (by rw [cr]; decide) (R1 2 w' (L1 p1) (by decide) (by decide))
/-! the beginnings -/
theorem CK_0 (h5 : v.1 18 5 = 0) (h6 : v.1 18 6 = 0) (h25 : w.1 64 25 = 0) (ha : ∀ s : Nat, s < 6 → v.1 59 s = -1) (hb : ∀ s : Nat, s < 6 → w.1 85 s = -1) : CK 0 v w := by
  refine ⟨h5, h6, h25, fun j hj => absurd hj (Nat.not_lt_zero j), fun s hs => ⟨(ha s hs).trans (hb s hs).symm, Or.inl (ha s hs)⟩, ?_⟩
  have z : ∀ s : Nat, s < 6 → b1_ (v.1 59 s) = 0 := fun s hs => if_pos (ha s hs)
  have z0 := z 0 (by omega)
  have z1 := z 1 (by omega)
  have z2 := z 2 (by omega)
  have z3 := z 3 (by omega)
  have z4 := z 4 (by omega)
  have z5 := z 5 (by omega)
  unfold cS
  omega
theorem rp_l : ∀ (m i : Nat) (w : vm_V), i + m = 6 → vE 175 12 [.ref 64, .int (Int32.ofNat i)] [] w x → vE 175 31 [.ref 64, .int (Int32.ofNat 6)] [] (v_fl 85 (-1) m i w) x
  | 0, i, w, h, e => by
    obtain rfl : i = 6 := by omega
    rw [q175_12] at e
    simp only [q175_13, q175_15] at e
    rw [if_pos (show (6 : Int32) ≤ Int32.ofNat 6 from by decide)] at e
    exact e
  | m + 1, i, w, h, e => by
    rw [q175_12] at e
    simp only [q175_13, q175_15] at e
    rw [if_neg (show ¬ (6 : Int32) ≤ Int32.ofNat i from nl (k := 6) (by omega) (by omega) (by omega))] at e
    simp only [q175_18, q175_19, q175_22, q175_23, q175_24, q175_25, q175_28, Nat.reduceAdd, nn_nat (show i < 2147483648 by omega), nn_s] at e
    exact rp_l m (i + 1) _ (by omega) e
def cB (v : vm_V) : vm_V := vm_si (vm_si (vm_si (vm_si (v_fl 59 (-1) 6 0 v) 18 5 0) 18 6 0) 18 7 (-1)) 18 8 (-1)
theorem cB_o {q j : Nat} (h1 : q ≠ 18) (h2 : q ≠ 59) : (cB v).1 q j = v.1 q j := by
  unfold cB
  rw [si_o h1, si_o h1, si_o h1, si_o h1, v_fl1, if_neg (fun z => h2 z.1)]
theorem cB_9 {j : Nat} (h : j < 6) : (cB v).1 59 j = -1 := by
  unfold cB
  rw [si_o (by omega), si_o (by omega), si_o (by omega), si_o (by omega), v_fl1, if_pos ⟨rfl, Nat.zero_le j, by omega⟩]
theorem cB_5 : (cB v).1 18 5 = 0 := by
  unfold cB
  rw [si_n (by omega), si_n (by omega), si_n (by omega), si_s]
theorem cB_6 : (cB v).1 18 6 = 0 := by
  unfold cB
  rw [si_n (by omega), si_n (by omega), si_s]
theorem cB_2 : (cB v).2 = v.2 := v_fl2 (p := 59) (z := -1) 6 0 v
def wB (w : vm_V) : vm_V := v_fl 85 (-1) 6 0 (vm_si (vm_si w 64 0 0) 64 25 0)
theorem wB_o {q j : Nat} (h1 : q ≠ 64) (h2 : q ≠ 85) : (wB w).1 q j = w.1 q j := by
  unfold wB
  rw [v_fl1, if_neg (fun z => h2 z.1), si_o h1, si_o h1]
theorem wB_0 : (wB w).1 64 0 = 0 := by
  unfold wB
  rw [v_fl1, if_neg (by omega), si_n (by omega), si_s]
theorem wB_5 : (wB w).1 64 25 = 0 := by
  unfold wB
  rw [v_fl1, if_neg (by omega), si_s]
theorem wB_8 {j : Nat} (h : j < 6) : (wB w).1 85 j = -1 := by
  unfold wB
  rw [v_fl1, if_pos ⟨rfl, Nat.zero_le j, by omega⟩]
theorem wB_2 : (wB w).2 = w.2 := v_fl2 (p := 85) (z := -1) 6 0 (vm_si (vm_si w 64 0 0) 64 25 0)
theorem ch_o {P k : Nat} (h : ¬ (P = 64 ∧ 20 ≤ k ∧ k ≤ 22)) : (vm_si (r_changed w) 64 20 0).1 P k = w.1 P k := by
  unfold r_changed
  rw [vm_si1b, if_neg (by omega), vm_si1b, if_neg (by omega), vm_si1b, if_neg (by omega), vm_si1b, if_neg (by omega)]
/-- check -/
theorem op_check (hI : lw_I xs H) (hw : vw v H) (hR : Rp v) (hK : RK v) (hf : ∀ q j : Nat, rng q j → v1.1 q j = v.1 q j) {w1 w2 : Int32} (e1 : vE 77 0 [.ref 2, .ref 93, .retAddr 0] [] v (vr w1 v1)) (e2 : vE 175 0 [.ref 64, .retAddr 0] [] v1 (vr w2 v2)) : v2.1 64 0 = w1 ∧ (w1 = 0 → v2.2.1 93 0 = w2.toInt64) := by
  have hl := vlen hI hw
  have h59 : v.2.2.2 59 = 6 := gh_ln hI hw (p := 59) rfl (by omega) (by omega)
  obtain ⟨cc, hD⟩ := prD_of hI hw hR hK (p := 3) (P := 0) (Or.inl ⟨rfl, rfl⟩)
  obtain ⟨dd, hD2⟩ := prD_of hI hw hR hK (p := 7) (P := 1) (Or.inr ⟨rfl, rfl⟩)
  simp only [q77_0, q77_1, q77_2, q77_3, q78_0, q78_1, q78_4, q79_0, q79_1, q79_4, q79_5, Nat.reduceAdd, ct80 h59 (show 6 < 1000 by omega), exists_eq_left, vB_d, q79_8, q79_9, q79_10, q79_13, q79_14, q79_15, q79_18, q79_19, q79_20, q79_23, q79_24, q79_25, q79_28, q79_29, q79_30, q79_31, ct81, q79_34, q78_7, q78_8] at e1
  obtain ⟨y, f1, f2⟩ := e1
  have f1 : vE 78 9 [.ref 2, .int (Int32.ofNat 0), .retAddr 0, .retAddr 0] [] (c_meet (cB v) (Int32.ofNat 0) (Int32.ofNat 0)) y := f1
  simp only [q175_0, q175_1, q175_2, q175_5, q175_6, q175_7, q175_10, q175_11] at e2
  have e2 : vE 175 31 [.ref 64, .int (Int32.ofNat 6)] [] (wB v1) (vr w2 v2) := rp_l 6 0 _ rfl e2
  simp only [q175_31, q175_32, q175_33, q175_34] at e2
  obtain ⟨y2, d1, d2⟩ := e2
  have hC : CK 0 (cB v) (wB v1) := CK_0 cB_5 cB_6 wB_5 (fun s hs => cB_9 hs) (fun s hs => wB_8 hs)
  obtain ⟨u, u1, u2, u3, u4, u5, u6⟩ := mt_j hC (show 0 < 6 by omega) (show 0 < 6 by omega) d1
  subst u1
  simp only [vB_d, Nat.reduceAdd, q175_37, q175_38, ct150, exists_eq_left, q175_41, q175_42, q175_43, q175_46, q175_47] at d2
  have wr : ∀ q j : Nat, rng q j → (vm_si (r_changed u) 64 20 0).1 q j = v.1 q j := fun q j h => by
    have q2 : 65 ≤ q ∧ q ≤ 68 := by
      unfold rng at h
      omega
    rw [ch_o (by omega), u2 q j (by omega) (by omega) (by omega) (by omega), wB_o (by omega) (by omega)]
    exact hf q j h
  have key : OU y (vr w2 v2) v1 := by
    rcases u6 with ⟨np', n1, n2⟩ | ⟨n1, n2⟩
    · refine ls_x hI hw hl hD hD2 6 0 np' _ (vm_si (r_changed u) 64 20 0) _ _ rfl (CK_f n2 (fun _ _ _ => rfl) (fun P k h => ch_o (by omega))) (Nat.zero_le np') (fun q j hq => ?_) (fun q j hq => ?_) (u5.trans cB_2) si_s ?_ wr (u3.trans wB_2) f1 d2
      · rw [u4 q j (by omega) (by omega) (by omega), cB_o (by omega) (by omega)]
      · rw [u4 q j (by omega) (by omega) (by omega), cB_o (by omega) (by omega)]
      · rw [ch_o (by omega), u2 64 0 (by omega) (by omega) (by omega) (by omega), wB_0]
    · obtain ⟨g, g1, g2⟩ := bs_l hI hw hl hD hD2 0 0 1 (vm_si (r_changed u) 64 20 0) rfl (BS_f n2 (fun P k h => ch_o (by omega))) (by omega) si_s wr d2
      exact Or.inr ⟨_, g, cl_end (by rw [n1]; exact i10) f1, g1, g2⟩
  rcases key with ⟨np, a, b, h1, h2, h3, h4⟩ | ⟨a, b, h1, h2, h3⟩
  · subst h1
    simp only [vB_r, Nat.reduceAdd, q77_6, q77_7, q77_8, q77_14, q77_15, show (0 : Int32).toNatClampNeg = 0 from rfl] at f2
    obtain ⟨g1, g2⟩ := vr_inj f2
    obtain ⟨g3, g4⟩ := vr_inj h2
    subst g4
    refine ⟨h3.trans g1.symm, fun _ => ?_⟩
    rw [h4, g3, g2]
    exact vm_sl2
  · subst h1
    simp only [qh77_3_13, q77_11, q77_12, q77_13] at f2
    obtain ⟨g1, g2⟩ := vr_inj f2
    obtain ⟨g3, g4⟩ := vr_inj h2
    subst g4
    exact ⟨h3.trans g1.symm, fun z => absurd (g1.symm.trans z) i10⟩
end EV
