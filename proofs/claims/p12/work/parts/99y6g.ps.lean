/-! pass: both sides -/
section RSG
variable {xs : List Int32} {H H1 : am_H} {v v1 v2 w : vm_V} {x : vm_Y}
theorem ps_d (hI : lw_I xs H) (hw : vw v H) (hR : Rp v) (hI1 : lw_I xs H1) (hw1 : vw v1 H1) (h65 : v1.1 65 0 = v.1 65 0) (h66 : ∀ k : Nat, k < 12 → v1.1 66 k = v.1 66 k) (h67 : ∀ k : Nat, k < 384 → v1.1 67 k = v.1 67 k) (h68 : ∀ k : Nat, k < 48 → v1.1 68 k = v.1 68 k) {a w1 w2 : Int32} (e1 : vE 41 0 [.ref 2, .int a, .ref 93, .retAddr 0] [] v (vr w1 v1)) (e2 : vE 164 0 [.ref 64, .int a, .retAddr 0, .retAddr 0] [] v1 (vr w2 v2)) : (RA v2 ∧ RE v2) ∧ v2.1 64 0 = w1 ∧ (w1 = 0 → v2.2.1 93 0 = w2.toInt64) := by
  obtain ⟨⟨c, c1, c2, c3⟩, _⟩ := Rc_cnt hI hw hR.1.1
  have hRl := hR.1.2
  obtain ⟨r1, r2, r3, r4, r5, r6⟩ := hR.2
  have cp := cpr_copy (v := vm_si v1 64 0 0)
  have len : ∀ b : Nat, b < 6 → ∃ n : Nat, n ≤ 8 ∧ v.1 66 b = Int32.ofNat n ∧ (r_copy (vm_si v1 64 0 0) 0 1).1 66 b = Int32.ofNat n := fun b hb => by
    have bd := gh_bd hI hw (p := 66) (n := 12) (k := b) (lo := 0) (hi := 8) rfl (by omega)
    obtain ⟨n, n1, n2, n3⟩ := nn_of bd.1
    refine ⟨n, by omega, n1, ?_⟩
    rw [cp.2.2.2.2.2.1 b hb, vm_si1, if_neg (by omega), h66 b (by omega)]
    exact n1
  have wf : ∀ b : Nat, b < 6 → sWF (sF (r_copy (vm_si v1 64 0 0) 0 1) 67 b) := fun b hb => cg_sWF (fun k hk => by
    unfold sF
    rw [rr_67 (by omega)]) (gh_sWF hI1 hw1 (b := b) (by omega))
  have hP : pR c 0 (r_copy (vm_si v1 64 0 0) 0 1) := by
    refine ⟨?_, fun e he => ?_, wf, fun e _ he => ⟨fun k _ hk => ?_, fun k hk => ?_⟩⟩
    · rw [cp.2.2.1.1, vm_si1, if_neg (by omega), h65]
      exact c3
    · obtain ⟨n, n1, _, n3⟩ := len e he
      exact ⟨n, n1, n3⟩
    · unfold sF
      rw [rr_67b (by omega), rr_67 (by omega)]
    · rw [rr_68b (by omega), rr_68 (by omega)]
  rcases pc_x c1 c2 e1 with ⟨a1, a2, hw1', hv1⟩ | ⟨a1, hw1', hv1⟩
  · rcases pr_x c1 hP e2 with ⟨_, _, hw2, hv2⟩ | ⟨b1, _⟩
    · have hB : pB0 c (c_copyFrom (vm_si v 2 7 0) 7 3) (r_copy (vm_si v1 64 0 0) 0 1) := by
        have cc := cpc_copy (v := vm_si v 2 7 0)
        refine ⟨c1, ?_, ?_, fun b hb => ?_, fun k hk => ?_, fun k hk => ?_, wf, fun k hk => ?_, fun k hk => ?_, fun k hk => ?_, (show v.2.2.2 1 = 10 from gh_ten hI hw)⟩
        · rw [cc.1, vm_si1, if_neg (by omega)]
          exact c2
        · rw [cc.2.1, vm_si1, if_neg (by omega)]
          exact c2
        · obtain ⟨n, n1, n2, n3⟩ := len b hb
          refine ⟨n, n1, ?_, ?_, n3⟩
          · rw [cc.2.2.2.1 b hb, vm_si1, if_neg (by omega), hRl.1 b hb]
            exact n2
          · rw [cc.2.2.2.2.1 b hb, vm_si1, if_neg (by omega), hRl.1 b hb]
            exact n2
        · rw [cc_o (by omega) (by omega) (by omega) (by omega) (by omega), rr_67 hk, h67 k (by omega)]
          exact r1 k hk
        · rw [cc_o (by omega) (by omega) (by omega) (by omega) (by omega), rr_68 hk, h68 k (by omega)]
          exact r3 k hk
        · rw [rr_67 (by omega), rr_67 (by omega), h67 _ (by omega), h67 _ (by omega)]
          exact r5 k (by omega)
        · by_cases q : k < 24
          · rw [rr_68 q]
            exact gh_bd hI1 hw1 (p := 68) (n := 48) (k := k) (lo := 0) (hi := 5) rfl (by omega)
          · rw [show k = 24 + (k - 24) by omega, rr_68b (by omega)]
            exact gh_bd hI1 hw1 (p := 68) (n := 48) (k := k - 24) (lo := 0) (hi := 5) rfl (by omega)
        · rw [cc_o (by omega) (by omega) (by omega) (by omega) (by omega)]
          exact r6 k hk
      have hL : lS (c_copyFrom (vm_si v 2 7 0) 7 3) (r_copy (vm_si v1 64 0 0) 0 1) (c_copyFrom (vm_si v 2 7 0) 7 3) (r_copy (vm_si v1 64 0 0) 0 1) := by
        refine ⟨kC_rf, ⟨fun _ _ _ _ _ _ _ _ => rfl, fun _ _ => rfl, fun _ _ => rfl, rfl⟩, fun k hk => ?_, fun k hk => ?_⟩
        · rw [cc_8 hk, rr_67b hk, h67 k (by omega)]
          exact r1 k hk
        · rw [cc_9 hk, rr_68b hk, h68 k (by omega)]
          exact r3 k hk
      have hZ : zT (r_copy (vm_si v1 64 0 0) 0 1) := fun k hk => by
        rw [rr_67b (by omega), show 192 + 4 * k + 2 = 192 + (4 * k + 2) by omega, rr_67b (by omega), h67 _ (by omega), h67 _ (by omega)]
        exact r5 k (by omega)
      obtain ⟨g1, g2, g3⟩ := ps_ls (a := a) hB c 0 0 _ _ (Nat.zero_add c) hL hP
      have gz := ps_zt (a := a) hB c 0 0 _ _ (Nat.zero_add c) hL hP hZ
      generalize hWW : (r_psl a c 0 0 (r_copy (vm_si v1 64 0 0) 0 1)) = WW at g1 g2 g3 gz hw2 hv2
      generalize hVV : c_psl a c 0 (c_copyFrom (vm_si v 2 7 0) 7 3) = V at g1 g3 hv1
      have hD : WW.1 = c_diff V := by
        rw [g3]
        unfold c_diff
        rw [g1.1.1 7 3 (by omega) (by omega) (by omega) (by omega) (by omega) (by omega), hB.2.2.1, show ((Int32.ofNat c).toInt - (0 : Int32).toInt).toNat = c from by rw [Int32.toInt_ofNat_of_lt (by omega), show (0 : Int32).toInt = 0 from rfl]; omega]
        rfl
      have k1 : ∀ p k : Nat, p ≠ 64 → p ≠ 65 → p ≠ 66 → p ≠ 67 → p ≠ 68 → p ≠ 86 → p ≠ 87 → p ≠ 88 → p ≠ 89 → v2.1 p k = V.1 p k := fun p k a1 a2 a3 a4 a5 a6 a7 a8 a9 => by
        rw [hv2, r_changed1 a1, g1.2.1.1 p k a4 a5 a6 a7 a8 a9, rr_o a1 a2 a3 a4 a5, hv1, vm_sl1]
      have k4 : ∀ p k : Nat, p = 4 ∨ p = 5 → v2.1 p k = v.1 p k := fun p k hp => by
        rw [k1 p k (by omega) (by omega) (by omega) (by omega) (by omega) (by omega) (by omega) (by omega) (by omega), g1.1.1 p k (by omega) (by omega) (by omega) (by omega) (by omega) (by omega), cc_o (by omega) (by omega) (by omega) (by omega) (by omega)]
      have s67 : ∀ k : Nat, k < 192 → v2.1 67 k = v.1 67 k := fun k hk => by
        rw [hv2, r_changed1 (by omega), g1.2.1.2.1 k hk, rr_67 hk, h67 k (by omega)]
      have s68 : ∀ k : Nat, k < 24 → v2.1 68 k = v.1 68 k := fun k hk => by
        rw [hv2, r_changed1 (by omega), g1.2.1.2.2.1 k hk, rr_68 hk, h68 k (by omega)]
      refine ⟨⟨⟨fun k hk => ?_, fun k hk => ?_, fun k hk => ?_⟩, fun k hk => ?_, fun k hk => ?_⟩, ?_, fun _ => ?_⟩
      · rw [k4 4 k (by omega), s67 k hk]
        exact r1 k hk
      · rw [k1 8 k (by omega) (by omega) (by omega) (by omega) (by omega) (by omega) (by omega) (by omega) (by omega), g1.2.2.1 k hk, hv2, r_changed1 (by omega)]
      · by_cases q : k < 48
        · rw [s67 _ (by omega), s67 _ (by omega)]
          exact r5 k hk
        · have := gz (k - 48) (by omega)
          rw [show 192 + 4 * (k - 48) = 4 * k by omega] at this
          rw [hv2, r_changed1 (by omega), r_changed1 (by omega)]
          exact this
      · rw [k4 5 k (by omega), s68 k hk]
        exact r3 k hk
      · rw [k1 9 k (by omega) (by omega) (by omega) (by omega) (by omega) (by omega) (by omega) (by omega) (by omega), g1.2.2.2 k hk, hv2, r_changed1 (by omega)]
      · rw [hv2, hw1', ch_z]
        rw [g1.2.1.1 64 0 (by omega) (by omega) (by omega) (by omega) (by omega) (by omega)]
        simp [r_copy, vm_si1, vm_cp1]
      · rw [hv2, show (r_changed WW.2).2 = WW.2.2 from rfl, g1.2.1.2.2.2, show (r_copy (vm_si v1 64 0 0) 0 1).2 = v1.2 from rfl, hv1, hw2, hD]
        exact vm_sl2
    · exfalso
      rcases b1 with b1 | b1
      · exact a1 b1
      · exact b1 a2
  · rcases pr_x c1 hP e2 with ⟨b1, b2, _⟩ | ⟨_, hv2⟩
    · exfalso
      rcases a1 with a1 | a1
      · exact b1 a1
      · exact a1 b2
    · rw [hv2, hv1]
      refine ⟨⟨RA_f (Rd_A hR.2) ⟨fun k _ => by simp [vm_si1, vm_nx1], fun k _ => by simp [vm_si1, vm_nx1], fun k _ => by simp [vm_si1, vm_nx1]⟩, RE_f (Rd_E hR.2) ⟨fun k _ => by simp [vm_si1, vm_nx1], fun k _ => by simp [vm_si1, vm_nx1], fun k _ => by simp [vm_si1, vm_nx1]⟩⟩, ?_, fun h => ?_⟩
      · rw [hw1']
        simp [vm_si1]
      · rw [hw1'] at h
        exact absurd h i10
end RSG
