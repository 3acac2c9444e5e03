/-! kinds of ends; what only run writes -/
section DN
variable {xs : List Int32} {H H1 H2 : am_H} {v v1 v2 w : vm_V} {x : vm_Y} {c b n : Nat}
theorem RK_f (h : RK v) (hf : ∀ k : Nat, k < 48 → w.1 68 k = v.1 68 k) : RK w := fun b hb => by
  rw [hf _ (by omega)]
  exact h b hb
theorem RK_s {m k : Nat} {d a z : Int32} (h : RK v) (hk : k < 3) (hr : ∀ j : Nat, w.1 68 j = (setc v 68 (4 * m) (Int32.ofNat k) d a z).1 68 j) : RK w := fun b hb => by
  rw [hr]
  by_cases e : b = m
  · subst e
    exact ⟨k, hk, setc_0⟩
  · rw [setc_o (by omega)]
    exact h b hb
theorem kd_block (hI : lw_I xs H1) (hw : vw v1 H1) (hK : RK v1) {a w2 : Int32} (e2 : vE 147 0 [.ref 64, .int a, .retAddr 0] [] v1 (vr w2 v2)) : RK v2 := by
  rw [ct147] at e2
  have b0 := gh_bd hI hw (p := 65) (n := 2) (k := 0) (lo := 0) (hi := 6) rfl (by omega)
  have b1 := gh_bd hI hw (p := 65) (n := 2) (k := 1) (lo := 0) (hi := 6) rfl (by omega)
  obtain ⟨c, c1, c2, c3⟩ := nn_of b0.1
  obtain ⟨d, d1, d2, d3⟩ := nn_of b1.1
  by_cases h0 : a = 0
  · subst h0
    by_cases q : c < 6
    · exact RK_s (m := 0 + c) (k := 2) hK (by omega) (rb_e0 c1 q e2)
    · rw [rbf0 c1 (by omega) q] at e2
      obtain ⟨_, rfl⟩ := vr_inj e2
      exact RK_f hK (fun k _ => by rw [vm_si1, if_neg (by omega)])
  · by_cases h1 : a = 1
    · subst h1
      by_cases q : d < 6
      · exact RK_s (m := 6 + d) (k := 2) hK (by omega) (rb_e1 d1 q e2)
      · rw [rbf1 d1 (by omega) q] at e2
        obtain ⟨_, rfl⟩ := vr_inj e2
        exact RK_f hK (fun k _ => by rw [vm_si1, if_neg (by omega)])
    · rw [r_bad h0 h1] at e2
      obtain ⟨_, rfl⟩ := vr_inj e2
      exact RK_f hK (fun k _ => by simp [vm_si1])
theorem kd_take (hK : RK v1) (e2 : vE 160 0 [.ref 64] [] v1 (vd v2)) : RK v2 := by
  rw [ct160] at e2
  have e2 := vd_inj e2
  subst e2
  have rc : ∀ (u : vm_V) (k : Nat), k < 24 → (r_take u).1 68 k = u.1 68 (24 + k) := fun u k hk => by simp [r_take, r_changed, r_copy, vm_si1, vm_cp1, hk]
  have rd : ∀ (u : vm_V) (k : Nat), 24 ≤ k → (r_take u).1 68 k = u.1 68 k := fun u k hk => by
    have h1 : ¬ k < 24 := by omega
    simp [r_take, r_changed, r_copy, vm_si1, vm_cp1, h1]
  intro b hb
  by_cases q : b < 6
  · rw [rc _ _ (by omega), show 24 + 4 * b = 4 * (6 + b) by omega]
    exact hK _ (by omega)
  · rw [rd _ _ (by omega)]
    exact hK b hb
theorem kd_end (hI : lw_I xs H1) (hw : vw v1 H1) (hK : RK v1) {n b k a s t : Int32} (e2 : vE 158 0 [.ref 64, .int n, .int b, .int k, .int a, .int s, .int t] [] v1 (vd v2)) : RK v2 := by
  rw [ct158] at e2
  have e2 := vd_inj e2
  have bad : ∀ z : Int32, v2 = vm_si (vm_si v1 64 0 0) 64 0 z → RK v2 := fun z q => by
    rw [q]
    exact RK_f hK (fun j _ => by rw [vm_si1, if_neg (by omega), vm_si1, if_neg (by omega)])
  by_cases hb : r_isBlock (vm_si v1 64 0 0) n b = 0
  · refine bad 1 (e2.trans ?_)
    unfold r_end
    rw [if_pos hb]
  · by_cases ho : r_outside (vm_si v1 64 0 0) k 3 = 0
    · rcases re_s (v := v1) (n := n) (b := b) (k := k) (a := a) (s := s) (t := t) with h | ⟨z, _, h⟩
      · obtain ⟨kn, kn1, kn2⟩ := (out_nat (w := vm_si v1 64 0 0) (l := 3) (by omega)).mp ho
        have hn : r_outside (vm_si v1 64 0 0) n 2 = 0 := by
          by_cases q : r_outside (vm_si v1 64 0 0) n 2 = 0
          · exact q
          · exact absurd (show r_isBlock (vm_si v1 64 0 0) n b = 0 from if_neg q) hb
        obtain ⟨m, m1, m2⟩ := (out_nat (w := vm_si v1 64 0 0) (l := 2) (by omega)).mp hn
        subst m2
        have bd := gh_bd hI hw (p := 65) (n := 2) (k := m) (lo := 0) (hi := 6) rfl m1
        obtain ⟨c, c1, c2, c3⟩ := nn_of bd.1
        have hb2 : r_outside (vm_si v1 64 0 0) b (Int32.ofNat c) = 0 := by
          by_cases q : r_outside (vm_si v1 64 0 0) b (Int32.ofNat c) = 0
          · exact q
          · refine absurd ?_ hb
            unfold r_isBlock
            have h65 : (vm_si v1 64 0 0).1 65 m = Int32.ofNat c := by
              rw [vm_si1, if_neg (by omega)]
              exact c1
            rw [if_pos hn, nn_nat (by omega), h65, if_neg q]
        obtain ⟨bn, bn1, bn2⟩ := (out_nat (by omega)).mp hb2
        subst bn2 kn2
        rw [h, show (6 : Int32) * Int32.ofNat m + Int32.ofNat bn = Int32.ofNat (6 * m + bn) from by rw [show (6 : Int32) = Int32.ofNat 6 from rfl, nn_mul, nn_add], pu_rsete (by omega)] at e2
        subst e2
        refine RK_s (v := vm_si v1 64 0 0) (m := 6 * m + bn) (k := kn) (RK_f hK (fun j _ => by rw [vm_si1, if_neg (by omega)])) kn1 (fun j => r_changed1 (by omega))
      · exact bad z (e2.trans h)
    · refine bad 2 (e2.trans ?_)
      unfold r_end
      rw [if_neg hb, if_neg ho]
theorem k8_rul {B : Int32} {j : Nat} : ∀ (k : Nat) (i : Int32) (w : vm_V), (r_rul B k i w).1 68 j = w.1 68 j
  | 0, _, _ => rfl
  | k + 1, i, w => by
    unfold r_rul
    split
    · exact k8_rul k _ w
    · rw [k8_rul k]
      simp [r_put, vm_si]
theorem k8_ohl {B : Int32} {j : Nat} : ∀ (k : Nat) (i : Int32) (w : vm_V), (r_ohl B k i w).1 68 j = w.1 68 j
  | 0, _, _ => rfl
  | k + 1, i, w => by
    unfold r_ohl
    rw [k8_ohl k, vm_si1, if_neg (by omega), vm_si1, if_neg (by omega)]
theorem k8_cfl {B n bs : Int32} {j : Nat} : ∀ (k : Nat) (i : Int32) (w : vm_V), (r_cfl B n bs k i w).1 68 j = w.1 68 j
  | 0, _, _ => rfl
  | k + 1, i, w => by
    unfold r_cfl
    rw [k8_cfl k, vm_si1, if_neg (by omega)]
theorem k8_orl {B : Int32} {j : Nat} : ∀ (k : Nat) (i : Int32) (w : vm_V), (r_orl B k i w).1 68 j = w.1 68 j
  | 0, _, _ => rfl
  | k + 1, i, w => by
    unfold r_orl
    rw [k8_orl k, k8_cfl, vm_si1, if_neg (by omega)]
theorem k8_fol {j : Nat} (hb : b < 6) : ∀ (k i : Nat) (w : vm_V), i + k ≤ 8 → sWF (sF w 67 b) → fU b i w → (r_fol (Int32.ofNat b) k (Int32.ofNat i) w).1 68 j = w.1 68 j
  | 0, _, _, _, _, _ => rfl
  | k + 1, i, w, h, hwf, hu => by
    obtain ⟨_, w3, _, _⟩ := hwf i (by omega)
    obtain ⟨d, d1, d2⟩ := rg w3
    unfold r_fol
    rw [nn_s, fr_step hb (by omega) hu d1 d2, k8_fol hb k (i + 1) _ (by omega) (cg_sWF (fun k hk => (fr_s hb hk).symm) hwf) (fr_u hb (by omega) hu)]
    exact fr_o (by omega) (by omega) (by omega)
theorem wk_k {a : Int32} (hb : b < 6) (hR : pR c b w) (hK : RK w) : RK (r_wk a w b) := by
  obtain ⟨n, n1, n2⟩ := hR.2.1 b hb
  unfold r_wk
  by_cases a0 : a = 0
  · rw [if_pos a0, n2, nn_nat (by omega)]
    unfold r_fold
    have hu := hR.2.2.2 b (Nat.le_refl b) hb
    have hwf := hR.2.2.1 b hb
    have h1 : RK (r_fol (Int32.ofNat b) n 0 (r_fga 6 0 w)) := RK_f hK (fun k _ => (k8_fol hb n 0 (r_fga 6 0 w) (by omega) (rga_s hwf) (rga_u hu)).trans (rga_o (by omega) _ _ _))
    generalize r_fol (Int32.ofNat b) n 0 (r_fga 6 0 w) = u at h1
    unfold r_fex
    split
    · split
      · exact h1
      · rw [show (6 : Int32) + Int32.ofNat b = Int32.ofNat (6 + b) from nn_add 6 b, pu_rsete (by omega)]
        exact RK_s (m := 6 + b) (k := 0) h1 (by omega) (fun j => rfl)
    · exact h1
  · rw [if_neg a0]
    by_cases a1 : a = 1
    · rw [if_pos a1]
      exact RK_f hK (fun k _ => k8_rul _ _ _)
    · rw [if_neg a1]
      exact RK_f hK (fun k _ => (k8_orl _ _ _).trans (k8_ohl _ _ _))
theorem ps_k {a : Int32} (hc : c ≤ 6) : ∀ (k b : Nat) (s : Int32) (w : vm_V), b + k = c → pR c b w → RK w → RK (r_psl a k b s w).2
  | 0, b, s, w, _, _, hK => hK
  | k + 1, b, s, w, hk, hR, hK => ps_k (a := a) hc k (b + 1) (s + r_diff (r_wk a w b) (Int32.ofNat b)) (r_wk a w b) (by omega) (pR_st (by omega) hR (wk_fF (a := a) (by omega) hR)) (wk_k (by omega) hR hK)
theorem kd_pass (hI : lw_I xs H1) (hw : vw v1 H1) (hK : RK v1) {a w2 : Int32} (e2 : vE 164 0 [.ref 64, .int a, .retAddr 0, .retAddr 0] [] v1 (vr w2 v2)) : RK v2 := by
  have b0 := gh_bd hI hw (p := 65) (n := 2) (k := 0) (lo := 0) (hi := 6) rfl (by omega)
  obtain ⟨c, c1, c2, c3⟩ := nn_of b0.1
  have cp := cpr_copy (v := vm_si v1 64 0 0)
  have len : ∀ b : Nat, b < 6 → ∃ n : Nat, n ≤ 8 ∧ (r_copy (vm_si v1 64 0 0) 0 1).1 66 b = Int32.ofNat n := fun b hb => by
    have bd := gh_bd hI hw (p := 66) (n := 12) (k := b) (lo := 0) (hi := 8) rfl (by omega)
    obtain ⟨n, n1, n2, n3⟩ := nn_of bd.1
    refine ⟨n, by omega, ?_⟩
    rw [cp.2.2.2.2.2.1 b hb, vm_si1, if_neg (by omega)]
    exact n1
  have wf : ∀ b : Nat, b < 6 → sWF (sF (r_copy (vm_si v1 64 0 0) 0 1) 67 b) := fun b hb => cg_sWF (fun k hk => by
    unfold sF
    rw [rr_67 (by omega)]) (gh_sWF hI hw (b := b) (by omega))
  have hP : pR c 0 (r_copy (vm_si v1 64 0 0) 0 1) := by
    refine ⟨?_, len, wf, fun e _ he => ⟨fun k _ hk => ?_, fun k hk => ?_⟩⟩
    · rw [cp.2.2.1.1, vm_si1, if_neg (by omega)]
      exact c1
    · unfold sF
      rw [rr_67b (by omega), rr_67 (by omega)]
    · rw [rr_68b (by omega), rr_68 (by omega)]
  have hC : RK (r_copy (vm_si v1 64 0 0) 0 1) := fun b hb => by
    by_cases q : b < 6
    · rw [rr_68 (by omega)]
      exact hK b hb
    · rw [show 4 * b = 24 + 4 * (b - 6) by omega, rr_68b (by omega)]
      exact hK (b - 6) (by omega)
  rcases pr_x (show c ≤ 6 by omega) hP e2 with ⟨_, _, _, hv2⟩ | ⟨_, hv2⟩
  · rw [hv2]
    exact RK_f (ps_k (a := a) (by omega) c 0 0 _ (Nat.zero_add c) hP hC) (fun k _ => r_changed1 (by omega))
  · rw [hv2]
    exact RK_f hK (fun k _ => by rw [vm_si1, if_neg (by omega)])

def gm_L : List Nat := [146, 147, 148, 149, 150, 151, 152, 153, 154, 155, 156, 157, 158, 159, 160, 161, 162, 163, 164, 165, 166, 167, 168, 169, 170, 171, 172, 173, 174, 175, 176, 177, 178, 179, 180, 181, 182, 183, 184, 185, 186, 187, 188, 189, 190, 191, 192, 193, 194, 195, 196, 197, 198, 200, 201, 202, 203]
theorem gm_33 : fk_M gm_L 33 := by
  intro mid hm pc i hi
  simp only [gm_L, List.mem_cons, List.not_mem_nil, or_false] at hm
  rcases hm with rfl | rfl | rfl | rfl | rfl | rfl | rfl | rfl | rfl | rfl | rfl | rfl | rfl | rfl | rfl | rfl | rfl | rfl | rfl | rfl | rfl | rfl | rfl | rfl | rfl | rfl | rfl | rfl | rfl | rfl | rfl | rfl | rfl | rfl | rfl | rfl | rfl | rfl | rfl | rfl | rfl | rfl | rfl | rfl | rfl | rfl | rfl | rfl | rfl | rfl | rfl | rfl | rfl | rfl | rfl | rfl | rfl
  · exact fk_at (t := am_c146) (F := fk_i gm_L 33 9) (by decide +kernel) hi
  · exact fk_at (t := am_c147) (F := fk_i gm_L 33 9) (by decide +kernel) hi
  · exact fk_at (t := am_c148) (F := fk_i gm_L 33 9) (by decide +kernel) hi
  · exact fk_at (t := am_c149) (F := fk_i gm_L 33 9) (by decide +kernel) hi
  · exact fk_at (t := am_c150) (F := fk_i gm_L 33 9) (by decide +kernel) hi
  · exact fk_at (t := am_c151) (F := fk_i gm_L 33 9) (by decide +kernel) hi
  · exact fk_at (t := am_c152) (F := fk_i gm_L 33 9) (by decide +kernel) hi
  · exact fk_at (t := am_c153) (F := fk_i gm_L 33 9) (by decide +kernel) hi
  · exact fk_at (t := am_c154) (F := fk_i gm_L 33 9) (by decide +kernel) hi
  · exact fk_at (t := am_c155) (F := fk_i gm_L 33 9) (by decide +kernel) hi
  · exact fk_at (t := am_c156) (F := fk_i gm_L 33 9) (by decide +kernel) hi
  · exact fk_at (t := am_c157) (F := fk_i gm_L 33 9) (by decide +kernel) hi
  · exact fk_at (t := am_c158) (F := fk_i gm_L 33 9) (by decide +kernel) hi
  · exact fk_at (t := am_c159) (F := fk_i gm_L 33 9) (by decide +kernel) hi
  · exact fk_at (t := am_c160) (F := fk_i gm_L 33 9) (by decide +kernel) hi
  · exact fk_at (t := am_c161) (F := fk_i gm_L 33 9) (by decide +kernel) hi
  · exact fk_at (t := am_c162) (F := fk_i gm_L 33 9) (by decide +kernel) hi
  · exact fk_at (t := am_c163) (F := fk_i gm_L 33 9) (by decide +kernel) hi
  · exact fk_at (t := am_c164) (F := fk_i gm_L 33 9) (by decide +kernel) hi
  · exact fk_at (t := am_c165) (F := fk_i gm_L 33 9) (by decide +kernel) hi
  · exact fk_at (t := am_c166) (F := fk_i gm_L 33 9) (by decide +kernel) hi
  · exact fk_at (t := am_c167) (F := fk_i gm_L 33 9) (by decide +kernel) hi
  · exact fk_at (t := am_c168) (F := fk_i gm_L 33 9) (by decide +kernel) hi
  · exact fk_at (t := am_c169) (F := fk_i gm_L 33 9) (by decide +kernel) hi
  · exact fk_at (t := am_c170) (F := fk_i gm_L 33 9) (by decide +kernel) hi
  · exact fk_at (t := am_c171) (F := fk_i gm_L 33 9) (by decide +kernel) hi
  · exact fk_at (t := am_c172) (F := fk_i gm_L 33 9) (by decide +kernel) hi
  · exact fk_at (t := am_c173) (F := fk_i gm_L 33 9) (by decide +kernel) hi
  · exact fk_at (t := am_c174) (F := fk_i gm_L 33 9) (by decide +kernel) hi
  · exact fk_at (t := am_c175) (F := fk_i gm_L 33 9) (by decide +kernel) hi
  · exact fk_at (t := am_c176) (F := fk_i gm_L 33 9) (by decide +kernel) hi
  · exact fk_at (t := am_c177) (F := fk_i gm_L 33 9) (by decide +kernel) hi
  · exact fk_at (t := am_c178) (F := fk_i gm_L 33 9) (by decide +kernel) hi
  · exact fk_at (t := am_c179) (F := fk_i gm_L 33 9) (by decide +kernel) hi
  · exact fk_at (t := am_c180) (F := fk_i gm_L 33 9) (by decide +kernel) hi
  · exact fk_at (t := am_c181) (F := fk_i gm_L 33 9) (by decide +kernel) hi
  · exact fk_at (t := am_c182) (F := fk_i gm_L 33 9) (by decide +kernel) hi
  · exact fk_at (t := am_c183) (F := fk_i gm_L 33 9) (by decide +kernel) hi
  · exact fk_at (t := am_c184) (F := fk_i gm_L 33 9) (by decide +kernel) hi
  · exact fk_at (t := am_c185) (F := fk_i gm_L 33 9) (by decide +kernel) hi
  · exact fk_at (t := am_c186) (F := fk_i gm_L 33 9) (by decide +kernel) hi
  · exact fk_at (t := am_c187) (F := fk_i gm_L 33 9) (by decide +kernel) hi
  · exact fk_at (t := am_c188) (F := fk_i gm_L 33 9) (by decide +kernel) hi
  · exact fk_at (t := am_c189) (F := fk_i gm_L 33 9) (by decide +kernel) hi
  · exact fk_at (t := am_c190) (F := fk_i gm_L 33 9) (by decide +kernel) hi
  · exact fk_at (t := am_c191) (F := fk_i gm_L 33 9) (by decide +kernel) hi
  · exact fk_at (t := am_c192) (F := fk_i gm_L 33 9) (by decide +kernel) hi
  · exact fk_at (t := am_c193) (F := fk_i gm_L 33 9) (by decide +kernel) hi
  · exact fk_at (t := am_c194) (F := fk_i gm_L 33 9) (by decide +kernel) hi
  · exact fk_at (t := am_c195) (F := fk_i gm_L 33 9) (by decide +kernel) hi
  · exact fk_at (t := am_c196) (F := fk_i gm_L 33 9) (by decide +kernel) hi
  · exact fk_at (t := am_c197) (F := fk_i gm_L 33 9) (by decide +kernel) hi
  · exact fk_at (t := am_c198) (F := fk_i gm_L 33 9) (by decide +kernel) hi
  · exact fk_at (t := am_c200) (F := fk_i gm_L 33 9) (by decide +kernel) hi
  · exact fk_at (t := am_c201) (F := fk_i gm_L 33 9) (by decide +kernel) hi
  · exact fk_at (t := am_c202) (F := fk_i gm_L 33 9) (by decide +kernel) hi
  · exact fk_at (t := am_c203) (F := fk_i gm_L 33 9) (by decide +kernel) hi
theorem gm_34 : fk_M gm_L 34 := by
  intro mid hm pc i hi
  simp only [gm_L, List.mem_cons, List.not_mem_nil, or_false] at hm
  rcases hm with rfl | rfl | rfl | rfl | rfl | rfl | rfl | rfl | rfl | rfl | rfl | rfl | rfl | rfl | rfl | rfl | rfl | rfl | rfl | rfl | rfl | rfl | rfl | rfl | rfl | rfl | rfl | rfl | rfl | rfl | rfl | rfl | rfl | rfl | rfl | rfl | rfl | rfl | rfl | rfl | rfl | rfl | rfl | rfl | rfl | rfl | rfl | rfl | rfl | rfl | rfl | rfl | rfl | rfl | rfl | rfl | rfl
  · exact fk_at (t := am_c146) (F := fk_i gm_L 34 9) (by decide +kernel) hi
  · exact fk_at (t := am_c147) (F := fk_i gm_L 34 9) (by decide +kernel) hi
  · exact fk_at (t := am_c148) (F := fk_i gm_L 34 9) (by decide +kernel) hi
  · exact fk_at (t := am_c149) (F := fk_i gm_L 34 9) (by decide +kernel) hi
  · exact fk_at (t := am_c150) (F := fk_i gm_L 34 9) (by decide +kernel) hi
  · exact fk_at (t := am_c151) (F := fk_i gm_L 34 9) (by decide +kernel) hi
  · exact fk_at (t := am_c152) (F := fk_i gm_L 34 9) (by decide +kernel) hi
  · exact fk_at (t := am_c153) (F := fk_i gm_L 34 9) (by decide +kernel) hi
  · exact fk_at (t := am_c154) (F := fk_i gm_L 34 9) (by decide +kernel) hi
  · exact fk_at (t := am_c155) (F := fk_i gm_L 34 9) (by decide +kernel) hi
  · exact fk_at (t := am_c156) (F := fk_i gm_L 34 9) (by decide +kernel) hi
  · exact fk_at (t := am_c157) (F := fk_i gm_L 34 9) (by decide +kernel) hi
  · exact fk_at (t := am_c158) (F := fk_i gm_L 34 9) (by decide +kernel) hi
  · exact fk_at (t := am_c159) (F := fk_i gm_L 34 9) (by decide +kernel) hi
  · exact fk_at (t := am_c160) (F := fk_i gm_L 34 9) (by decide +kernel) hi
  · exact fk_at (t := am_c161) (F := fk_i gm_L 34 9) (by decide +kernel) hi
  · exact fk_at (t := am_c162) (F := fk_i gm_L 34 9) (by decide +kernel) hi
  · exact fk_at (t := am_c163) (F := fk_i gm_L 34 9) (by decide +kernel) hi
  · exact fk_at (t := am_c164) (F := fk_i gm_L 34 9) (by decide +kernel) hi
  · exact fk_at (t := am_c165) (F := fk_i gm_L 34 9) (by decide +kernel) hi
  · exact fk_at (t := am_c166) (F := fk_i gm_L 34 9) (by decide +kernel) hi
  · exact fk_at (t := am_c167) (F := fk_i gm_L 34 9) (by decide +kernel) hi
  · exact fk_at (t := am_c168) (F := fk_i gm_L 34 9) (by decide +kernel) hi
  · exact fk_at (t := am_c169) (F := fk_i gm_L 34 9) (by decide +kernel) hi
  · exact fk_at (t := am_c170) (F := fk_i gm_L 34 9) (by decide +kernel) hi
  · exact fk_at (t := am_c171) (F := fk_i gm_L 34 9) (by decide +kernel) hi
  · exact fk_at (t := am_c172) (F := fk_i gm_L 34 9) (by decide +kernel) hi
  · exact fk_at (t := am_c173) (F := fk_i gm_L 34 9) (by decide +kernel) hi
  · exact fk_at (t := am_c174) (F := fk_i gm_L 34 9) (by decide +kernel) hi
  · exact fk_at (t := am_c175) (F := fk_i gm_L 34 9) (by decide +kernel) hi
  · exact fk_at (t := am_c176) (F := fk_i gm_L 34 9) (by decide +kernel) hi
  · exact fk_at (t := am_c177) (F := fk_i gm_L 34 9) (by decide +kernel) hi
  · exact fk_at (t := am_c178) (F := fk_i gm_L 34 9) (by decide +kernel) hi
  · exact fk_at (t := am_c179) (F := fk_i gm_L 34 9) (by decide +kernel) hi
  · exact fk_at (t := am_c180) (F := fk_i gm_L 34 9) (by decide +kernel) hi
  · exact fk_at (t := am_c181) (F := fk_i gm_L 34 9) (by decide +kernel) hi
  · exact fk_at (t := am_c182) (F := fk_i gm_L 34 9) (by decide +kernel) hi
  · exact fk_at (t := am_c183) (F := fk_i gm_L 34 9) (by decide +kernel) hi
  · exact fk_at (t := am_c184) (F := fk_i gm_L 34 9) (by decide +kernel) hi
  · exact fk_at (t := am_c185) (F := fk_i gm_L 34 9) (by decide +kernel) hi
  · exact fk_at (t := am_c186) (F := fk_i gm_L 34 9) (by decide +kernel) hi
  · exact fk_at (t := am_c187) (F := fk_i gm_L 34 9) (by decide +kernel) hi
  · exact fk_at (t := am_c188) (F := fk_i gm_L 34 9) (by decide +kernel) hi
  · exact fk_at (t := am_c189) (F := fk_i gm_L 34 9) (by decide +kernel) hi
  · exact fk_at (t := am_c190) (F := fk_i gm_L 34 9) (by decide +kernel) hi
  · exact fk_at (t := am_c191) (F := fk_i gm_L 34 9) (by decide +kernel) hi
  · exact fk_at (t := am_c192) (F := fk_i gm_L 34 9) (by decide +kernel) hi
  · exact fk_at (t := am_c193) (F := fk_i gm_L 34 9) (by decide +kernel) hi
  · exact fk_at (t := am_c194) (F := fk_i gm_L 34 9) (by decide +kernel) hi
  · exact fk_at (t := am_c195) (F := fk_i gm_L 34 9) (by decide +kernel) hi
  · exact fk_at (t := am_c196) (F := fk_i gm_L 34 9) (by decide +kernel) hi
  · exact fk_at (t := am_c197) (F := fk_i gm_L 34 9) (by decide +kernel) hi
  · exact fk_at (t := am_c198) (F := fk_i gm_L 34 9) (by decide +kernel) hi
  · exact fk_at (t := am_c200) (F := fk_i gm_L 34 9) (by decide +kernel) hi
  · exact fk_at (t := am_c201) (F := fk_i gm_L 34 9) (by decide +kernel) hi
  · exact fk_at (t := am_c202) (F := fk_i gm_L 34 9) (by decide +kernel) hi
  · exact fk_at (t := am_c203) (F := fk_i gm_L 34 9) (by decide +kernel) hi
theorem gm_fk {f : Nat} (hM : fk_M gm_L f) {C : ty_C} (hC : ∀ (d : Nat × Nat) (L : List Value) (h : am_H), ty_ar0 tc_g C d L h → ty_vd tc_g C d L h) (hI : lw_I xs H) (hw : vw v H) {L : List Value} (hs : vm_ent C.1.1 C.1.2.1 = true) (hp : C.2.1.2.2.2.1 = []) (hm : C.1.1 ∈ gm_L) (hf : gh_int 64 f = true) {y : vm_Y} (e : vE C.1.1 C.1.2.1 L [] v y) (ha : gh_ok C.1.2.2.1 L) : y.2.1 64 f = v.1 64 f := by
  obtain ⟨a1, a2⟩ := gh_ok_a ha
  obtain ⟨⟨o, H1⟩, r1, r2⟩ := hC C.1.2.2.2 L H ⟨⟨Nat.le_refl _, Nat.le_refl _⟩, a1, a2, hI.1, fun q hq => by rw [hp] at hq; exact absurd hq List.not_mem_nil⟩
  obtain ⟨v', e1, e2⟩ := vE_of hs hw r1
  obtain rfl := vE_det e e1
  obtain ⟨n, z, n1, n2⟩ := r1
  have n2 : z = (o, H1) := n2
  subst n2
  have hfk := fk_run hM n _ _ _ _ _ _ _ hm n1
  obtain ⟨tg, fs, c1, c2, c3, c4, c5⟩ := gh_rd hI hw hf
  obtain ⟨⟨tg', fs'⟩, f1, f2⟩ := hI.1 64 _ (show tc_g[64]? = some (9, _, _) from rfl)
  rw [ty_cok_obj rfl ⟨rfl, rfl⟩] at f2
  have f3 : tg' = 9 := f2.1
  subst f3
  rw [f1] at c1
  cases c1
  obtain ⟨fs2, k1, k2⟩ := hfk 64 fs f1
  have e6 := (e2.2 64 9 fs2 k1).2 f _ (k2.trans c2)
  rw [vm_val_int c3 c4 c5] at e6
  exact (Value.int.inj e6).symm
def Rk (v : vm_V) : Prop := Rp v ∧ RK v ∧ RM v
def fM (v w : vm_V) : Prop := w.1 61 4 = v.1 61 4 ∧ w.1 61 5 = v.1 61 5 ∧ (∀ a : Nat, a < 8 → w.1 63 a = v.1 63 a) ∧ ∀ a : Nat, a < 8 → w.1 91 a = v.1 91 a
def fM_ms (ms : List Nat) : Bool := !(ty_in 61 ms) && (!(ty_in 63 ms) && !(ty_in 91 ms))
theorem gh_fM (hI : lw_I xs H) (hw : vw v H) (hw1 : vw v1 H1) {ms : List Nat} (hu : ty_un ms H H1) (hm : fM_ms ms = true) : fM v v1 := by
  simp only [fM_ms, Bool.and_eq_true, Bool.not_eq_true'] at hm
  obtain ⟨h1, h2, h3⟩ := hm
  exact ⟨gh_fr hI hw hw1 hu h1 rfl, gh_fr hI hw hw1 hu h1 rfl, fun a ha => gh_fr hI hw hw1 hu h2 (gh_arr (n := 8) rfl ha), fun a ha => gh_fr hI hw hw1 hu h3 (gh_arr (n := 8) rfl ha)⟩
theorem RM_f (h : RM v) (h1 : fM v v1) (h2 : fM v1 v2) (a3 : v1.1 64 33 = v.1 64 33) (a4 : v1.1 64 34 = v.1 64 34) (b3 : v2.1 64 33 = v1.1 64 33) (b4 : v2.1 64 34 = v1.1 64 34) : RM v2 := by
  refine ⟨?_, ?_, fun a ha => ?_⟩
  · rw [h2.1, h1.1, b3, a3]
    exact h.1
  · rw [h2.2.1, h1.2.1, b4, a4]
    exact h.2.1
  · rw [h2.2.2.1 a ha, h1.2.2.1 a ha, h2.2.2.2 a ha, h1.2.2.2 a ha]
    exact h.2.2 a ha
theorem RM_64 (hI : lw_I xs H) (hw : vw v H) (hw1 : vw v1 H1) {ms : List Nat} (hu : ty_un ms H H1) (hm : ty_in 64 ms = false) : v1.1 64 33 = v.1 64 33 ∧ v1.1 64 34 = v.1 64 34 := ⟨gh_fr hI hw hw1 hu hm rfl, gh_fr hI hw hw1 hu hm rfl⟩
theorem wp_64 {a : Int32} (e2 : vE 159 0 [.ref 64, .int a] [] v1 (vd v2)) : v2.1 64 33 = v1.1 64 33 ∧ v2.1 64 34 = v1.1 64 34 := by
  rw [ct159] at e2
  have e2 := vd_inj e2
  subst e2
  unfold r_wipe
  split
  · exact ⟨by simp [r_changed, vm_si1], by simp [r_changed, vm_si1]⟩
  · exact ⟨by simp [vm_si1], by simp [vm_si1]⟩
theorem ct12 : vE 12 0 [.ref 2] [] v x ↔ x = vr (v.1 61 5) v := by
  simp only [q12_0, q12_1, q12_4, q12_7, q13_0, q13_1, q13_4, exists_eq_left, vB_r, Nat.reduceAdd]
theorem ct14 : vE 14 0 [.ref 2] [] v x ↔ x = vr (v.1 61 4) v := by
  simp only [q14_0, q14_1, q14_4, q14_7, q15_0, q15_1, q15_4, exists_eq_left, vB_r, Nat.reduceAdd]
theorem op_ret {w1 w2 : Int32} (hM : RM v) (e1 : vE 12 0 [.ref 2] [] v (vr w1 v1)) (e2 : vE 201 0 [.ref 64] [] v1 (vr w2 v2)) : w1 = w2 := by
  rw [ct12] at e1
  rw [ct201] at e2
  obtain ⟨rfl, rfl⟩ := vr_inj e1
  unfold r_returned at e2
  rw [(vr_inj e2).1, vm_si1, if_neg (by omega)]
  exact hM.2.1
theorem op_stp {w1 w2 : Int32} (hM : RM v) (e1 : vE 14 0 [.ref 2] [] v (vr w1 v1)) (e2 : vE 203 0 [.ref 64] [] v1 (vr w2 v2)) : w1 = w2 := by
  rw [ct14] at e1
  rw [ct203] at e2
  obtain ⟨rfl, rfl⟩ := vr_inj e1
  unfold r_steps at e2
  rw [(vr_inj e2).1, vm_si1, if_neg (by omega)]
  exact hM.1
theorem op_word {a w1 w2 : Int32} (hM : RM v) (e1 : vE 143 0 [.ref 2, .int a, .ref 93, .retAddr 0] [] v (vr w1 v1)) (e2 : vE 202 0 [.ref 64, .int a] [] v1 (vr w2 v2)) : v2.1 64 0 = w1 ∧ (w1 = 0 → v2.2.1 93 0 = w2.toInt64) := by
  rw [ct143] at e1
  rw [ct202] at e2
  unfold w_word at e1
  unfold r_word at e2
  obtain ⟨e3, e4⟩ := vr_inj e2
  by_cases h : xB a = 0
  · rw [xB_w, if_pos h] at e1
    obtain ⟨rfl, rfl⟩ := vr_inj e1
    rw [if_neg (fun z => (xB_out a).mp z h)] at e4
    exact ⟨by rw [e4, s64], fun z => absurd z i10⟩
  · rw [xB_w, if_neg h] at e1
    obtain ⟨rfl, rfl⟩ := vr_inj e1
    rw [if_pos ((xB_out a).mpr h)] at e3 e4
    rw [s64, if_pos (by decide), vm_si1, if_neg (by omega)] at e3
    obtain ⟨n, n1, rfl⟩ := xB_n h
    refine ⟨by rw [e4, s64], fun _ => ?_⟩
    rw [e3, e4]
    show (vm_sl v 93 (0 : Int32).toNatClampNeg _).2.1 93 (0 : Int32).toNatClampNeg = _
    rw [vm_sl2]
    refine congrArg Int32.toInt64 ?_
    unfold c_word
    rw [xB_w, if_neg h, nn_nat (by omega)]
    exact hM.2.2 n n1
end DN
