/-! THE LAW BY VIEWS: it answers 1 -/
section FIN
theorem fi_len {xs : List Int32} {H : am_H} {v : vm_V} (hI : lw_I xs H) (hw : vw v H) : v.2.2.2 0 = xs.length := by
  have := (hw.2 0 32 _ hI.2.1).1 (by decide)
  rw [← this, List.length_map]
theorem fi_sc {xs : List Int32} {H H1 : am_H} {v v1 : vm_V} (hI : lw_I xs H) (hw : vw v H) (hI1 : lw_I xs H1) (hw1 : vw v1 H1) {i k : Nat} (hi : i + 7 ≤ xs.length) (hx : xs.length ≤ 3584) (hk : k < 7) : v1.1 0 (Int32.ofNat i + Int32.ofNat k).toNatClampNeg = v.1 0 (Int32.ofNat i + Int32.ofNat k).toNatClampNeg := by
  rw [← Int32.ofNat_add, nn_nat (by omega), gh_sc hI hw (by omega), gh_sc hI1 hw1 (by omega)]

theorem fi_ite {c : Prop} [Decidable c] {a b : Prop} (h : if c then a else b) : a ∨ b := by
  split at h
  · exact Or.inl h
  · exact Or.inr h
theorem lg_same (z : Int64) : lg_cmp z z = 0 := by
  unfold lg_cmp
  rw [if_neg (Int64.lt_irrefl), if_pos rfl]

theorem fi_go {xs : List Int32} (hx : xs.length ≤ 3584) : ∀ (m i : Nat), xs.length ≤ i + 7 * m + 6 → i ≤ xs.length + 6 → ∀ (v : vm_V) (H : am_H) (l5 l6 : Value) (x : vm_Y), lw_I xs H → vw v H → Rk v → vE 0 23 [.ref 0, .ref 2, .ref 64, .ref 93, .int (Int32.ofNat i), l5, l6] [] v x → x.1 = .inl (some (.int 1)) := by
  have hd : ∀ (i : Nat) (v : vm_V) (H : am_H) (l5 l6 : Value) (x : vm_Y), i ≤ xs.length + 6 → lw_I xs H → vw v H → vE 0 23 [.ref 0, .ref 2, .ref 64, .ref 93, .int (Int32.ofNat i), l5, l6] [] v x → if i + 7 ≤ xs.length then vE 0 33 [.ref 0, .ref 2, .ref 64, .ref 93, .int (Int32.ofNat i), l5, l6] [] v x else x = vr 1 v := by
    intro i v H l5 l6 x hi hI hw e
    rw [q0_23] at e
    simp only [q0_25, q0_26, q0_27, q0_29, q0_30, fi_len hI hw] at e
    have hsub : (Int32.ofNat xs.length - 7).toInt = (xs.length : Int) - 7 := by
      rw [Int32.toInt_sub, Int32.toInt_ofNat_of_lt (by omega), show (7 : Int32).toInt = 7 from rfl]
      exact ty_bm (by omega) (by omega)
    have hq : (Int32.ofNat xs.length - 7 < Int32.ofNat i) ↔ ¬ (i + 7 ≤ xs.length) := by
      rw [Int32.lt_iff_toInt_lt, hsub, Int32.toInt_ofNat_of_lt (by omega)]
      omega
    by_cases q : i + 7 ≤ xs.length
    · rw [if_neg (fun h => hq.mp h q)] at e
      rw [if_pos q]
      exact e
    · rw [if_pos (hq.mpr q)] at e
      rw [if_neg q]
      simpa only [q0_812, q0_813] using e
  intro m
  induction m with
  | zero =>
    intro i h1 h2 v H l5 l6 x hI hw hR e
    have e := hd i v H l5 l6 x h2 hI hw e
    rw [if_neg (by omega)] at e
    rw [e]
    rfl
  | succ m ih =>
    intro i h1 h2 v H l5 l6 x hI hw hR e
    have e := hd i v H l5 l6 x h2 hI hw e
    by_cases hi : i + 7 ≤ xs.length
    · rw [if_pos hi] at e
      have nx : ∀ (v2 : vm_V) (H2 : am_H) (a b : Value), lw_I xs H2 → vw v2 H2 → Rk v2 → vE 0 806 [.ref 0, .ref 2, .ref 64, .ref 93, .int (Int32.ofNat i), a, b] [] v2 x → x.1 = .inl (some (.int 1)) := by
        intro v2 H2 a b g1 g2 g3 e
        simp only [q0_806, q0_809, show Int32.ofNat i + 7 = Int32.ofNat (i + 7) from by rw [Int32.ofNat_add]; rfl] at e
        exact ih (i + 7) (by omega) (by omega) v2 H2 a b x g1 g2 g3 e
      rw [q0_33] at e
      simp only [q0_34, q0_36, q0_37, q0_39, q0_40] at e

      rcases fi_ite e with e | e
      · obtain ⟨w1, v1, H1, w2, v2, H2, a1, g1, a2, g2, e⟩ := lf_block hI hw e
        obtain ⟨hR, hK, hM⟩ := hR
        have f33 := gm_fk gm_33 (C := tc_221) (tm_ok _ tm_m221) g1.1 g1.2.1 rfl rfl (by decide) rfl a2 (And.intro (fun _ => rfl) (And.intro (fun _ => gh_i _) (And.intro (fun h => absurd h (by decide)) trivial)))
        have f34 := gm_fk gm_34 (C := tc_221) (tm_ok _ tm_m221) g1.1 g1.2.1 rfl rfl (by decide) rfl a2 (And.intro (fun _ => rfl) (And.intro (fun _ => gh_i _) (And.intro (fun h => absurd h (by decide)) trivial)))
        rw [show v1.1 0 (Int32.ofNat i + 1).toNatClampNeg = v.1 0 (Int32.ofNat i + 1).toNatClampNeg from fi_sc hI hw g1.1 g1.2.1 hi hx (k := 1) (by omega)] at a2
        exact nx v2 H2 _ _ g2.1 g2.2.1 (And.intro (And.intro (And.intro (op_block hI hw hR.1.1 a1 a2).1 (bl_l hI hw hR.1 a1 a2)) (Rd_mk (RA_f (Rd_A hR.2) (fA_tr (gh_fA hI hw g1.2.1 g1.2.2 rfl) (gh_fA g1.1 g1.2.1 g2.2.1 g2.2.2 rfl))) (bk_d hI hw hR a1 a2) (Rd_T hR.2 (fT_tr (gh_fT hI hw g1.2.1 g1.2.2 rfl) (gh_fT g1.1 g1.2.1 g2.2.1 g2.2.2 rfl))))) (And.intro (kd_block g1.1 g1.2.1 (RK_f hK (fun k hk => gh_fr hI hw g1.2.1 g1.2.2 (p := 68) (k := k) rfl (gh_arr (n := 48) rfl hk))) a2) (RM_f hM (gh_fM hI hw g1.2.1 g1.2.2 rfl) (gh_fM g1.1 g1.2.1 g2.2.1 g2.2.2 rfl) (RM_64 hI hw g1.2.1 g1.2.2 rfl).1 (RM_64 hI hw g1.2.1 g1.2.2 rfl).2 f33 f34))) e
      rcases fi_ite e with e | e
      · obtain ⟨w1, v1, H1, w2, v2, H2, a1, g1, a2, g2, e⟩ := lf_code hI hw e
        obtain ⟨hR, hK, hM⟩ := hR
        have f33 := gm_fk gm_33 (C := tc_227) (tm_ok _ tm_m227) g1.1 g1.2.1 rfl rfl (by decide) rfl a2 (And.intro (fun _ => rfl) (And.intro (fun _ => gh_i _) (And.intro (fun _ => gh_i _) (And.intro (fun _ => gh_i _) (And.intro (fun _ => gh_i _) (And.intro (fun _ => gh_i _) (And.intro (fun _ => gh_i _) (And.intro (fun h => absurd h (by decide)) trivial))))))))
        have f34 := gm_fk gm_34 (C := tc_227) (tm_ok _ tm_m227) g1.1 g1.2.1 rfl rfl (by decide) rfl a2 (And.intro (fun _ => rfl) (And.intro (fun _ => gh_i _) (And.intro (fun _ => gh_i _) (And.intro (fun _ => gh_i _) (And.intro (fun _ => gh_i _) (And.intro (fun _ => gh_i _) (And.intro (fun _ => gh_i _) (And.intro (fun h => absurd h (by decide)) trivial))))))))
        rw [show v1.1 0 (Int32.ofNat i + 1).toNatClampNeg = v.1 0 (Int32.ofNat i + 1).toNatClampNeg from fi_sc hI hw g1.1 g1.2.1 hi hx (k := 1) (by omega)] at a2
        rw [show v1.1 0 (Int32.ofNat i + 2).toNatClampNeg = v.1 0 (Int32.ofNat i + 2).toNatClampNeg from fi_sc hI hw g1.1 g1.2.1 hi hx (k := 2) (by omega)] at a2
        rw [show v1.1 0 (Int32.ofNat i + 3).toNatClampNeg = v.1 0 (Int32.ofNat i + 3).toNatClampNeg from fi_sc hI hw g1.1 g1.2.1 hi hx (k := 3) (by omega)] at a2
        rw [show v1.1 0 (Int32.ofNat i + 4).toNatClampNeg = v.1 0 (Int32.ofNat i + 4).toNatClampNeg from fi_sc hI hw g1.1 g1.2.1 hi hx (k := 4) (by omega)] at a2
        rw [show v1.1 0 (Int32.ofNat i + 5).toNatClampNeg = v.1 0 (Int32.ofNat i + 5).toNatClampNeg from fi_sc hI hw g1.1 g1.2.1 hi hx (k := 5) (by omega)] at a2
        rw [show v1.1 0 (Int32.ofNat i + 6).toNatClampNeg = v.1 0 (Int32.ofNat i + 6).toNatClampNeg from fi_sc hI hw g1.1 g1.2.1 hi hx (k := 6) (by omega)] at a2
        exact nx v2 H2 _ _ g2.1 g2.2.1 (And.intro (And.intro (op_code hI hw hR.1 a1 a2).1 (Rd_mk (cd_d hI hw hR a1 a2) (RE_f (Rd_E hR.2) (fE_tr (gh_fE hI hw g1.2.1 g1.2.2 rfl) (gh_fE g1.1 g1.2.1 g2.2.1 g2.2.2 rfl))) (Rd_T hR.2 (fT_tr (gh_fT hI hw g1.2.1 g1.2.2 rfl) (gh_fT g1.1 g1.2.1 g2.2.1 g2.2.2 rfl))))) (And.intro (RK_f (RK_f hK (fun k hk => gh_fr hI hw g1.2.1 g1.2.2 (p := 68) (k := k) rfl (gh_arr (n := 48) rfl hk))) (fun k hk => gh_fr g1.1 g1.2.1 g2.2.1 g2.2.2 (p := 68) (k := k) rfl (gh_arr (n := 48) rfl hk))) (RM_f hM (gh_fM hI hw g1.2.1 g1.2.2 rfl) (gh_fM g1.1 g1.2.1 g2.2.1 g2.2.2 rfl) (RM_64 hI hw g1.2.1 g1.2.2 rfl).1 (RM_64 hI hw g1.2.1 g1.2.2 rfl).2 f33 f34))) e
      rcases fi_ite e with e | e
      · obtain ⟨w1, v1, H1, v2, H2, a1, g1, a2, g2, e⟩ := lf_end hI hw e
        obtain ⟨hR, hK, hM⟩ := hR
        have f33 := gm_fk gm_33 (C := tc_228) (tm_ok _ tm_m228) g1.1 g1.2.1 rfl rfl (by decide) rfl a2 (And.intro (fun _ => rfl) (And.intro (fun _ => gh_i _) (And.intro (fun _ => gh_i _) (And.intro (fun _ => gh_i _) (And.intro (fun _ => gh_i _) (And.intro (fun _ => gh_i _) (And.intro (fun _ => gh_i _) trivial)))))))
        have f34 := gm_fk gm_34 (C := tc_228) (tm_ok _ tm_m228) g1.1 g1.2.1 rfl rfl (by decide) rfl a2 (And.intro (fun _ => rfl) (And.intro (fun _ => gh_i _) (And.intro (fun _ => gh_i _) (And.intro (fun _ => gh_i _) (And.intro (fun _ => gh_i _) (And.intro (fun _ => gh_i _) (And.intro (fun _ => gh_i _) trivial)))))))
        rw [show v1.1 0 (Int32.ofNat i + 1).toNatClampNeg = v.1 0 (Int32.ofNat i + 1).toNatClampNeg from fi_sc hI hw g1.1 g1.2.1 hi hx (k := 1) (by omega)] at a2
        rw [show v1.1 0 (Int32.ofNat i + 2).toNatClampNeg = v.1 0 (Int32.ofNat i + 2).toNatClampNeg from fi_sc hI hw g1.1 g1.2.1 hi hx (k := 2) (by omega)] at a2
        rw [show v1.1 0 (Int32.ofNat i + 3).toNatClampNeg = v.1 0 (Int32.ofNat i + 3).toNatClampNeg from fi_sc hI hw g1.1 g1.2.1 hi hx (k := 3) (by omega)] at a2
        rw [show v1.1 0 (Int32.ofNat i + 4).toNatClampNeg = v.1 0 (Int32.ofNat i + 4).toNatClampNeg from fi_sc hI hw g1.1 g1.2.1 hi hx (k := 4) (by omega)] at a2
        rw [show v1.1 0 (Int32.ofNat i + 5).toNatClampNeg = v.1 0 (Int32.ofNat i + 5).toNatClampNeg from fi_sc hI hw g1.1 g1.2.1 hi hx (k := 5) (by omega)] at a2
        rw [show v1.1 0 (Int32.ofNat i + 6).toNatClampNeg = v.1 0 (Int32.ofNat i + 6).toNatClampNeg from fi_sc hI hw g1.1 g1.2.1 hi hx (k := 6) (by omega)] at a2
        exact nx v2 H2 _ _ g2.1 g2.2.1 (And.intro (And.intro (And.intro (Rc_fc hR.1.1 (fc_tr (gh_fc hI hw g1.2.1 g1.2.2 rfl) (gh_fc g1.1 g1.2.1 g2.2.1 g2.2.2 rfl))) (Rl_fl hR.1.2 (fl_tr (gh_fl hI hw g1.2.1 g1.2.2 rfl) (gh_fl g1.1 g1.2.1 g2.2.1 g2.2.2 rfl)))) (Rd_mk (RA_f (Rd_A hR.2) (fA_tr (gh_fA hI hw g1.2.1 g1.2.2 rfl) (gh_fA g1.1 g1.2.1 g2.2.1 g2.2.2 rfl))) (en_d hI hw hR (gh_fc hI hw g1.2.1 g1.2.2 rfl) a1 a2) (Rd_T hR.2 (fT_tr (gh_fT hI hw g1.2.1 g1.2.2 rfl) (gh_fT g1.1 g1.2.1 g2.2.1 g2.2.2 rfl))))) (And.intro (kd_end g1.1 g1.2.1 (RK_f hK (fun k hk => gh_fr hI hw g1.2.1 g1.2.2 (p := 68) (k := k) rfl (gh_arr (n := 48) rfl hk))) a2) (RM_f hM (gh_fM hI hw g1.2.1 g1.2.2 rfl) (gh_fM g1.1 g1.2.1 g2.2.1 g2.2.2 rfl) (RM_64 hI hw g1.2.1 g1.2.2 rfl).1 (RM_64 hI hw g1.2.1 g1.2.2 rfl).2 f33 f34))) e
      rcases fi_ite e with e | e
      · obtain ⟨w1, v1, H1, v2, H2, a1, g1, a2, g2, e⟩ := lf_wipe hI hw e
        obtain ⟨hR, hK, hM⟩ := hR
        rw [show v1.1 0 (Int32.ofNat i + 1).toNatClampNeg = v.1 0 (Int32.ofNat i + 1).toNatClampNeg from fi_sc hI hw g1.1 g1.2.1 hi hx (k := 1) (by omega)] at a2
        exact nx v2 H2 _ _ g2.1 g2.2.1 (And.intro (And.intro (And.intro (op_wipe hR.1.1 a1 a2) (Rl_fl hR.1.2 (fl_tr (gh_fl hI hw g1.2.1 g1.2.2 rfl) (gh_fl g1.1 g1.2.1 g2.2.1 g2.2.2 rfl)))) (Rd_mk (RA_f (Rd_A hR.2) (fA_tr (gh_fA hI hw g1.2.1 g1.2.2 rfl) (gh_fA g1.1 g1.2.1 g2.2.1 g2.2.2 rfl))) (RE_f (Rd_E hR.2) (fE_tr (gh_fE hI hw g1.2.1 g1.2.2 rfl) (gh_fE g1.1 g1.2.1 g2.2.1 g2.2.2 rfl))) (Rd_T hR.2 (fT_tr (gh_fT hI hw g1.2.1 g1.2.2 rfl) (gh_fT g1.1 g1.2.1 g2.2.1 g2.2.2 rfl))))) (And.intro (RK_f (RK_f hK (fun k hk => gh_fr hI hw g1.2.1 g1.2.2 (p := 68) (k := k) rfl (gh_arr (n := 48) rfl hk))) (fun k hk => gh_fr g1.1 g1.2.1 g2.2.1 g2.2.2 (p := 68) (k := k) rfl (gh_arr (n := 48) rfl hk))) (RM_f hM (gh_fM hI hw g1.2.1 g1.2.2 rfl) (gh_fM g1.1 g1.2.1 g2.2.1 g2.2.2 rfl) (RM_64 hI hw g1.2.1 g1.2.2 rfl).1 (RM_64 hI hw g1.2.1 g1.2.2 rfl).2 (wp_64 a2).1 (wp_64 a2).2))) e
      rcases fi_ite e with e | e
      · obtain ⟨w1, v1, H1, w2, v2, H2, a1, g1, a2, g2, e⟩ := lf_pass hI hw e
        obtain ⟨hR, hK, hM⟩ := hR
        have f33 := gm_fk gm_33 (C := tc_256) (tm_ok _ tm_m256) g1.1 g1.2.1 rfl rfl (by decide) rfl a2 (And.intro (fun _ => rfl) (And.intro (fun _ => gh_i _) (And.intro (fun h => absurd h (by decide)) (And.intro (fun h => absurd h (by decide)) trivial))))
        have f34 := gm_fk gm_34 (C := tc_256) (tm_ok _ tm_m256) g1.1 g1.2.1 rfl rfl (by decide) rfl a2 (And.intro (fun _ => rfl) (And.intro (fun _ => gh_i _) (And.intro (fun h => absurd h (by decide)) (And.intro (fun h => absurd h (by decide)) trivial))))
        rw [show v1.1 0 (Int32.ofNat i + 1).toNatClampNeg = v.1 0 (Int32.ofNat i + 1).toNatClampNeg from fi_sc hI hw g1.1 g1.2.1 hi hx (k := 1) (by omega)] at a2
        obtain ⟨⟨p1, p2⟩, r2, r3⟩ := ps_d hI hw hR g1.1 g1.2.1 (gh_fr hI hw g1.2.1 g1.2.2 (p := 65) (k := 0) rfl (gh_arr (n := 2) rfl (by omega))) (fun k hk => gh_fr hI hw g1.2.1 g1.2.2 (p := 66) (k := k) rfl (gh_arr (n := 12) rfl hk)) (fun k hk => gh_fr hI hw g1.2.1 g1.2.2 (p := 67) (k := k) rfl (gh_arr (n := 384) rfl hk)) (fun k hk => gh_fr hI hw g1.2.1 g1.2.2 (p := 68) (k := k) rfl (gh_arr (n := 48) rfl hk)) a1 a2
        exact nx v2 H2 _ _ g2.1 g2.2.1 (And.intro (And.intro (And.intro (op_pass hI hw hR.1.1 g1.1 g1.2.1 a1 a2) (ps_l hI hw hR.1 g1.1 g1.2.1 a1 a2)) (Rd_mk p1 p2 (Rd_T hR.2 (fT_tr (gh_fT hI hw g1.2.1 g1.2.2 rfl) (gh_fT g1.1 g1.2.1 g2.2.1 g2.2.2 rfl))))) (And.intro (kd_pass g1.1 g1.2.1 (RK_f hK (fun k hk => gh_fr hI hw g1.2.1 g1.2.2 (p := 68) (k := k) rfl (gh_arr (n := 48) rfl hk))) a2) (RM_f hM (gh_fM hI hw g1.2.1 g1.2.2 rfl) (gh_fM g1.1 g1.2.1 g2.2.1 g2.2.2 rfl) (RM_64 hI hw g1.2.1 g1.2.2 rfl).1 (RM_64 hI hw g1.2.1 g1.2.2 rfl).2 f33 f34))) e
      rcases fi_ite e with e | e
      · obtain ⟨v1, H1, v2, H2, a1, g1, a2, g2, e⟩ := lf_take hI hw e
        obtain ⟨hR, hK, hM⟩ := hR
        have f33 := gm_fk gm_33 (C := tc_231) (tm_ok _ tm_m231) g1.1 g1.2.1 rfl rfl (by decide) rfl a2 (And.intro (fun _ => rfl) trivial)
        have f34 := gm_fk gm_34 (C := tc_231) (tm_ok _ tm_m231) g1.1 g1.2.1 rfl rfl (by decide) rfl a2 (And.intro (fun _ => rfl) trivial)
        exact nx v2 H2 _ _ g2.1 g2.2.1 (And.intro (And.intro (And.intro (op_take hR.1.1 a1 a2) (tk_l hR.1.2 a1 a2)) (Rd_mk (tk_d hR.2 a1 a2).1 (tk_d hR.2 a1 a2).2 (Rd_T hR.2 (fT_tr (gh_fT hI hw g1.2.1 g1.2.2 rfl) (gh_fT g1.1 g1.2.1 g2.2.1 g2.2.2 rfl))))) (And.intro (kd_take (RK_f hK (fun k hk => gh_fr hI hw g1.2.1 g1.2.2 (p := 68) (k := k) rfl (gh_arr (n := 48) rfl hk))) a2) (RM_f hM (gh_fM hI hw g1.2.1 g1.2.2 rfl) (gh_fM g1.1 g1.2.1 g2.2.1 g2.2.2 rfl) (RM_64 hI hw g1.2.1 g1.2.2 rfl).1 (RM_64 hI hw g1.2.1 g1.2.2 rfl).2 f33 f34))) e
      rcases fi_ite e with e | e
      · obtain ⟨w1, v1, H1, w2, v2, H2, a1, g1, a2, g2, e⟩ := lf_instruction hI hw e
        obtain ⟨hR, hK, hM⟩ := hR
        have f33 := gm_fk gm_33 (C := tc_232) (tm_ok _ tm_m232) g1.1 g1.2.1 rfl rfl (by decide) rfl a2 (And.intro (fun _ => rfl) (And.intro (fun _ => gh_i _) (And.intro (fun _ => gh_i _) (And.intro (fun _ => gh_i _) (And.intro (fun _ => gh_i _) trivial)))))
        have f34 := gm_fk gm_34 (C := tc_232) (tm_ok _ tm_m232) g1.1 g1.2.1 rfl rfl (by decide) rfl a2 (And.intro (fun _ => rfl) (And.intro (fun _ => gh_i _) (And.intro (fun _ => gh_i _) (And.intro (fun _ => gh_i _) (And.intro (fun _ => gh_i _) trivial)))))
        exact nx v2 H2 _ _ g2.1 g2.2.1 (And.intro (And.intro (And.intro (Rc_fc hR.1.1 (fc_tr (gh_fc hI hw g1.2.1 g1.2.2 rfl) (gh_fc g1.1 g1.2.1 g2.2.1 g2.2.2 rfl))) (Rl_fl hR.1.2 (fl_tr (gh_fl hI hw g1.2.1 g1.2.2 rfl) (gh_fl g1.1 g1.2.1 g2.2.1 g2.2.2 rfl)))) (Rd_mk (RA_f (Rd_A hR.2) (fA_tr (gh_fA hI hw g1.2.1 g1.2.2 rfl) (gh_fA g1.1 g1.2.1 g2.2.1 g2.2.2 rfl))) (RE_f (Rd_E hR.2) (fE_tr (gh_fE hI hw g1.2.1 g1.2.2 rfl) (gh_fE g1.1 g1.2.1 g2.2.1 g2.2.2 rfl))) (Rd_T hR.2 (fT_tr (gh_fT hI hw g1.2.1 g1.2.2 rfl) (gh_fT g1.1 g1.2.1 g2.2.1 g2.2.2 rfl))))) (And.intro (RK_f (RK_f hK (fun k hk => gh_fr hI hw g1.2.1 g1.2.2 (p := 68) (k := k) rfl (gh_arr (n := 48) rfl hk))) (fun k hk => gh_fr g1.1 g1.2.1 g2.2.1 g2.2.2 (p := 68) (k := k) rfl (gh_arr (n := 48) rfl hk))) (RM_f hM (gh_fM hI hw g1.2.1 g1.2.2 rfl) (gh_fM g1.1 g1.2.1 g2.2.1 g2.2.2 rfl) (RM_64 hI hw g1.2.1 g1.2.2 rfl).1 (RM_64 hI hw g1.2.1 g1.2.2 rfl).2 f33 f34))) e
      rcases fi_ite e with e | e
      · obtain ⟨w1, v1, H1, w2, v2, H2, a1, g1, a2, g2, e⟩ := lf_ending hI hw e
        obtain ⟨hR, hK, hM⟩ := hR
        have f33 := gm_fk gm_33 (C := tc_233) (tm_ok _ tm_m233) g1.1 g1.2.1 rfl rfl (by decide) rfl a2 (And.intro (fun _ => rfl) (And.intro (fun _ => gh_i _) (And.intro (fun _ => gh_i _) (And.intro (fun _ => gh_i _) trivial))))
        have f34 := gm_fk gm_34 (C := tc_233) (tm_ok _ tm_m233) g1.1 g1.2.1 rfl rfl (by decide) rfl a2 (And.intro (fun _ => rfl) (And.intro (fun _ => gh_i _) (And.intro (fun _ => gh_i _) (And.intro (fun _ => gh_i _) trivial))))
        exact nx v2 H2 _ _ g2.1 g2.2.1 (And.intro (And.intro (And.intro (Rc_fc hR.1.1 (fc_tr (gh_fc hI hw g1.2.1 g1.2.2 rfl) (gh_fc g1.1 g1.2.1 g2.2.1 g2.2.2 rfl))) (Rl_fl hR.1.2 (fl_tr (gh_fl hI hw g1.2.1 g1.2.2 rfl) (gh_fl g1.1 g1.2.1 g2.2.1 g2.2.2 rfl)))) (Rd_mk (RA_f (Rd_A hR.2) (fA_tr (gh_fA hI hw g1.2.1 g1.2.2 rfl) (gh_fA g1.1 g1.2.1 g2.2.1 g2.2.2 rfl))) (RE_f (Rd_E hR.2) (fE_tr (gh_fE hI hw g1.2.1 g1.2.2 rfl) (gh_fE g1.1 g1.2.1 g2.2.1 g2.2.2 rfl))) (Rd_T hR.2 (fT_tr (gh_fT hI hw g1.2.1 g1.2.2 rfl) (gh_fT g1.1 g1.2.1 g2.2.1 g2.2.2 rfl))))) (And.intro (RK_f (RK_f hK (fun k hk => gh_fr hI hw g1.2.1 g1.2.2 (p := 68) (k := k) rfl (gh_arr (n := 48) rfl hk))) (fun k hk => gh_fr g1.1 g1.2.1 g2.2.1 g2.2.2 (p := 68) (k := k) rfl (gh_arr (n := 48) rfl hk))) (RM_f hM (gh_fM hI hw g1.2.1 g1.2.2 rfl) (gh_fM g1.1 g1.2.1 g2.2.1 g2.2.2 rfl) (RM_64 hI hw g1.2.1 g1.2.2 rfl).1 (RM_64 hI hw g1.2.1 g1.2.2 rfl).2 f33 f34))) e
      rcases fi_ite e with e | e
      · obtain ⟨w1, v1, H1, w2, v2, H2, a1, g1, a2, g2, e⟩ := lf_check hI hw e
        obtain ⟨hR, hK, hM⟩ := hR
        have f33 := gm_fk gm_33 (C := ck_C) ck_ok g1.1 g1.2.1 rfl rfl (by decide) rfl a2 (And.intro (fun _ => rfl) (And.intro (fun h => absurd h (by decide)) trivial))
        have f34 := gm_fk gm_34 (C := ck_C) ck_ok g1.1 g1.2.1 rfl rfl (by decide) rfl a2 (And.intro (fun _ => rfl) (And.intro (fun h => absurd h (by decide)) trivial))
        exact nx v2 H2 _ _ g2.1 g2.2.1 (And.intro (And.intro (And.intro (Rc_fc hR.1.1 (fc_tr (gh_fc hI hw g1.2.1 g1.2.2 rfl) (gh_fc g1.1 g1.2.1 g2.2.1 g2.2.2 rfl))) (Rl_fl hR.1.2 (fl_tr (gh_fl hI hw g1.2.1 g1.2.2 rfl) (gh_fl g1.1 g1.2.1 g2.2.1 g2.2.2 rfl)))) (Rd_mk (RA_f (Rd_A hR.2) (fA_tr (gh_fA hI hw g1.2.1 g1.2.2 rfl) (gh_fA g1.1 g1.2.1 g2.2.1 g2.2.2 rfl))) (RE_f (Rd_E hR.2) (fE_tr (gh_fE hI hw g1.2.1 g1.2.2 rfl) (gh_fE g1.1 g1.2.1 g2.2.1 g2.2.2 rfl))) (Rd_T hR.2 (fT_tr (gh_fT hI hw g1.2.1 g1.2.2 rfl) (gh_fT g1.1 g1.2.1 g2.2.1 g2.2.2 rfl))))) (And.intro (RK_f (RK_f hK (fun k hk => gh_fr hI hw g1.2.1 g1.2.2 (p := 68) (k := k) rfl (gh_arr (n := 48) rfl hk))) (fun k hk => gh_fr g1.1 g1.2.1 g2.2.1 g2.2.2 (p := 68) (k := k) rfl (gh_arr (n := 48) rfl hk))) (RM_f hM (gh_fM hI hw g1.2.1 g1.2.2 rfl) (gh_fM g1.1 g1.2.1 g2.2.1 g2.2.2 rfl) (RM_64 hI hw g1.2.1 g1.2.2 rfl).1 (RM_64 hI hw g1.2.1 g1.2.2 rfl).2 f33 f34))) e
      rcases fi_ite e with e | e
      · obtain ⟨w1, v1, H1, w2, v2, H2, a1, g1, a2, g2, e⟩ := lf_refused hI hw e
        obtain ⟨hR, hK, hM⟩ := hR
        have f33 := gm_fk gm_33 (C := tc_272) (tm_ok _ tm_m272) g1.1 g1.2.1 rfl rfl (by decide) rfl a2 (And.intro (fun _ => rfl) (And.intro (fun _ => gh_i _) trivial))
        have f34 := gm_fk gm_34 (C := tc_272) (tm_ok _ tm_m272) g1.1 g1.2.1 rfl rfl (by decide) rfl a2 (And.intro (fun _ => rfl) (And.intro (fun _ => gh_i _) trivial))
        exact nx v2 H2 _ _ g2.1 g2.2.1 (And.intro (And.intro (And.intro (Rc_fc hR.1.1 (fc_tr (gh_fc hI hw g1.2.1 g1.2.2 rfl) (gh_fc g1.1 g1.2.1 g2.2.1 g2.2.2 rfl))) (Rl_fl hR.1.2 (fl_tr (gh_fl hI hw g1.2.1 g1.2.2 rfl) (gh_fl g1.1 g1.2.1 g2.2.1 g2.2.2 rfl)))) (Rd_mk (RA_f (Rd_A hR.2) (fA_tr (gh_fA hI hw g1.2.1 g1.2.2 rfl) (gh_fA g1.1 g1.2.1 g2.2.1 g2.2.2 rfl))) (RE_f (Rd_E hR.2) (fE_tr (gh_fE hI hw g1.2.1 g1.2.2 rfl) (gh_fE g1.1 g1.2.1 g2.2.1 g2.2.2 rfl))) (Rd_T hR.2 (fT_tr (gh_fT hI hw g1.2.1 g1.2.2 rfl) (gh_fT g1.1 g1.2.1 g2.2.1 g2.2.2 rfl))))) (And.intro (RK_f (RK_f hK (fun k hk => gh_fr hI hw g1.2.1 g1.2.2 (p := 68) (k := k) rfl (gh_arr (n := 48) rfl hk))) (fun k hk => gh_fr g1.1 g1.2.1 g2.2.1 g2.2.2 (p := 68) (k := k) rfl (gh_arr (n := 48) rfl hk))) (RM_f hM (gh_fM hI hw g1.2.1 g1.2.2 rfl) (gh_fM g1.1 g1.2.1 g2.2.1 g2.2.2 rfl) (RM_64 hI hw g1.2.1 g1.2.2 rfl).1 (RM_64 hI hw g1.2.1 g1.2.2 rfl).2 f33 f34))) e
      rcases fi_ite e with e | e
      · obtain ⟨w1, v1, H1, w2, v2, H2, a1, g1, a2, g2, e⟩ := lf_same hI hw e
        obtain ⟨hR, hK, hM⟩ := hR
        have f33 := gm_fk gm_33 (C := tc_543) (tm_ok _ tm_m543) g1.1 g1.2.1 rfl rfl (by decide) rfl a2 (And.intro (fun _ => rfl) (And.intro (fun _ => gh_i _) (And.intro (fun _ => gh_i _) (And.intro (fun _ => gh_i _) (And.intro (fun _ => gh_i _) trivial)))))
        have f34 := gm_fk gm_34 (C := tc_543) (tm_ok _ tm_m543) g1.1 g1.2.1 rfl rfl (by decide) rfl a2 (And.intro (fun _ => rfl) (And.intro (fun _ => gh_i _) (And.intro (fun _ => gh_i _) (And.intro (fun _ => gh_i _) (And.intro (fun _ => gh_i _) trivial)))))
        rw [show v1.1 0 (Int32.ofNat i + 1).toNatClampNeg = v.1 0 (Int32.ofNat i + 1).toNatClampNeg from fi_sc hI hw g1.1 g1.2.1 hi hx (k := 1) (by omega)] at a2
        rw [show v1.1 0 (Int32.ofNat i + 2).toNatClampNeg = v.1 0 (Int32.ofNat i + 2).toNatClampNeg from fi_sc hI hw g1.1 g1.2.1 hi hx (k := 2) (by omega)] at a2
        rw [show v1.1 0 (Int32.ofNat i + 3).toNatClampNeg = v.1 0 (Int32.ofNat i + 3).toNatClampNeg from fi_sc hI hw g1.1 g1.2.1 hi hx (k := 3) (by omega)] at a2
        rw [show v1.1 0 (Int32.ofNat i + 4).toNatClampNeg = v.1 0 (Int32.ofNat i + 4).toNatClampNeg from fi_sc hI hw g1.1 g1.2.1 hi hx (k := 4) (by omega)] at a2
        obtain ⟨r2, r3, r4⟩ := op_same hI hw hR hK (rng_f hI hw g1.2.1 g1.2.2 rfl rfl rfl rfl) a1 a2
        simp only [q0_610, q0_611, q0_614, q0_616, ct146, exists_eq_left, vB_r, Nat.reduceAdd] at e
        rw [if_pos (show r_thrown v2 = w1 from r2)] at e
        simp only [q0_621, q0_623] at e
        by_cases q : w1 = 0
        · rw [if_pos q] at e
          simp only [q0_626, q0_627, q0_628, q0_629, q0_631, n0] at e
          rcases r4 with r4 | r4
          · rw [if_pos r4] at e
            simp only [q0_638, q0_639, q0_640] at e
            rw [show v2.2.1 93 0 = 0 from (r3 q).trans ((congrArg Int32.toInt64 r4).trans (by decide)), if_pos (lg_same _)] at e
            simp only [q0_645] at e
            exact nx v2 H2 _ _ g2.1 g2.2.1 (And.intro (And.intro (And.intro (Rc_fc hR.1.1 (fc_tr (gh_fc hI hw g1.2.1 g1.2.2 rfl) (gh_fc g1.1 g1.2.1 g2.2.1 g2.2.2 rfl))) (Rl_fl hR.1.2 (fl_tr (gh_fl hI hw g1.2.1 g1.2.2 rfl) (gh_fl g1.1 g1.2.1 g2.2.1 g2.2.2 rfl)))) (Rd_mk (RA_f (Rd_A hR.2) (fA_tr (gh_fA hI hw g1.2.1 g1.2.2 rfl) (gh_fA g1.1 g1.2.1 g2.2.1 g2.2.2 rfl))) (RE_f (Rd_E hR.2) (fE_tr (gh_fE hI hw g1.2.1 g1.2.2 rfl) (gh_fE g1.1 g1.2.1 g2.2.1 g2.2.2 rfl))) (Rd_T hR.2 (fT_tr (gh_fT hI hw g1.2.1 g1.2.2 rfl) (gh_fT g1.1 g1.2.1 g2.2.1 g2.2.2 rfl))))) (And.intro (RK_f (RK_f hK (fun k hk => gh_fr hI hw g1.2.1 g1.2.2 (p := 68) (k := k) rfl (gh_arr (n := 48) rfl hk))) (fun k hk => gh_fr g1.1 g1.2.1 g2.2.1 g2.2.2 (p := 68) (k := k) rfl (gh_arr (n := 48) rfl hk))) (RM_f hM (gh_fM hI hw g1.2.1 g1.2.2 rfl) (gh_fM g1.1 g1.2.1 g2.2.1 g2.2.2 rfl) (RM_64 hI hw g1.2.1 g1.2.2 rfl).1 (RM_64 hI hw g1.2.1 g1.2.2 rfl).2 f33 f34))) e
          · rw [if_neg (fun z => i10 (r4.symm.trans z))] at e
            simp only [q0_634, q0_635, q0_639, q0_640] at e
            rw [show v2.2.1 93 0 = 1 from (r3 q).trans ((congrArg Int32.toInt64 r4).trans (by decide)), if_pos (lg_same _)] at e
            simp only [q0_645] at e
            exact nx v2 H2 _ _ g2.1 g2.2.1 (And.intro (And.intro (And.intro (Rc_fc hR.1.1 (fc_tr (gh_fc hI hw g1.2.1 g1.2.2 rfl) (gh_fc g1.1 g1.2.1 g2.2.1 g2.2.2 rfl))) (Rl_fl hR.1.2 (fl_tr (gh_fl hI hw g1.2.1 g1.2.2 rfl) (gh_fl g1.1 g1.2.1 g2.2.1 g2.2.2 rfl)))) (Rd_mk (RA_f (Rd_A hR.2) (fA_tr (gh_fA hI hw g1.2.1 g1.2.2 rfl) (gh_fA g1.1 g1.2.1 g2.2.1 g2.2.2 rfl))) (RE_f (Rd_E hR.2) (fE_tr (gh_fE hI hw g1.2.1 g1.2.2 rfl) (gh_fE g1.1 g1.2.1 g2.2.1 g2.2.2 rfl))) (Rd_T hR.2 (fT_tr (gh_fT hI hw g1.2.1 g1.2.2 rfl) (gh_fT g1.1 g1.2.1 g2.2.1 g2.2.2 rfl))))) (And.intro (RK_f (RK_f hK (fun k hk => gh_fr hI hw g1.2.1 g1.2.2 (p := 68) (k := k) rfl (gh_arr (n := 48) rfl hk))) (fun k hk => gh_fr g1.1 g1.2.1 g2.2.1 g2.2.2 (p := 68) (k := k) rfl (gh_arr (n := 48) rfl hk))) (RM_f hM (gh_fM hI hw g1.2.1 g1.2.2 rfl) (gh_fM g1.1 g1.2.1 g2.2.1 g2.2.2 rfl) (RM_64 hI hw g1.2.1 g1.2.2 rfl).1 (RM_64 hI hw g1.2.1 g1.2.2 rfl).2 f33 f34))) e
        · rw [if_neg q] at e
          simp only [q0_645] at e
          exact nx v2 H2 _ _ g2.1 g2.2.1 (And.intro (And.intro (And.intro (Rc_fc hR.1.1 (fc_tr (gh_fc hI hw g1.2.1 g1.2.2 rfl) (gh_fc g1.1 g1.2.1 g2.2.1 g2.2.2 rfl))) (Rl_fl hR.1.2 (fl_tr (gh_fl hI hw g1.2.1 g1.2.2 rfl) (gh_fl g1.1 g1.2.1 g2.2.1 g2.2.2 rfl)))) (Rd_mk (RA_f (Rd_A hR.2) (fA_tr (gh_fA hI hw g1.2.1 g1.2.2 rfl) (gh_fA g1.1 g1.2.1 g2.2.1 g2.2.2 rfl))) (RE_f (Rd_E hR.2) (fE_tr (gh_fE hI hw g1.2.1 g1.2.2 rfl) (gh_fE g1.1 g1.2.1 g2.2.1 g2.2.2 rfl))) (Rd_T hR.2 (fT_tr (gh_fT hI hw g1.2.1 g1.2.2 rfl) (gh_fT g1.1 g1.2.1 g2.2.1 g2.2.2 rfl))))) (And.intro (RK_f (RK_f hK (fun k hk => gh_fr hI hw g1.2.1 g1.2.2 (p := 68) (k := k) rfl (gh_arr (n := 48) rfl hk))) (fun k hk => gh_fr g1.1 g1.2.1 g2.2.1 g2.2.2 (p := 68) (k := k) rfl (gh_arr (n := 48) rfl hk))) (RM_f hM (gh_fM hI hw g1.2.1 g1.2.2 rfl) (gh_fM g1.1 g1.2.1 g2.2.1 g2.2.2 rfl) (RM_64 hI hw g1.2.1 g1.2.2 rfl).1 (RM_64 hI hw g1.2.1 g1.2.2 rfl).2 f33 f34))) e
      rcases fi_ite e with e | e
      · obtain ⟨w1, v1, H1, w2, v2, H2, a1, g1, a2, g2, e⟩ := lf_effects hI hw e
        obtain ⟨hR, hK, hM⟩ := hR
        have f33 := gm_fk gm_33 (C := tc_544) (tm_ok _ tm_m544) g1.1 g1.2.1 rfl rfl (by decide) rfl a2 (And.intro (fun _ => rfl) (And.intro (fun _ => gh_i _) (And.intro (fun _ => gh_i _) trivial)))
        have f34 := gm_fk gm_34 (C := tc_544) (tm_ok _ tm_m544) g1.1 g1.2.1 rfl rfl (by decide) rfl a2 (And.intro (fun _ => rfl) (And.intro (fun _ => gh_i _) (And.intro (fun _ => gh_i _) trivial)))
        exact nx v2 H2 _ _ g2.1 g2.2.1 (And.intro (And.intro (And.intro (Rc_fc hR.1.1 (fc_tr (gh_fc hI hw g1.2.1 g1.2.2 rfl) (gh_fc g1.1 g1.2.1 g2.2.1 g2.2.2 rfl))) (Rl_fl hR.1.2 (fl_tr (gh_fl hI hw g1.2.1 g1.2.2 rfl) (gh_fl g1.1 g1.2.1 g2.2.1 g2.2.2 rfl)))) (Rd_mk (RA_f (Rd_A hR.2) (fA_tr (gh_fA hI hw g1.2.1 g1.2.2 rfl) (gh_fA g1.1 g1.2.1 g2.2.1 g2.2.2 rfl))) (RE_f (Rd_E hR.2) (fE_tr (gh_fE hI hw g1.2.1 g1.2.2 rfl) (gh_fE g1.1 g1.2.1 g2.2.1 g2.2.2 rfl))) (Rd_T hR.2 (fT_tr (gh_fT hI hw g1.2.1 g1.2.2 rfl) (gh_fT g1.1 g1.2.1 g2.2.1 g2.2.2 rfl))))) (And.intro (RK_f (RK_f hK (fun k hk => gh_fr hI hw g1.2.1 g1.2.2 (p := 68) (k := k) rfl (gh_arr (n := 48) rfl hk))) (fun k hk => gh_fr g1.1 g1.2.1 g2.2.1 g2.2.2 (p := 68) (k := k) rfl (gh_arr (n := 48) rfl hk))) (RM_f hM (gh_fM hI hw g1.2.1 g1.2.2 rfl) (gh_fM g1.1 g1.2.1 g2.2.1 g2.2.2 rfl) (RM_64 hI hw g1.2.1 g1.2.2 rfl).1 (RM_64 hI hw g1.2.1 g1.2.2 rfl).2 f33 f34))) e
      rcases fi_ite e with e | e
      · obtain ⟨w1, v1, H1, w2, v2, H2, a1, g1, a2, g2, e⟩ := lf_run hI hw e
        obtain ⟨hR, hK, hM⟩ := hR
        rw [show v1.1 0 (Int32.ofNat i + 1).toNatClampNeg = v.1 0 (Int32.ofNat i + 1).toNatClampNeg from fi_sc hI hw g1.1 g1.2.1 hi hx (k := 1) (by omega)] at a2
        rw [show v1.1 0 (Int32.ofNat i + 2).toNatClampNeg = v.1 0 (Int32.ofNat i + 2).toNatClampNeg from fi_sc hI hw g1.1 g1.2.1 hi hx (k := 2) (by omega)] at a2
        rw [show v1.1 0 (Int32.ofNat i + 3).toNatClampNeg = v.1 0 (Int32.ofNat i + 3).toNatClampNeg from fi_sc hI hw g1.1 g1.2.1 hi hx (k := 3) (by omega)] at a2
        rw [show v1.1 0 (Int32.ofNat i + 4).toNatClampNeg = v.1 0 (Int32.ofNat i + 4).toNatClampNeg from fi_sc hI hw g1.1 g1.2.1 hi hx (k := 4) (by omega)] at a2
        obtain ⟨r2, r3, r4⟩ := op_run hI hw hR hK (rng_f hI hw g1.2.1 g1.2.2 rfl rfl rfl rfl) (gh_fr g1.1 g1.2.1 g2.2.1 g2.2.2 (p := 61) (k := 4) rfl rfl) (gh_fr g1.1 g1.2.1 g2.2.1 g2.2.2 (p := 61) (k := 5) rfl rfl) (fun a ha => gh_fr g1.1 g1.2.1 g2.2.1 g2.2.2 (p := 63) (k := a) rfl (gh_arr (n := 8) rfl ha)) a1 a2
        exact nx v2 H2 _ _ g2.1 g2.2.1 (And.intro (And.intro (And.intro (Rc_fc hR.1.1 (fc_tr (gh_fc hI hw g1.2.1 g1.2.2 rfl) (gh_fc g1.1 g1.2.1 g2.2.1 g2.2.2 rfl))) (Rl_fl hR.1.2 (fl_tr (gh_fl hI hw g1.2.1 g1.2.2 rfl) (gh_fl g1.1 g1.2.1 g2.2.1 g2.2.2 rfl)))) (Rd_mk (RA_f (Rd_A hR.2) (fA_tr (gh_fA hI hw g1.2.1 g1.2.2 rfl) (gh_fA g1.1 g1.2.1 g2.2.1 g2.2.2 rfl))) (RE_f (Rd_E hR.2) (fE_tr (gh_fE hI hw g1.2.1 g1.2.2 rfl) (gh_fE g1.1 g1.2.1 g2.2.1 g2.2.2 rfl))) (Rd_T hR.2 (fT_tr (gh_fT hI hw g1.2.1 g1.2.2 rfl) (gh_fT g1.1 g1.2.1 g2.2.1 g2.2.2 rfl))))) (And.intro (RK_f (RK_f hK (fun k hk => gh_fr hI hw g1.2.1 g1.2.2 (p := 68) (k := k) rfl (gh_arr (n := 48) rfl hk))) (fun k hk => gh_fr g1.1 g1.2.1 g2.2.1 g2.2.2 (p := 68) (k := k) rfl (gh_arr (n := 48) rfl hk))) (r4 hM))) e
      rcases fi_ite e with e | e
      · obtain ⟨w1, v1, H1, w2, v2, H2, a1, g1, a2, g2, e⟩ := lf_returned hI hw e
        obtain ⟨hR, hK, hM⟩ := hR
        have f33 := gm_fk gm_33 (C := tc_550) (tm_ok _ tm_m550) g1.1 g1.2.1 rfl rfl (by decide) rfl a2 (And.intro (fun _ => rfl) trivial)
        have f34 := gm_fk gm_34 (C := tc_550) (tm_ok _ tm_m550) g1.1 g1.2.1 rfl rfl (by decide) rfl a2 (And.intro (fun _ => rfl) trivial)
        exact nx v2 H2 _ _ g2.1 g2.2.1 (And.intro (And.intro (And.intro (Rc_fc hR.1.1 (fc_tr (gh_fc hI hw g1.2.1 g1.2.2 rfl) (gh_fc g1.1 g1.2.1 g2.2.1 g2.2.2 rfl))) (Rl_fl hR.1.2 (fl_tr (gh_fl hI hw g1.2.1 g1.2.2 rfl) (gh_fl g1.1 g1.2.1 g2.2.1 g2.2.2 rfl)))) (Rd_mk (RA_f (Rd_A hR.2) (fA_tr (gh_fA hI hw g1.2.1 g1.2.2 rfl) (gh_fA g1.1 g1.2.1 g2.2.1 g2.2.2 rfl))) (RE_f (Rd_E hR.2) (fE_tr (gh_fE hI hw g1.2.1 g1.2.2 rfl) (gh_fE g1.1 g1.2.1 g2.2.1 g2.2.2 rfl))) (Rd_T hR.2 (fT_tr (gh_fT hI hw g1.2.1 g1.2.2 rfl) (gh_fT g1.1 g1.2.1 g2.2.1 g2.2.2 rfl))))) (And.intro (RK_f (RK_f hK (fun k hk => gh_fr hI hw g1.2.1 g1.2.2 (p := 68) (k := k) rfl (gh_arr (n := 48) rfl hk))) (fun k hk => gh_fr g1.1 g1.2.1 g2.2.1 g2.2.2 (p := 68) (k := k) rfl (gh_arr (n := 48) rfl hk))) (RM_f hM (gh_fM hI hw g1.2.1 g1.2.2 rfl) (gh_fM g1.1 g1.2.1 g2.2.1 g2.2.2 rfl) (RM_64 hI hw g1.2.1 g1.2.2 rfl).1 (RM_64 hI hw g1.2.1 g1.2.2 rfl).2 f33 f34))) e
      rcases fi_ite e with e | e
      · obtain ⟨w1, v1, H1, w2, v2, H2, a1, g1, a2, g2, e⟩ := lf_word hI hw e
        obtain ⟨hR, hK, hM⟩ := hR
        have f33 := gm_fk gm_33 (C := tc_551) (tm_ok _ tm_m551) g1.1 g1.2.1 rfl rfl (by decide) rfl a2 (And.intro (fun _ => rfl) (And.intro (fun _ => gh_i _) trivial))
        have f34 := gm_fk gm_34 (C := tc_551) (tm_ok _ tm_m551) g1.1 g1.2.1 rfl rfl (by decide) rfl a2 (And.intro (fun _ => rfl) (And.intro (fun _ => gh_i _) trivial))
        exact nx v2 H2 _ _ g2.1 g2.2.1 (And.intro (And.intro (And.intro (Rc_fc hR.1.1 (fc_tr (gh_fc hI hw g1.2.1 g1.2.2 rfl) (gh_fc g1.1 g1.2.1 g2.2.1 g2.2.2 rfl))) (Rl_fl hR.1.2 (fl_tr (gh_fl hI hw g1.2.1 g1.2.2 rfl) (gh_fl g1.1 g1.2.1 g2.2.1 g2.2.2 rfl)))) (Rd_mk (RA_f (Rd_A hR.2) (fA_tr (gh_fA hI hw g1.2.1 g1.2.2 rfl) (gh_fA g1.1 g1.2.1 g2.2.1 g2.2.2 rfl))) (RE_f (Rd_E hR.2) (fE_tr (gh_fE hI hw g1.2.1 g1.2.2 rfl) (gh_fE g1.1 g1.2.1 g2.2.1 g2.2.2 rfl))) (Rd_T hR.2 (fT_tr (gh_fT hI hw g1.2.1 g1.2.2 rfl) (gh_fT g1.1 g1.2.1 g2.2.1 g2.2.2 rfl))))) (And.intro (RK_f (RK_f hK (fun k hk => gh_fr hI hw g1.2.1 g1.2.2 (p := 68) (k := k) rfl (gh_arr (n := 48) rfl hk))) (fun k hk => gh_fr g1.1 g1.2.1 g2.2.1 g2.2.2 (p := 68) (k := k) rfl (gh_arr (n := 48) rfl hk))) (RM_f hM (gh_fM hI hw g1.2.1 g1.2.2 rfl) (gh_fM g1.1 g1.2.1 g2.2.1 g2.2.2 rfl) (RM_64 hI hw g1.2.1 g1.2.2 rfl).1 (RM_64 hI hw g1.2.1 g1.2.2 rfl).2 f33 f34))) e
      rcases fi_ite e with e | e
      · obtain ⟨w1, v1, H1, w2, v2, H2, a1, g1, a2, g2, e⟩ := lf_steps hI hw e
        obtain ⟨hR, hK, hM⟩ := hR
        have f33 := gm_fk gm_33 (C := tc_552) (tm_ok _ tm_m552) g1.1 g1.2.1 rfl rfl (by decide) rfl a2 (And.intro (fun _ => rfl) trivial)
        have f34 := gm_fk gm_34 (C := tc_552) (tm_ok _ tm_m552) g1.1 g1.2.1 rfl rfl (by decide) rfl a2 (And.intro (fun _ => rfl) trivial)
        exact nx v2 H2 _ _ g2.1 g2.2.1 (And.intro (And.intro (And.intro (Rc_fc hR.1.1 (fc_tr (gh_fc hI hw g1.2.1 g1.2.2 rfl) (gh_fc g1.1 g1.2.1 g2.2.1 g2.2.2 rfl))) (Rl_fl hR.1.2 (fl_tr (gh_fl hI hw g1.2.1 g1.2.2 rfl) (gh_fl g1.1 g1.2.1 g2.2.1 g2.2.2 rfl)))) (Rd_mk (RA_f (Rd_A hR.2) (fA_tr (gh_fA hI hw g1.2.1 g1.2.2 rfl) (gh_fA g1.1 g1.2.1 g2.2.1 g2.2.2 rfl))) (RE_f (Rd_E hR.2) (fE_tr (gh_fE hI hw g1.2.1 g1.2.2 rfl) (gh_fE g1.1 g1.2.1 g2.2.1 g2.2.2 rfl))) (Rd_T hR.2 (fT_tr (gh_fT hI hw g1.2.1 g1.2.2 rfl) (gh_fT g1.1 g1.2.1 g2.2.1 g2.2.2 rfl))))) (And.intro (RK_f (RK_f hK (fun k hk => gh_fr hI hw g1.2.1 g1.2.2 (p := 68) (k := k) rfl (gh_arr (n := 48) rfl hk))) (fun k hk => gh_fr g1.1 g1.2.1 g2.2.1 g2.2.2 (p := 68) (k := k) rfl (gh_arr (n := 48) rfl hk))) (RM_f hM (gh_fM hI hw g1.2.1 g1.2.2 rfl) (gh_fM g1.1 g1.2.1 g2.2.1 g2.2.2 rfl) (RM_64 hI hw g1.2.1 g1.2.2 rfl).1 (RM_64 hI hw g1.2.1 g1.2.2 rfl).2 f33 f34))) e
      exact nx v H _ _ hI hw hR e
    · rw [if_neg hi] at e
      rw [e]
      rfl

/-! the view of the start -/
def fi_c (a tg k : Nat) : Value → Bool
  | .int _ => !(Nat.beq tg 33) && (!(Nat.beq tg 35) && Nat.beq (vm_o tg k) 0)
  | .long _ => Nat.beq tg 33
  | .ref q => !(Nat.beq tg 33) && (if Nat.beq tg 35 then Nat.beq q (a + 1 + k) else Nat.blt 0 (vm_o tg k) && Nat.beq q (a + vm_o tg k))
  | _ => false
def fi_cs (a tg : Nat) : Nat → List Value → Bool
  | _, [] => true
  | k, u :: r => fi_c a tg k u && fi_cs a tg (k + 1) r
def fi_H : Nat → am_H → Bool
  | _, [] => true
  | a, (tg, fs) :: r => fi_cs a tg 0 fs && fi_H (a + 1) r
def fi_v (H : am_H) : vm_V := (fun a k => match H[a]? with
  | some (_, fs) => match fs[k]? with
    | some (.int x) => x
    | _ => 0
  | none => 0, fun a k => match H[a]? with
  | some (_, fs) => match fs[k]? with
    | some (.long x) => x
    | _ => 0
  | none => 0, H.length, fun a => match H[a]? with
  | some (_, fs) => fs.length
  | none => 0)
theorem fi_cs_get {a tg : Nat} : ∀ {fs : List Value} {n : Nat}, fi_cs a tg n fs = true → ∀ (k : Nat) (u : Value), fs[k]? = some u → fi_c a tg (n + k) u = true
  | [], _, _, k, u, h => by simp at h
  | w :: r, n, h, k, u, hk => by
    simp only [fi_cs, Bool.and_eq_true] at h
    cases k with
    | zero =>
      simp only [List.getElem?_cons_zero, Option.some.injEq] at hk
      subst hk
      exact h.1
    | succ k =>
      rw [List.getElem?_cons_succ] at hk
      have := fi_cs_get h.2 k u hk
      rwa [show n + 1 + k = n + (k + 1) by omega] at this
theorem fi_H_get : ∀ {H : am_H} {n : Nat}, fi_H n H = true → ∀ (a tg : Nat) (fs : List Value), H[a]? = some (tg, fs) → fi_cs (n + a) tg 0 fs = true
  | [], _, _, a, tg, fs, h => by simp at h
  | (t, f) :: r, n, h, a, tg, fs, ha => by
    simp only [fi_H, Bool.and_eq_true] at h
    cases a with
    | zero =>
      simp only [List.getElem?_cons_zero, Option.some.injEq, Prod.mk.injEq] at ha
      rw [← ha.1, ← ha.2]
      exact h.1
    | succ a =>
      rw [List.getElem?_cons_succ] at ha
      have := fi_H_get h.2 a tg fs ha
      rwa [show n + 1 + a = n + (a + 1) by omega] at this
theorem fi_vw {H : am_H} (h : fi_H 0 H = true) : vw (fi_v H) H := by
  refine ⟨rfl, fun a tg fs ha => ⟨fun _ => ?_, fun k u hu => ?_⟩⟩
  · show fs.length = match H[a]? with
      | some (_, fs) => fs.length
      | none => 0
    rw [ha]
  · have h1 := fi_cs_get (fi_H_get h a tg fs ha) k u hu
    simp only [Nat.zero_add] at h1
    unfold fi_c at h1
    split at h1
    · rename_i z
      simp only [Bool.and_eq_true, Bool.not_eq_true'] at h1
      rw [vm_val_int (Nat.eq_of_beq_eq_true h1.2.2) (fun q => by rw [q] at h1; cases h1.1) (fun q => by rw [q] at h1; cases h1.2.1)]
      congr 1
      show z = match H[a]? with
        | some (_, fs) => match fs[k]? with
          | some (.int x) => x
          | _ => 0
        | none => 0
      rw [ha]
      dsimp only
      rw [hu]
    · rename_i z
      obtain rfl := Nat.eq_of_beq_eq_true h1
      show Value.long z = Value.long (match H[a]? with
        | some (_, fs) => match fs[k]? with
          | some (.long x) => x
          | _ => 0
        | none => 0)
      rw [ha]
      dsimp only
      rw [hu]
    · rename_i q
      simp only [Bool.and_eq_true, Bool.not_eq_true'] at h1
      obtain ⟨h33, h1⟩ := h1
      unfold vm_val
      rw [if_neg (by rw [h33]; decide)]
      rcases ty_ite h1 with ⟨h35, h1⟩ | ⟨h35, h1⟩
      · rw [if_pos h35, Nat.eq_of_beq_eq_true h1]
      · rw [if_neg (by rw [h35]; decide)]
        simp only [Bool.and_eq_true, Nat.blt_eq] at h1
        obtain ⟨o1, o2⟩ := h1
        have o2 := Nat.eq_of_beq_eq_true o2
        cases ho : vm_o tg k with
        | zero => omega
        | succ n =>
          rw [ho] at o2
          rw [o2]
          rfl
    · cases h1
theorem fi_rest : fi_H 1 lw_rest = true := by decide +kernel
theorem fi_xs : ∀ (xs : List Int32) (n : Nat), fi_cs 0 32 n (xs.map Value.int) = true
  | [], _ => rfl
  | x :: r, n => by
    simp only [List.map_cons, fi_cs, Bool.and_eq_true]
    exact ⟨rfl, fi_xs r (n + 1)⟩
theorem fi_vw0 (xs : List Int32) : vw (fi_v ((32, xs.map Value.int) :: lw_rest)) ((32, xs.map Value.int) :: lw_rest) := fi_vw (by
  simp only [fi_H, Bool.and_eq_true]
  exact ⟨fi_xs xs 0, fi_rest⟩)
theorem rt_0 (xs : List Int32) : Rt (fi_v ((32, xs.map Value.int) :: lw_rest)) := by
  refine ⟨⟨rfl, rfl⟩, fun k hk => ?_, fun k hk => ?_⟩
  · have : k = 0 ∨ k = 1 ∨ k = 2 ∨ k = 3 ∨ k = 4 ∨ k = 5 := by omega
    rcases this with rfl | rfl | rfl | rfl | rfl | rfl <;> rfl
  · have : k = 0 ∨ k = 1 ∨ k = 2 ∨ k = 3 ∨ k = 4 ∨ k = 5 := by omega
    rcases this with rfl | rfl | rfl | rfl | rfl | rfl <;> rfl
def fi_g (a k : Nat) : Int32 := match lw_rest[a]? with
  | some (_, fs) => match fs[k]? with
    | some (.int x) => x
    | _ => 0
  | none => 0
theorem fi_g1 (xs : List Int32) (a k : Nat) : (fi_v ((32, xs.map Value.int) :: lw_rest)).1 (a + 1) k = fi_g a k := by
  unfold fi_v fi_g
  simp only [List.getElem?_cons_succ]
theorem fi_d1 : ∀ k : Nat, k < 192 → fi_g 3 k = fi_g 66 k := by decide +kernel
theorem fi_d2 : ∀ k : Nat, k < 192 → fi_g 7 k = fi_g 66 (192 + k) := by decide +kernel
theorem fi_d3 : ∀ k : Nat, k < 24 → fi_g 4 k = fi_g 67 k := by decide +kernel
theorem fi_d4 : ∀ k : Nat, k < 24 → fi_g 8 k = fi_g 67 (24 + k) := by decide +kernel
theorem fi_d5 : ∀ k : Nat, k < 96 → fi_g 66 (4 * k) = 0 → fi_g 66 (4 * k + 2) = 0 := by decide +kernel
theorem fi_d6 : ∀ k : Nat, k < 10 → fi_g 0 k = if Int32.ofNat k = 4 then 3 else if Int32.ofNat k = 7 then 4 else if Int32.ofNat k = 8 then 2 else 1 := by decide +kernel
theorem rp_0 (xs : List Int32) : Rp (fi_v ((32, xs.map Value.int) :: lw_rest)) := by
  refine ⟨rt_0 xs, fun k hk => ?_, fun k hk => ?_, fun k hk => ?_, fun k hk => ?_, fun k hk => ?_, fun k hk => ?_⟩
  · rw [fi_g1 xs 3 k, fi_g1 xs 66 k]
    exact fi_d1 k hk
  · rw [fi_g1 xs 7 k, fi_g1 xs 66 (192 + k)]
    exact fi_d2 k hk
  · rw [fi_g1 xs 4 k, fi_g1 xs 67 k]
    exact fi_d3 k hk
  · rw [fi_g1 xs 8 k, fi_g1 xs 67 (24 + k)]
    exact fi_d4 k hk
  · rw [fi_g1 xs 66 (4 * k), fi_g1 xs 66 (4 * k + 2)]
    exact fi_d5 k hk
  · rw [fi_g1 xs 0 k]
    exact fi_d6 k hk
theorem fi_k : ∀ b : Nat, b < 12 → fi_g 67 (4 * b) = 0 := by decide +kernel
theorem fi_m1 : fi_g 60 4 = fi_g 63 33 := by decide +kernel
theorem fi_m2 : fi_g 60 5 = fi_g 63 34 := by decide +kernel
theorem fi_m3 : ∀ a : Nat, a < 8 → fi_g 62 a = fi_g 90 a := by decide +kernel
theorem rk_0 (xs : List Int32) : Rk (fi_v ((32, xs.map Value.int) :: lw_rest)) := by
  refine ⟨rp_0 xs, fun b hb => ⟨0, by omega, ?_⟩, ?_, ?_, fun a ha => ?_⟩
  · rw [fi_g1 xs 67 (4 * b)]
    exact fi_k b hb
  · rw [fi_g1 xs 60 4, fi_g1 xs 63 33]
    exact fi_m1
  · rw [fi_g1 xs 60 5, fi_g1 xs 63 34]
    exact fi_m2
  · rw [fi_g1 xs 62 a, fi_g1 xs 90 a]
    exact fi_m3 a ha
/-- every script of at most 3584 ints: the law answers 1 -/
theorem q_go (xs : List Int32) (hx : xs.length ≤ 3584) : ∃ h' : am_H, am_Ev (((11, 452), 0, 0, [.ref 0, .retAddr 0, .retAddr 0, .retAddr 0, .retAddr 0, .retAddr 0, .retAddr 0], []), [(32, xs.map Value.int), lw_tk], []) (.inl (some (.int 1)), h') ∧ h'.length ≤ 606 ∧ am_sz h' ≤ 50000 := by
  obtain ⟨w, h', e1, e2, e3⟩ := lw_loop hx (xs.length / 7) 0 (by omega) (by omega) (11, 452) (.retAddr 0) (.retAddr 0) _ ⟨by decide, by decide⟩ (lw_I0 xs)
  rw [List.length_cons, lw_rest_ok.2] at e3
  have hs := lw_sz e2
  obtain ⟨v', f1, _⟩ := vE_of (v := fi_v ((32, xs.map Value.int) :: lw_rest)) rfl (fi_vw0 xs) e1
  have hw : w = 1 := by
    have := fi_go hx (xs.length / 7) 0 (by omega) (by omega) _ _ _ _ _ (lw_I0 xs) (fi_vw0 xs) (rk_0 xs) f1
    cases this
    rfl
  subst hw
  exact ⟨h', lw_init _ _ e1, by omega, by omega⟩
end FIN

