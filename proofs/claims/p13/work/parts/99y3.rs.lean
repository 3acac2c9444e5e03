/-! THE SMALL RELATION: numbers of blocks and lengths are the same on both sides -/
section RSA
variable {xs : List Int32} {H H1 : am_H} {v v1 w : vm_V} {x : vm_Y}
def fs_eq (v w : vm_V) : Prop := w.1 3 3 = v.1 3 3 ∧ w.1 7 3 = v.1 7 3 ∧ (∀ k : Nat, k < 2 → w.1 65 k = v.1 65 k) ∧ (∀ k : Nat, k < 6 → w.1 6 k = v.1 6 k) ∧ (∀ k : Nat, k < 6 → w.1 10 k = v.1 10 k) ∧ ∀ k : Nat, k < 12 → w.1 66 k = v.1 66 k
theorem fs_rf (v : vm_V) : fs_eq v v := ⟨rfl, rfl, fun _ _ => rfl, fun _ _ => rfl, fun _ _ => rfl, fun _ _ => rfl⟩
theorem fs_tr {u : vm_V} (h1 : fs_eq u v) (h2 : fs_eq v w) : fs_eq u w := ⟨h2.1.trans h1.1, h2.2.1.trans h1.2.1, fun k hk => (h2.2.2.1 k hk).trans (h1.2.2.1 k hk), fun k hk => (h2.2.2.2.1 k hk).trans (h1.2.2.2.1 k hk), fun k hk => (h2.2.2.2.2.1 k hk).trans (h1.2.2.2.2.1 k hk), fun k hk => (h2.2.2.2.2.2 k hk).trans (h1.2.2.2.2.2 k hk)⟩
def fs_ms (ms : List Nat) : Bool := !(ty_in 3 ms) && (!(ty_in 7 ms) && (!(ty_in 65 ms) && (!(ty_in 6 ms) && (!(ty_in 10 ms) && !(ty_in 66 ms)))))
theorem gh_fs (hI : lw_I xs H) (hw : vw v H) (hw1 : vw v1 H1) {ms : List Nat} (hu : ty_un ms H H1) (hm : fs_ms ms = true) : fs_eq v v1 := by
  simp only [fs_ms, Bool.and_eq_true, Bool.not_eq_true'] at hm
  obtain ⟨m1, m2, m3, m4, m5, m6⟩ := hm
  exact ⟨gh_fr hI hw hw1 hu m1 rfl, gh_fr hI hw hw1 hu m2 rfl, fun k hk => gh_fr hI hw hw1 hu m3 (gh_arr (n := 2) rfl hk), fun k hk => gh_fr hI hw hw1 hu m4 (gh_arr (n := 6) rfl hk), fun k hk => gh_fr hI hw hw1 hu m5 (gh_arr (n := 6) rfl hk), fun k hk => gh_fr hI hw hw1 hu m6 (gh_arr (n := 12) rfl hk)⟩
def Rs (v : vm_V) : Prop := v.1 3 3 = v.1 65 0 ∧ v.1 7 3 = v.1 65 1 ∧ (∀ k : Nat, k < 6 → v.1 6 k = v.1 66 k) ∧ ∀ k : Nat, k < 6 → v.1 10 k = v.1 66 (6 + k)
theorem Rs_fs (h : Rs v) (hf : fs_eq v w) : Rs w := by
  obtain ⟨a, b, c, d⟩ := h
  obtain ⟨f1, f2, f3, f4, f5, f6⟩ := hf
  refine ⟨by rw [f1, f3 0 (by omega), a], by rw [f2, f3 1 (by omega), b], fun k hk => ?_, fun k hk => ?_⟩
  · rw [f4 k hk, f6 k (by omega), c k hk]
  · rw [f5 k hk, f6 (6 + k) (by omega), d k hk]
/-- an int field is written -/
theorem gh_put (hI : lw_I xs H) (hw : vw v H) {p k tg len : Nat} {ss : List ty_V} {lo hi : Int} {z : Int32} (hp : tc_g[p]? = some (tg, len, ss)) (ht : tg < 32) (ho : vm_o tg k = 0) (hk : ss[k]? = some (0, lo, hi)) (h1 : lo ≤ z.toInt) (h2 : z.toInt ≤ hi) (hp0 : 2 ≤ p ∧ p < 94) : ∃ H1 : am_H, lw_I xs H1 ∧ vw (vm_si v p k z) H1 ∧ ty_un [p] H H1 := by
  obtain ⟨⟨tg', fs⟩, e1, e2⟩ := hI.1 p _ hp
  have hq := ty_lt_one ht
  have e3 := e2
  rw [ty_cok_obj hq.1 hq.2] at e3
  have e4 : tg' = tg := e3.1
  subst e4
  refine ⟨H.set p (tg', fs.set k (.int z)), ⟨ty_gok_set hI.1 (fun s hs => ?_), ?_, ?_, fun q q1 q2 => ?_⟩, vw_set hw e1 ho (by omega) (by omega), fun q hq' y hy => ?_⟩
  · rw [hp] at hs
    cases hs
    exact ty_cok_ost ht e2 hk ⟨z, rfl, h1, h2⟩
  · rw [List.getElem?_set_ne (by omega)]
    exact hI.2.1
  · rw [List.length_set]
    exact hI.2.2.1
  · rw [List.length_set] at q2
    obtain ⟨X, hX⟩ := hI.2.2.2 q q1 q2
    exact ⟨X, by rw [List.getElem?_set_ne (by omega)]; exact hX⟩
  · rw [List.getElem?_set_ne (fun q' => hq' (by rw [q']; exact List.mem_singleton.mpr rfl))]
    exact hy
/-- the numbers of blocks -/
theorem Rs_cnt (hI : lw_I xs H) (hw : vw v H) (hR : Rs v) : (∃ c : Nat, c ≤ 6 ∧ v.1 3 3 = Int32.ofNat c ∧ v.1 65 0 = Int32.ofNat c) ∧ ∃ c : Nat, c ≤ 6 ∧ v.1 7 3 = Int32.ofNat c ∧ v.1 65 1 = Int32.ofNat c := by
  have b0 := gh_bd hI hw (p := 65) (n := 2) (k := 0) (lo := 0) (hi := 6) rfl (by omega)
  have b1 := gh_bd hI hw (p := 65) (n := 2) (k := 1) (lo := 0) (hi := 6) rfl (by omega)
  obtain ⟨c, c1, c2, c3⟩ := nn_of b0.1
  obtain ⟨d, d1, d2, d3⟩ := nn_of b1.1
  exact ⟨⟨c, by omega, by rw [hR.1]; exact c1, c1⟩, ⟨d, by omega, by rw [hR.2.1]; exact d1, d1⟩⟩
theorem gh_05 {j : Nat} (h : j ≤ 5) : ty_vok (0, 0, 5) (.int (Int32.ofNat j)) := ⟨_, rfl, by rw [Int32.toInt_ofNat_of_lt (by omega)]; show (0 : Int) ≤ _; omega, by rw [Int32.toInt_ofNat_of_lt (by omega)]; show _ ≤ (5 : Int); omega⟩
/-- pass's loop, the class's -/
theorem ps_loop {a n : Int32} : ∀ (k j : Nat), n.toInt ≤ (j : Int) + k → j + k < 1000 → ∀ (v : vm_V) (H : am_H), lw_I xs H → vw v H → ∀ y : vm_Y, vE 42 45 [.ref 2, .int a, .int n, .int (Int32.ofNat j)] [] v y → ∃ (w0 : Int32) (v0 : vm_V), y = vr w0 v0 ∧ fs_eq v v0 := by
  have fin : ∀ (j : Nat) (v : vm_V) (H : am_H), lw_I xs H → vw v H → ∀ y : vm_Y, vE 42 119 [.ref 2, .int a, .int n, .int (Int32.ofNat j)] [] v y → ∃ (w0 : Int32) (v0 : vm_V), y = vr w0 v0 ∧ fs_eq v v0 := by
    intro j v H hI hw y e
    simp only [q42_119, q42_120, q42_123, q42_124, q42_127, Nat.reduceAdd] at e
    obtain ⟨y1, a1, b1⟩ := e
    obtain ⟨w1, v1, H1, rfl, g1, g2, g3⟩ := gh_r (C := tc_66) (tm_ok _ tm_m66) hI hw rfl (by decide) rfl rfl rfl a1 (And.intro (fun _ => rfl) (And.intro (fun _ => rfl) (And.intro (fun h => absurd h (by decide)) (And.intro (fun h => absurd h (by decide)) (And.intro (fun h => absurd h (by decide)) (And.intro (fun h => absurd h (by decide)) trivial))))))
    simp only [vB_r, Nat.reduceAdd, q42_130] at b1
    exact ⟨w1, v1, b1, gh_fs hI hw g2 g3 rfl⟩
  intro k
  induction k with
  | zero =>
    intro j h1 h2 v H hI hw y e
    rw [q42_45] at e
    simp only [q42_46, q42_47] at e
    have hn : n ≤ Int32.ofNat j := Int32.le_iff_toInt_le.mpr (by rw [Int32.toInt_ofNat_of_lt (by omega)]; omega)
    rw [if_pos hn] at e
    exact fin j v H hI hw y e
  | succ k ih =>
    intro j h1 h2 v H hI hw y e
    rw [q42_45] at e
    simp only [q42_46, q42_47] at e
    by_cases hn : n ≤ Int32.ofNat j
    · rw [if_pos hn] at e
      exact fin j v H hI hw y e
    · rw [if_neg hn] at e
      have nx : ∀ (v1 : vm_V) (H1 : am_H), lw_I xs H1 → vw v1 H1 → fs_eq v v1 → vE 42 113 [.ref 2, .int a, .int n, .int (Int32.ofNat j)] [] v1 y → ∃ (w0 : Int32) (v0 : vm_V), y = vr w0 v0 ∧ fs_eq v v0 := by
        intro v1 H1 g1 g2 g3 e
        simp only [q42_113, q42_116, nn_s] at e
        obtain ⟨w0, v0, r1, r2⟩ := ih (j + 1) (by omega) (by omega) v1 H1 g1 g2 y e
        exact ⟨w0, v0, r1, fs_tr g3 r2⟩
      simp only [q42_50, q42_51] at e
      by_cases h0 : a = 0
      · rw [if_pos h0] at e
        simp only [q42_54, q42_55, q42_58, q42_59, q42_62, q42_63, q42_66, q42_67, Nat.reduceAdd] at e
        obtain ⟨y1, a1, b1⟩ := e
        obtain ⟨v1, H1, rfl, g1, g2, g3⟩ := gh_v (C := tc_38) (tm_ok _ tm_m38) hI hw rfl (by decide) rfl rfl rfl a1 (And.intro (fun _ => rfl) (And.intro (fun _ => rfl) (And.intro (fun _ => rfl) (And.intro (fun _ => gh_i _) (And.intro (fun h => absurd h (by decide)) (And.intro (fun h => absurd h (by decide)) trivial))))))
        simp only [vB_d, Nat.reduceAdd, q42_70] at b1
        exact nx v1 H1 g1 g2 (gh_fs hI hw g2 g3 rfl) b1
      · rw [if_neg h0] at e
        simp only [q42_73, q42_74, q42_75] at e
        by_cases h1' : a = 1
        · rw [if_pos h1'] at e
          simp only [q42_78, q42_79, q42_82, q42_83, q42_86, q42_87, q42_90, q42_91, Nat.reduceAdd] at e
          obtain ⟨y1, a1, b1⟩ := e
          obtain ⟨v1, H1, rfl, g1, g2, g3⟩ := gh_v (C := tc_48) (tm_ok _ tm_m48) hI hw rfl (by decide) rfl rfl rfl a1 (And.intro (fun _ => rfl) (And.intro (fun _ => rfl) (And.intro (fun _ => rfl) (And.intro (fun _ => gh_i _) (And.intro (fun h => absurd h (by decide)) (And.intro (fun h => absurd h (by decide)) (And.intro (fun h => absurd h (by decide)) (And.intro (fun h => absurd h (by decide)) trivial))))))))
          simp only [vB_d, Nat.reduceAdd, q42_94] at b1
          exact nx v1 H1 g1 g2 (gh_fs hI hw g2 g3 rfl) b1
        · rw [if_neg h1'] at e
          simp only [q42_97, q42_98, q42_101, q42_102, q42_105, q42_106, q42_109, q42_110, Nat.reduceAdd] at e
          obtain ⟨y1, a1, b1⟩ := e
          obtain ⟨v1, H1, rfl, g1, g2, g3⟩ := gh_v (C := tc_57) (tm_ok _ tm_m57) hI hw rfl (by decide) rfl rfl rfl a1 (And.intro (fun _ => rfl) (And.intro (fun _ => rfl) (And.intro (fun _ => rfl) (And.intro (fun _ => gh_i _) (And.intro (fun h => absurd h (by decide)) (And.intro (fun h => absurd h (by decide)) (And.intro (fun h => absurd h (by decide)) trivial)))))))
          simp only [vB_d, Nat.reduceAdd] at b1
          exact nx v1 H1 g1 g2 (gh_fs hI hw g2 g3 rfl) b1
end RSA
