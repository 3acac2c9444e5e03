/-! run: how it starts; both sides -/
section DM
variable {xs : List Int32} {H H1 H2 : am_H} {v v1 v2 w : vm_V} {x : vm_Y}
theorem lp199a {l1 l2 l3 l4 l6 l7 l8 l9 l10 : Value} : ∀ (k i : Nat) (v : vm_V), i + k = 8 → (vE 199 46 [.ref 64, l1, l2, l3, l4, .int (Int32.ofNat i), l6, l7, l8, l9, l10] [] v x ↔ vE 199 67 [.ref 64, l1, l2, l3, l4, .int (Int32.ofNat 8), l6, l7, l8, l9, l10] [] (v_fl 91 0 k i v) x)
  | 0, i, v, h => by
    obtain rfl : i = 8 := by omega
    rw [q199_46]
    simp only [q199_48, q199_50]
    rw [if_pos (show (8 : Int32) ≤ Int32.ofNat 8 from by decide)]
    rfl
  | k + 1, i, v, h => by
    rw [show v_fl 91 0 (k + 1) i v = v_fl 91 0 k (i + 1) (vm_si v 91 i 0) from rfl, q199_46]
    simp only [q199_48, q199_50]
    rw [if_neg (show ¬ (8 : Int32) ≤ Int32.ofNat i from nl (k := 8) (by omega) (by omega) (by omega))]
    simp only [q199_53, q199_54, q199_57, q199_59, q199_60, q199_61, q199_64, Nat.reduceAdd, nn_s]
    rw [nn_nat (by omega)]
    exact lp199a k (i + 1) _ (by omega)
def v_rz (f s : Int32) (i : Nat) : Int32 := if i = 0 then f else if i = 1 then s else 0
def v_rg (f s : Int32) : Nat → Nat → vm_V → vm_V
  | 0, _, v => v
  | k + 1, i, v => v_rg f s k (i + 1) (vm_si v 90 i (v_rz f s i))
theorem v_rg1 {f s : Int32} {q j : Nat} : ∀ (k i : Nat) (v : vm_V), (v_rg f s k i v).1 q j = if q = 90 ∧ i ≤ j ∧ j < i + k then v_rz f s j else v.1 q j
  | 0, i, v => by
    unfold v_rg
    rw [if_neg (by omega)]
  | k + 1, i, v => by
    unfold v_rg
    rw [v_rg1 k (i + 1), vm_si1b]
    by_cases e : q = 90
    · by_cases h : i + 1 ≤ j ∧ j < i + 1 + k
      · rw [if_pos ⟨e, h⟩, if_pos ⟨e, by omega⟩]
      · rw [if_neg (fun y => h y.2)]
        by_cases h2 : j = i
        · rw [if_pos ⟨e, h2⟩, if_pos ⟨e, by omega⟩, h2]
        · rw [if_neg (fun y => h2 y.2), if_neg (fun y => by omega)]
    · rw [if_neg (fun y => e y.1), if_neg (fun y => e y.1), if_neg (fun y => e y.1)]
theorem v_rg2 {f s : Int32} : ∀ (k i : Nat) (v : vm_V), (v_rg f s k i v).2 = v.2
  | 0, _, _ => rfl
  | k + 1, i, v => by
    unfold v_rg
    rw [v_rg2 k]
    rfl
theorem lp199b {f s : Int32} {l1 l4 l6 l7 l8 l9 l10 : Value} : ∀ (k i : Nat) (v : vm_V), i + k = 6 → (vE 199 70 [.ref 64, l1, .int f, .int s, l4, .int (Int32.ofNat i), l6, l7, l8, l9, l10] [] v x ↔ vE 199 110 [.ref 64, l1, .int f, .int s, l4, .int (Int32.ofNat 6), l6, l7, l8, l9, l10] [] (v_rg f s k i v) x)
  | 0, i, v, h => by
    obtain rfl : i = 6 := by omega
    rw [q199_70]
    simp only [q199_72, q199_74]
    rw [if_pos (show (6 : Int32) ≤ Int32.ofNat 6 from by decide)]
    rfl
  | k + 1, i, v, h => by
    rw [show v_rg f s (k + 1) i v = v_rg f s k (i + 1) (vm_si v 90 i (v_rz f s i)) from rfl, q199_70]
    simp only [q199_72, q199_74]
    rw [if_neg (show ¬ (6 : Int32) ≤ Int32.ofNat i from nl (k := 6) (by omega) (by omega) (by omega))]
    simp only [q199_77, q199_78, q199_81, q199_83, q199_85, Nat.reduceAdd]
    by_cases i0 : i = 0
    · subst i0
      rw [if_pos (show Int32.ofNat 0 = 0 from rfl)]
      simp only [q199_88, q199_89, q199_103, q199_104, q199_107, nn_s]
      rw [nn_nat (by omega)]
      exact lp199b k (0 + 1) _ (by omega)
    · rw [if_neg (show ¬ Int32.ofNat i = 0 from fun z => i0 ((nn_eq (b := 0) (by omega) (by omega)).mp z))]
      simp only [q199_92, q199_94, q199_95]
      by_cases i1 : i = 1
      · subst i1
        rw [if_pos (show Int32.ofNat 1 = 1 from rfl)]
        simp only [q199_98, q199_99, q199_103, q199_104, q199_107, nn_s]
        rw [nn_nat (by omega)]
        exact lp199b k (1 + 1) _ (by omega)
      · rw [if_neg (show ¬ Int32.ofNat i = 1 from fun z => i1 ((nn_eq (b := 1) (by omega) (by omega)).mp z))]
        simp only [q199_102, q199_103, q199_104, q199_107, nn_s]
        rw [nn_nat (by omega), show v_rz f s i = 0 from by unfold v_rz; rw [if_neg i0, if_neg i1]]
        exact lp199b k (i + 1) _ (by omega)
def r_rn0 (v : vm_V) (f s : Int32) : vm_V := vm_si (vm_si (v_rg f s 6 0 (v_fl 91 0 8 0 (vm_si v 64 0 0))) 64 33 0) 64 34 0
theorem s64 {z : Int32} : (vm_si v 64 0 z).1 64 0 = z := by rw [vm_si1b, if_pos ⟨rfl, rfl⟩]
theorem r199a {n f s m : Int32} (ho : ¬ r_outside v n 2 = 0) : vE 199 0 [.ref 64, .int n, .int f, .int s, .int m, .retAddr 0, .retAddr 0, .retAddr 0, .retAddr 0, .retAddr 0, .retAddr 0] [] v x ↔ x = vr 0 (vm_si v 64 0 1) := by
  simp only [q199_0, q199_1, q199_2, q199_3, ct148, exists_eq_left, vB_r, Nat.reduceAdd, q199_6]
  rw [if_neg ho]
  simp only [q199_9, q199_10, q199_31, q199_34, q199_35, q199_38, s64]
  rw [if_neg (by decide)]
  simp only [q199_41, q199_42]
theorem r199b {n f s m : Int32} (ho : r_outside v n 2 = 0) (hm : m < 0 ∨ ¬ m ≤ 500) : vE 199 0 [.ref 64, .int n, .int f, .int s, .int m, .retAddr 0, .retAddr 0, .retAddr 0, .retAddr 0, .retAddr 0, .retAddr 0] [] v x ↔ x = vr 0 (vm_si v 64 0 2) := by
  simp only [q199_0, q199_1, q199_2, q199_3, ct148, exists_eq_left, vB_r, Nat.reduceAdd, q199_6]
  rw [if_pos ho]
  simp only [q199_13, q199_15]
  by_cases h0 : m < 0
  · rw [if_pos h0]
    simp only [q199_26, q199_27, q199_31, q199_34, q199_35, q199_38, s64]
    rw [if_neg (by decide)]
    simp only [q199_41, q199_42]
  · rw [if_neg h0]
    simp only [q199_18, q199_20, q199_23]
    rw [if_neg (by
      rcases hm with h | h
      · exact absurd h h0
      · exact h)]
    simp only [q199_26, q199_27, q199_31, q199_34, q199_35, q199_38, s64]
    rw [if_neg (by decide)]
    simp only [q199_41, q199_42]
theorem r199c {n f s m : Int32} (ho : r_outside v n 2 = 0) (h0 : ¬ m < 0) (h5 : m ≤ 500) : vE 199 0 [.ref 64, .int n, .int f, .int s, .int m, .retAddr 0, .retAddr 0, .retAddr 0, .retAddr 0, .retAddr 0, .retAddr 0] [] v x ↔ vE 199 126 [.ref 64, .int n, .int f, .int s, .int m, .int 0, .int 0, .retAddr 0, .retAddr 0, .retAddr 0, .retAddr 0] [] (r_rn0 v f s) x := by
  simp only [q199_0, q199_1, q199_2, q199_3, ct148, exists_eq_left, vB_r, Nat.reduceAdd, q199_6]
  rw [if_pos ho]
  simp only [q199_13, q199_15]
  rw [if_neg h0]
  simp only [q199_18, q199_20, q199_23]
  rw [if_pos h5]
  simp only [q199_30, q199_31, q199_34, q199_35, q199_38, s64]
  rw [if_pos (by decide)]
  simp only [q199_43, q199_44]
  refine (lp199a 8 0 (vm_si v 64 0 0) rfl).trans ?_
  simp only [q199_67, q199_68]
  refine (lp199b 6 0 (v_fl 91 0 8 0 (vm_si v 64 0 0)) rfl).trans ?_
  simp only [q199_110, q199_111, q199_112, q199_115, q199_116, q199_117, q199_120, q199_121, q199_123, q199_124]
  exact Iff.rfl
theorem ex_r {p : Nat} : ∀ (k : Nat) (st : Int32) (v : vm_V), ∃ (a : Int32) (v' : vm_V), exR p k st v = vr a v'
  | 0, st, v => ⟨st, v, rfl⟩
  | k + 1, st, v => by
    by_cases s0 : st = 0
    · subst s0
      have : ∃ (a : Int32) (v' : vm_V), c_stp v p = vr a v' := by
        unfold c_stp
        split
        · exact de_r
        · exact dc_r
      obtain ⟨a, v', e⟩ := this
      rw [ex_s e]
      exact ex_r k a v'
    · exact ⟨st, v, if_neg s0⟩
theorem ct134 {p M : Nat} {f s : Int32} (h62 : v.2.2.2 62 = 6) (h63 : v.2.2.2 63 = 8) (hM : M ≤ 500) : vE 134 0 [.ref 61, .ref p, .int f, .int s, .int (Int32.ofNat M), .retAddr 0, .retAddr 0] [] v x ↔ x = exR p M 0 (c_begin v f s) := by
  simp only [q134_0, q134_1, q134_2, q134_3, ct135 h62 h63, exists_eq_left, vB_d, Nat.reduceAdd, q134_6, q134_7, q134_9, q134_10]
  exact lp134 (by omega) M 0 0 _ (by omega)
/-- run, the class's -/
theorem rc_x {p : Nat} {n f s m w1 : Int32} (hn : n = 0 ∧ p = 3 ∨ n = 1 ∧ p = 7) (h62 : v.2.2.2 62 = 6) (h63 : v.2.2.2 63 = 8) (e : vE 132 0 [.ref 2, .int n, .int f, .int s, .int m, .ref 93, .retAddr 0] [] v (vr w1 v1)) : ((m < 0 ∨ ¬ m ≤ 500) ∧ w1 = 2 ∧ v1 = vm_nx v) ∨ ∃ M : Nat, M ≤ 500 ∧ m = Int32.ofNat M ∧ w1 = 0 ∧ ∃ (a : Int32) (v' : vm_V), exR p M 0 (c_begin v f s) = vr a v' ∧ v1 = vm_sl v' 93 0 a.toInt64 := by
  have hy : (if n = 0 then va 3 v else if n = 1 then va 7 v else vt 10 v : vm_Y) = va p v := by
    rcases hn with ⟨rfl, rfl⟩ | ⟨rfl, rfl⟩
    · rw [if_pos rfl]
    · rw [if_neg i10, if_pos rfl]
  simp only [q132_0, q132_2, q132_3, q132_4, q132_5, q132_6, q132_7, q132_9, q133_0, q133_1, q133_2, ct18, exists_eq_left, hy, vB_a, Nat.reduceAdd, q133_5, q133_7, q133_9] at e
  by_cases h0 : m < 0
  · simp only [if_pos h0, q133_20, exists_eq_left, qh132_9_12, q132_21, q132_23, q132_24] at e
    obtain ⟨rfl, rfl⟩ := vr_inj e
    exact Or.inl ⟨Or.inl h0, rfl, rfl⟩
  · simp only [if_neg h0, q133_12, q133_14, q133_17] at e
    by_cases h5 : m ≤ 500
    · have a0 := Int32.le_iff_toInt_le.mp (Int32.not_lt.mp h0)
      have a5 := Int32.le_iff_toInt_le.mp h5
      have t0 : (0 : Int32).toInt = 0 := rfl
      have t5 : (500 : Int32).toInt = 500 := rfl
      obtain ⟨M, n1, n2, n3⟩ := nn_of (x := m) (by omega)
      subst n1
      have hM : M ≤ 500 := by omega
      obtain ⟨a, v', ex⟩ := ex_r (p := p) M 0 (c_begin v f s)
      simp only [if_pos h5, q133_30, q133_31, q133_34, q133_36, q133_37, q133_38, q133_40, ct134 h62 h63 hM, exists_eq_left, Nat.reduceAdd, ex, vB_r, q133_43, q132_12, q132_13, q132_14, q132_25, q132_26] at e
      obtain ⟨rfl, rfl⟩ := vr_inj e
      exact Or.inr ⟨M, hM, rfl, rfl, a, v', ex, rfl⟩
    · simp only [if_neg h5, q133_20, exists_eq_left, qh132_9_12, q132_21, q132_23, q132_24] at e
      obtain ⟨rfl, rfl⟩ := vr_inj e
      exact Or.inl ⟨Or.inr h5, rfl, rfl⟩
theorem rc_o {n f s m w1 : Int32} (h0 : ¬ n = 0) (h1 : ¬ n = 1) (e : vE 132 0 [.ref 2, .int n, .int f, .int s, .int m, .ref 93, .retAddr 0] [] v (vr w1 v1)) : w1 = 1 ∧ v1 = vm_nx v := by
  simp only [q132_0, q132_2, q132_3, q132_4, q132_5, q132_6, q132_7, q132_9, q133_0, q133_1, q133_2, ct18, exists_eq_left, if_neg h0, if_neg h1, qt133, qh132_9_10, q132_17, q132_19, q132_20] at e
  exact vr_inj e
def RK (v : vm_V) : Prop := ∀ b : Nat, b < 12 → ∃ k : Nat, k < 3 ∧ v.1 68 (4 * b) = Int32.ofNat k
def RM (v : vm_V) : Prop := v.1 61 4 = v.1 64 33 ∧ v.1 61 5 = v.1 64 34 ∧ ∀ a : Nat, a < 8 → v.1 63 a = v.1 91 a
theorem gh_ln (hI : lw_I xs H) (hw : vw v H) {p n : Nat} {ss : List ty_V} (hp : tc_g[p]? = some (32, n, ss)) (hn : 0 < n) (h1 : p ≠ 0) : v.2.2.2 p = n := by
  obtain ⟨x, f1, f2⟩ := hI.1 p _ hp
  obtain ⟨tg, fs, e1, e2, _⟩ := gh_rd hI hw (gh_arr hp (k := 0) hn)
  rw [f1] at e1
  cases e1
  rw [ty_cok_arr rfl] at f2
  have f3 : tg = 32 := f2.1
  subst f3
  rw [← (hw.2 p _ _ f1).1 (by decide)]
  exact f2.2.1
theorem prD_of (hI : lw_I xs H) (hw : vw v H) (hR : Rp v) (hK : RK v) {p P : Nat} (h : P = 0 ∧ p = 3 ∨ P = 1 ∧ p = 7) : ∃ c : Nat, prD p P c v := by
  obtain ⟨⟨c, c1, c2, c3⟩, ⟨d, d1, d2, d3⟩⟩ := Rc_cnt hI hw hR.1.1
  obtain ⟨r1, r2, r3, r4, r5, r6⟩ := hR.2
  have hl := hR.1.2
  have len : ∀ b : Nat, b < 12 → ∃ n : Nat, n ≤ 8 ∧ v.1 66 b = Int32.ofNat n := fun b hb => by
    have bd := gh_bd hI hw (p := 66) (n := 12) (k := b) (lo := 0) (hi := 8) rfl hb
    obtain ⟨n, n1, n2, n3⟩ := nn_of bd.1
    exact ⟨n, by omega, n1⟩
  have wf : ∀ k : Nat, k < 96 → ∃ o d a : Nat, o < 10 ∧ d < 6 ∧ a < 6 ∧ v.1 67 (4 * k) = Int32.ofNat o ∧ v.1 67 (4 * k + 1) = Int32.ofNat d ∧ v.1 67 (4 * k + 2) = Int32.ofNat a ∧ (o ≠ 0 → ∃ y : Nat, y < 6 ∧ v.1 67 (4 * k + 3) = Int32.ofNat y) := fun k hk => by
    obtain ⟨w1, w2, w3, w4⟩ := gh_wf hI hw hk
    obtain ⟨o, o1, o2, o3⟩ := nn_of w1.1
    obtain ⟨d, dd1, dd2⟩ := rg w2
    obtain ⟨a, a1, a2⟩ := rg w3
    refine ⟨o, d, a, by omega, dd1, a1, o1, dd2, a2, fun hz => ?_⟩
    exact rg (w4 (fun z => hz ((nn_eq (b := 0) (by omega) (by omega)).mp (o1.symm.trans z))))
  have en : ∀ b : Nat, b < 12 → ∃ k a s t : Nat, k < 3 ∧ a < 6 ∧ s < 6 ∧ t < 6 ∧ v.1 68 (4 * b) = Int32.ofNat k ∧ v.1 68 (4 * b + 1) = Int32.ofNat a ∧ v.1 68 (4 * b + 2) = Int32.ofNat s ∧ v.1 68 (4 * b + 3) = Int32.ofNat t := fun b hb => by
    obtain ⟨k, k1, k2⟩ := hK b hb
    obtain ⟨a, a1, a2⟩ := rg (gh_bd hI hw (p := 68) (n := 48) (k := 4 * b + 1) (lo := 0) (hi := 5) rfl (by omega))
    obtain ⟨s, s1, s2⟩ := rg (gh_bd hI hw (p := 68) (n := 48) (k := 4 * b + 2) (lo := 0) (hi := 5) rfl (by omega))
    obtain ⟨t, t1, t2⟩ := rg (gh_bd hI hw (p := 68) (n := 48) (k := 4 * b + 3) (lo := 0) (hi := 5) rfl (by omega))
    exact ⟨k, a, s, t, k1, a1, s1, t1, k2, a2, s2, t2⟩
  rcases h with ⟨rfl, rfl⟩ | ⟨rfl, rfl⟩
  · refine ⟨c, c1, c2, c3, fun b hb => ?_, fun k hk => ?_, fun k hk => ?_, fun k hk => ?_, fun b hb => ?_⟩
    · obtain ⟨n, n1, n2⟩ := len b (by omega)
      exact ⟨n, n1, (hl.1 b hb).trans n2, by rw [show 6 * 0 + b = b by omega]; exact n2⟩
    · rw [show 192 * 0 + k = k by omega]
      exact r1 k hk
    · rw [show 24 * 0 + k = k by omega]
      exact r3 k hk
    · rw [show 192 * 0 + 4 * k = 4 * k by omega]
      exact wf k (by omega)
    · rw [show 24 * 0 + 4 * b = 4 * b by omega]
      exact en b (by omega)
  · refine ⟨d, d1, d2, d3, fun b hb => ?_, fun k hk => ?_, fun k hk => ?_, fun k hk => ?_, fun b hb => ?_⟩
    · obtain ⟨n, n1, n2⟩ := len (6 + b) (by omega)
      exact ⟨n, n1, (hl.2 b hb).trans n2, by rw [show 6 * 1 + b = 6 + b by omega]; exact n2⟩
    · rw [show 192 * 1 + k = 192 + k by omega]
      exact r2 k hk
    · rw [show 24 * 1 + k = 24 + k by omega]
      exact r4 k hk
    · rw [show 192 * 1 + 4 * k = 4 * (48 + k) by omega]
      exact wf (48 + k) (by omega)
    · rw [show 24 * 1 + 4 * b = 4 * (6 + b) by omega]
      exact en (6 + b) (by omega)
theorem out2 {n : Int32} : r_outside w n 2 = 0 ↔ n = 0 ∨ n = 1 := by
  constructor
  · intro h
    obtain ⟨j, j1, rfl⟩ := (out_nat (w := w) (l := 2) (by omega)).mp h
    have : j = 0 ∨ j = 1 := by omega
    rcases this with rfl | rfl
    · exact Or.inl rfl
    · exact Or.inr rfl
  · rintro (rfl | rfl)
    · exact (out_nat (w := w) (l := 2) (by omega)).mpr ⟨0, by omega, rfl⟩
    · exact (out_nat (w := w) (l := 2) (by omega)).mpr ⟨1, by omega, rfl⟩
theorem ls_0 {f s : Int32} : rLS 0 0 0 (c_begin v f s) (r_rn0 w f s) := by
  have p0 : ∀ (u : vm_V) (z : Int32), c_mput u 0 z = vm_si u 62 0 z := fun u z => mput_n (n := 0) (by omega)
  have p1 : ∀ (u : vm_V) (z : Int32), c_mput u 1 z = vm_si u 62 1 z := fun u z => mput_n (n := 1) (by omega)
  unfold c_begin r_rn0
  rw [p0, p1]
  refine ⟨?_, ?_, ?_, ?_, ?_, fun r hr => ?_, fun a ha => ?_⟩
  · simp only [vm_si1b]
    rfl
  · simp only [vm_si1b]
    rfl
  · simp only [vm_si1b]
    rfl
  · simp only [vm_si1b]
    rfl
  · simp only [vm_si1b]
    rfl
  · simp only [vm_si1b, v_fl1, v_rg1, v_rz]
    by_cases r1 : r = 1
    · subst r1
      simp
    · by_cases r0 : r = 0
      · subst r0
        simp
      · simp [r1, r0, hr]
  · simp only [vm_si1b, v_fl1, v_rg1]
    simp [ha]
theorem rng_f (hI : lw_I xs H) (hw : vw v H) (hw1 : vw v1 H1) {ms : List Nat} (hu : ty_un ms H H1) (h5 : ty_in 65 ms = false) (h6 : ty_in 66 ms = false) (h7 : ty_in 67 ms = false) (h8 : ty_in 68 ms = false) : ∀ q j : Nat, rng q j → v1.1 q j = v.1 q j := fun q j h => by
  rcases h with ⟨rfl, h⟩ | ⟨rfl, h⟩ | ⟨rfl, h⟩ | ⟨rfl, h⟩
  · exact gh_fr hI hw hw1 hu h5 (gh_arr (n := 2) rfl h)
  · exact gh_fr hI hw hw1 hu h6 (gh_arr (n := 12) rfl h)
  · exact gh_fr hI hw hw1 hu h7 (gh_arr (n := 384) rfl h)
  · exact gh_fr hI hw hw1 hu h8 (gh_arr (n := 48) rfl h)
theorem op_run (hI : lw_I xs H) (hw : vw v H) (hR : Rp v) (hK : RK v) (hf : ∀ q j : Nat, rng q j → v1.1 q j = v.1 q j) (h4 : v2.1 61 4 = v1.1 61 4) (h5 : v2.1 61 5 = v1.1 61 5) (h3 : ∀ a : Nat, a < 8 → v2.1 63 a = v1.1 63 a) {n f s m w1 w2 : Int32} (e1 : vE 132 0 [.ref 2, .int n, .int f, .int s, .int m, .ref 93, .retAddr 0] [] v (vr w1 v1)) (e2 : vE 199 0 [.ref 64, .int n, .int f, .int s, .int m, .retAddr 0, .retAddr 0, .retAddr 0, .retAddr 0, .retAddr 0, .retAddr 0] [] v1 (vr w2 v2)) : v2.1 64 0 = w1 ∧ (w1 = 0 → v2.2.1 93 0 = w2.toInt64) ∧ (RM v → RM v2) := by
  have h62 : v.2.2.2 62 = 6 := gh_ln hI hw (p := 62) rfl (by omega) (by omega)
  have h63 : v.2.2.2 63 = 8 := gh_ln hI hw (p := 63) rfl (by omega) (by omega)
  have bad : ∀ z : Int32, v1 = vm_nx v → v2 = vm_si v1 64 0 z → RM v → RM v2 := fun z q1 q2 hM => by
    subst q2 q1
    refine ⟨?_, ?_, fun a ha => ?_⟩
    · rw [vm_si1b, if_neg (by omega), vm_si1b, if_neg (by omega), vm_nx1]
      exact hM.1
    · rw [vm_si1b, if_neg (by omega), vm_si1b, if_neg (by omega), vm_nx1]
      exact hM.2.1
    · rw [vm_si1b, if_neg (by omega), vm_si1b, if_neg (by omega), vm_nx1]
      exact hM.2.2 a ha
  by_cases ho : r_outside v1 n 2 = 0
  · have : ∃ p P : Nat, (n = 0 ∧ p = 3 ∨ n = 1 ∧ p = 7) ∧ (P = 0 ∧ p = 3 ∨ P = 1 ∧ p = 7) ∧ n = Int32.ofNat P ∧ P < 2 ∧ p + 3 < 61 := by
      rcases out2.mp ho with rfl | rfl
      · exact ⟨3, 0, Or.inl ⟨rfl, rfl⟩, Or.inl ⟨rfl, rfl⟩, rfl, by omega, by omega⟩
      · exact ⟨7, 1, Or.inr ⟨rfl, rfl⟩, Or.inr ⟨rfl, rfl⟩, rfl, by omega, by omega⟩
    obtain ⟨p, P, hn, hP, hnP, hP2, hp⟩ := this
    obtain ⟨c, hD⟩ := prD_of hI hw hR hK hP
    rcases rc_x hn h62 h63 e1 with ⟨a1, a2, a3⟩ | ⟨M, a1, a2, a3, a, v', a4, a5⟩
    · rw [r199b ho a1] at e2
      obtain ⟨_, q2⟩ := vr_inj e2
      refine ⟨by rw [q2, s64, a2], fun z => absurd (a2.symm.trans z) i20, bad 2 a3 q2⟩
    · subst hnP a2
      rw [r199c ho (nn_n0 (by omega)) (show Int32.ofNat M ≤ 500 from (nn_le (b := 500) (by omega) (by omega)).mpr a1)] at e2
      obtain ⟨a', u', w', f1, f2, f3⟩ := rn_lp hP2 hp hD a1 M 0 0 0 (c_begin v f s) (r_rn0 v1 f s) _ _ _ _ _ _ (by omega) (by omega) (by omega) (fun q j hq => by
        have p0 : ∀ (u : vm_V) (z : Int32), c_mput u 0 z = vm_si u 62 0 z := fun u z => mput_n (n := 0) (by omega)
        have p1 : ∀ (u : vm_V) (z : Int32), c_mput u 1 z = vm_si u 62 1 z := fun u z => mput_n (n := 1) (by omega)
        unfold c_begin
        rw [p0, p1, vm_si1b, if_neg (by omega), vm_si1b, if_neg (by omega), vm_si1b, if_neg (by omega), vm_si1b, if_neg (by omega), vm_si1b, if_neg (by omega), vm_si1b, if_neg (by omega), v_fl1, if_neg (by omega), v_fl1, if_neg (by omega)]) (fun q j q1 => by
        have q2 : 65 ≤ q ∧ q ≤ 68 := by
          unfold rng at q1
          omega
        unfold r_rn0
        rw [vm_si1b, if_neg (by omega), vm_si1b, if_neg (by omega), v_rg1, if_neg (by omega), v_fl1, if_neg (by omega), vm_si1b, if_neg (by omega)]
        exact hf q j q1) ls_0 e2
      rw [a4] at f1
      obtain ⟨rfl, rfl⟩ := vr_inj f1
      obtain ⟨rfl, rfl⟩ := vr_inj f2
      obtain ⟨g1, g2, g3, g4, g5⟩ := f3
      have z0 : (r_rn0 v1 f s).1 64 0 = 0 := by
        unfold r_rn0
        rw [vm_si1b, if_neg (by omega), vm_si1b, if_neg (by omega), v_rg1, if_neg (by omega), v_fl1, if_neg (by omega), s64]
      have z2 : (r_rn0 v1 f s).2 = v1.2 := by
        unfold r_rn0
        show (v_rg f s 6 0 (v_fl 91 0 8 0 (vm_si v1 64 0 0))).2 = v1.2
        rw [v_rg2, v_fl2]
        rfl
      have v1e : v1.1 = v'.1 := by
        rw [a5]
        rfl
      refine ⟨by rw [g5, z0, a3], fun _ => ?_, fun _ => ⟨?_, ?_, fun b hb => ?_⟩⟩
      · rw [g4, z2, a5]
        exact vm_sl2
      · rw [h4, v1e]
        exact g1
      · rw [h5, v1e]
        exact g2
      · rw [h3 b hb, v1e]
        exact g3 b hb
  · have h0 : ¬ n = 0 := fun z => ho (out2.mpr (Or.inl z))
    have h1 : ¬ n = 1 := fun z => ho (out2.mpr (Or.inr z))
    obtain ⟨a1, a2⟩ := rc_o h0 h1 e1
    rw [r199a ho] at e2
    obtain ⟨_, q2⟩ := vr_inj e2
    exact ⟨by rw [q2, s64, a1], fun z => absurd (a1.symm.trans z) i10, bad 1 a2 q2⟩
end DM
