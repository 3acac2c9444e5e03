/-! TIMES, AND, LESS: both sides -/
section EF
variable {v w v' w' : vm_V} {x x1 x2 : vm_Y}
theorem nz1 {l i : Nat} (h : sv v w l 72 i) : bI (∀ k : Nat, k < 24 → 1 ≤ k → w.1 72 (i + k) = 0) = 0 ↔ ¬ ∀ k : Nat, k < 23 → 1 ≤ k → v.1 (21 + l) k = 0 := by
  rw [bI_z, num_eq h]
theorem sz1 {n a l r i j : Nat} (hV : VI n a v) (hl : l < n) (hr : r < n) (h1 : sv v w l 72 i) (h2 : sv v w r 72 j) : bI (∀ k : Nat, k < 24 → w.1 72 (i + k) = w.1 72 (j + k)) = 0 ↔ ¬ l = r := by
  rw [bI_z]
  exact not_congr (sv_eq hV hl hr h1 h2)
theorem min_n {s t : Nat} (hs : s < 100) (ht : t < 100) : c_min v (Int32.ofNat s) (Int32.ofNat t) = Int32.ofNat (min s t) := by
  unfold c_min
  by_cases h : t < s
  · rw [if_pos ((nn_lt (by omega) (by omega)).mpr h), show min s t = t by omega]
  · rw [if_neg (fun z => h ((nn_lt (by omega) (by omega)).mp z)), show min s t = s by omega]
theorem max_n {s t : Nat} (hs : s < 100) (ht : t < 100) : c_max v (Int32.ofNat s) (Int32.ofNat t) = Int32.ofNat (max s t) := by
  unfold c_max
  by_cases h : s < t
  · rw [if_pos ((nn_lt (by omega) (by omega)).mpr h), show max s t = t by omega]
  · rw [if_neg (fun z => h ((nn_lt (by omega) (by omega)).mp z)), show max s t = s by omega]
theorem lp105 {s t f : Nat} {z : Int32} (hf : f < 22) : ∀ (m c : Nat), c + m = 23 → (vE 105 72 [.ref 19, .int (Int32.ofNat s), .int (Int32.ofNat t), .int z, .int (Int32.ofNat f), .int (Int32.ofNat c)] [] (v_up 48 0 c (fun k => z * v.1 (21 + f) k) v) x ↔ vE 105 102 [.ref 19, .int (Int32.ofNat s), .int (Int32.ofNat t), .int z, .int (Int32.ofNat f), .int (Int32.ofNat 23)] [] (v_up 48 0 23 (fun k => z * v.1 (21 + f) k) v) x)
  | 0, c, h => by
    obtain rfl : c = 23 := by omega
    rw [q105_72]
    simp only [q105_74, q105_76]
    rw [if_pos (show (23 : Int32) ≤ Int32.ofNat 23 from by decide)]
  | m + 1, c, h => by
    rw [q105_72]
    simp only [q105_74, q105_76]
    rw [if_neg (show ¬ (23 : Int32) ≤ Int32.ofNat c from nl (k := 23) (by omega) (by omega) (by omega))]
    simp only [q105_79, q105_80, q105_83, q105_85, q105_86, q105_87, q105_89, q105_91, ct96, exists_eq_left, vB_r, q105_94, q105_95, q105_96, q105_99, Nat.reduceAdd, nn_s, cell_n hf (show c < 23 by omega)]
    rw [nn_nat (show c < 2147483648 by omega), v_upo (by omega)]
    have e := v_upS (v := v) (q := 48) (j := 0) (n := c) (g := fun k => z * v.1 (21 + f) k)
    rw [Nat.zero_add] at e
    rw [e]
    exact lp105 hf m (c + 1) (by omega)
theorem mk_pl {n a s t f : Nat} {z : Int32} (hV : VI n a v) (hn : n < 22) (hf : f < n) (e : vE 105 72 [.ref 19, .int (Int32.ofNat s), .int (Int32.ofNat t), .int z, .int (Int32.ofNat f), .int 0] [] v x) : MK n a v (fun k => z * v.1 (21 + f) k) x := by
  have L := lp105 (v := v) (x := x) (s := s) (t := t) (z := z) (show f < 22 by omega) 23 0 rfl
  rw [v_up0] at L
  have e := L.mp e
  simp only [q105_102, q105_103] at e
  obtain ⟨y, e1, e2⟩ := e
  have a8 := hV.2.2.2.2.2.2.2.1
  obtain ⟨s', n', v', f1, f2, f3, f4, f5⟩ := mk_d (w := v_up 48 0 23 (fun k => z * v.1 (21 + f) k) v) (g := fun k => z * v.1 (21 + f) k) hV hn (fun k hk hk2 => by
    rw [a8 f k hf hk hk2, Int32.mul_zero]) (fun P j hP => v_upo hP) rfl (fun k hk => by
    rw [v_up1, if_pos (by omega)]
    rfl) e1
  subst f1
  simp only [vB_r, Nat.reduceAdd, q105_106] at e2
  exact ⟨s', n', v', e2, f2, f3, f4, f5⟩
/-- an atom's answer is handed on -/
theorem at_v {n a : Nat} {K l r : Int32} (h : MA n a v K l r x) : ∃ (s : Nat) (v' : vm_V), x = vr (Int32.ofNat s) v' := by
  rcases h with ⟨_, s, _, _, _, _, h, _⟩ | ⟨_, v', h, _⟩
  · exact ⟨s, v, h⟩
  · exact ⟨n, v', h⟩
/-- makeProduct -/
theorem mk_pr {n a s t : Nat} (hV : VI n a v) (hn : n < 22) (hs : s < n) (ht : t < n) (e : vE 105 0 [.ref 19, .int (Int32.ofNat s), .int (Int32.ofNat t), .retAddr 0, .retAddr 0, .retAddr 0] [] v x) : ((∀ k : Nat, k < 23 → 1 ≤ k → v.1 (21 + s) k = 0) ∧ MK n a v (fun k => v.1 (21 + s) 0 * v.1 (21 + t) k) x) ∨ (¬ (∀ k : Nat, k < 23 → 1 ≤ k → v.1 (21 + s) k = 0) ∧ (∀ k : Nat, k < 23 → 1 ≤ k → v.1 (21 + t) k = 0) ∧ MK n a v (fun k => v.1 (21 + t) 0 * v.1 (21 + s) k) x) ∨ (¬ (∀ k : Nat, k < 23 → 1 ≤ k → v.1 (21 + s) k = 0) ∧ ¬ (∀ k : Nat, k < 23 → 1 ≤ k → v.1 (21 + t) k = 0) ∧ vE 88 0 [.ref 19, .int 4, .int (Int32.ofNat (min s t)), .int (Int32.ofNat (max s t)), .retAddr 0, .retAddr 0] [] v x) := by
  have n22 := hV.2.2.2.1
  have cs : c_cell v (Int32.ofNat s) 0 = v.1 (21 + s) 0 := cell_n (t := s) (k := 0) (by omega) (by omega)
  have ct : c_cell v (Int32.ofNat t) 0 = v.1 (21 + t) 0 := cell_n (t := t) (k := 0) (by omega) (by omega)
  simp only [q105_0, q105_1, q105_2, ct94, exists_eq_left, vB_r, Nat.reduceAdd, q105_5, vnum_n hV hs] at e
  by_cases c1 : ∀ k : Nat, k < 23 → 1 ≤ k → v.1 (21 + s) k = 0
  · rw [if_neg (fun z => bI_z.mp z c1)] at e
    simp only [q105_32, q105_33, q105_34, ct94, exists_eq_left, vB_r, Nat.reduceAdd, q105_37, vnum_n hV hs] at e
    rw [if_neg (fun z => bI_z.mp z c1)] at e
    simp only [q105_40, q105_41, q105_42, ct95, c_nof, cs, q105_45, q105_53, q105_54, q105_55, q105_56, ct94, exists_eq_left, vB_r, Nat.reduceAdd, q105_59, vnum_n hV hs] at e
    rw [if_neg (fun z => bI_z.mp z c1)] at e
    simp only [q105_62, q105_63, q105_67, q105_69, q105_70] at e
    exact Or.inl ⟨c1, mk_pl hV hn ht e⟩
  · rw [if_pos (bI_z.mpr c1)] at e
    simp only [q105_8, q105_9, q105_10, ct94, exists_eq_left, vB_r, Nat.reduceAdd, q105_13, vnum_n hV ht] at e
    by_cases c2 : ∀ k : Nat, k < 23 → 1 ≤ k → v.1 (21 + t) k = 0
    · rw [if_neg (fun z => bI_z.mp z c2)] at e
      simp only [q105_32, q105_33, q105_34, ct94, exists_eq_left, vB_r, Nat.reduceAdd, q105_37, vnum_n hV hs] at e
      rw [if_pos (bI_z.mpr c1)] at e
      simp only [q105_48, q105_49, q105_50, ct95, c_nof, ct, q105_53, q105_54, q105_55, q105_56, ct94, exists_eq_left, vB_r, Nat.reduceAdd, q105_59, vnum_n hV hs] at e
      rw [if_pos (bI_z.mpr c1)] at e
      simp only [q105_66, q105_67, q105_69, q105_70] at e
      exact Or.inr (Or.inl ⟨c1, c2, mk_pl hV hn hs e⟩)
    · rw [if_pos (bI_z.mpr c2)] at e
      simp only [q105_16, q105_17, q105_18, q105_19, q105_20, ct64, exists_eq_left, vB_r, Nat.reduceAdd, q105_23, q105_24, q105_25, ct67, q105_28, min_n (show s < 100 by omega) (show t < 100 by omega), max_n (show s < 100 by omega) (show t < 100 by omega)] at e
      obtain ⟨y, e1, e2⟩ := e
      obtain ⟨s', v', rfl⟩ := at_v (mk_at hV hn e1)
      simp only [vB_r, Nat.reduceAdd, q105_31] at e2
      rw [e2]
      exact Or.inr (Or.inr ⟨c1, c2, e1⟩)
/-- the reference's atom and be, at the end of combine -/
theorem rc_at {n a i j : Nat} {K : Int32} {l4 l5 l6 l7 l8 l9 : Value} (hV : VI n a v) (hn : n < 22) (hA : AR n a v w) (hi : i < 1000) (hj : j < 1000) (e : vE 191 412 [.ref 64, .int K, .int (Int32.ofNat i), .int (Int32.ofNat j), l4, l5, l6, l7, l8, l9] [] w x) : ∃ y : vm_Y, vE 188 0 [.ref 64, .int K, .ref 72, .int (Int32.ofNat i), .ref 72, .int (Int32.ofNat j), .retAddr 0, .retAddr 0] [] w y ∧ ∃ (c : Int32) (w1 : vm_V), y = vr c w1 ∧ vE 189 0 [.ref 64, .int c] [] w1 x := by
  have a3 := hV.2.2.1
  simp only [q191_412, q191_413, q191_414, q191_415, q191_416, q191_419, q191_420, q191_421, q191_424, q191_425, Nat.reduceAdd] at e
  obtain ⟨y, e1, e2⟩ := e
  refine ⟨y, e1, ?_⟩
  have : ∃ (c : Nat) (w1 : vm_V), c < 22 ∧ y = vr (Int32.ofNat c) w1 := by
    rcases ra_x hA.1 (by omega) (by omega) (by omega) hi hj e1 with ⟨c, c1, _, _, c4⟩ | ⟨_, c2⟩
    · exact ⟨c, w, by omega, c4⟩
    · exact ⟨a, _, by omega, c2⟩
  obtain ⟨c, w1, c1, rfl⟩ := this
  simp only [vB_r, Nat.reduceAdd, q191_428, ct189 c1, exists_eq_left, vB_d, q191_431] at e2
  exact ⟨_, w1, rfl, (ct189 c1).mpr e2⟩
theorem ne_s {n l r i j : Nat} {K : Int32} (hK : K = 4 ∨ K = 5) (hl : l < n) (hr : r < n) (h1 : sv v w l 72 i) (h2 : sv v w r 72 j) : NE n v w K (Int32.ofNat (min l r)) (Int32.ofNat (max l r)) 72 i 72 j := by
  have k8 : ¬ K = 8 := by
    rcases hK with rfl | rfl <;> decide
  have k1 : ¬ K = -1 := by
    rcases hK with rfl | rfl <;> decide
  refine ⟨k1, min l r, by omega, rfl, Or.inr ⟨k8, max l r, by omega, rfl, ?_, fun _ => by omega⟩⟩
  by_cases h : l ≤ r
  · left
    rw [show min l r = l by omega, show max l r = r by omega]
    exact ⟨h1, h2⟩
  · right
    rw [show min l r = r by omega, show max l r = l by omega]
    exact ⟨hK, h1, h2⟩
theorem ne_d {n l r i j : Nat} {K : Int32} (hK : K = 6 ∨ K = 7) (hl : l < n) (hr : r < n) (h1 : sv v w l 72 i) (h2 : sv v w r 72 j) : NE n v w K (Int32.ofNat l) (Int32.ofNat r) 72 i 72 j := by
  have k8 : ¬ K = 8 := by
    rcases hK with rfl | rfl <;> decide
  have k1 : ¬ K = -1 := by
    rcases hK with rfl | rfl <;> decide
  have k45 : ¬ (K = 4 ∨ K = 5) := by
    rcases hK with rfl | rfl <;> decide
  exact ⟨k1, l, hl, rfl, Or.inr ⟨k8, r, hr, rfl, Or.inl ⟨h1, h2⟩, fun z => absurd z k45⟩⟩
theorem jc_4 {n a l r o i j : Nat} (hV : VI n a v) (hn : n < 22) (hA : AR n a v w) (hl : l < n) (hr : r < n) (hi : i < 1000) (hj : j < 1000) (h1 : sv v w l 72 i) (h2 : sv v w r 72 j) (e1 : vE 103 0 [.ref o, .ref 19, .int 4, .int (Int32.ofNat l), .int (Int32.ofNat r), .retAddr 0] [] v x1) (e2 : vE 191 0 [.ref 64, .int 4, .int (Int32.ofNat i), .int (Int32.ofNat j), .retAddr 0, .retAddr 0, .retAddr 0, .retAddr 0, .retAddr 0, .retAddr 0] [] w x2) : JR n a v w x1 x2 := by
  have R : ((∀ k : Nat, k < 23 → 1 ≤ k → v.1 (21 + l) k = 0) → x2 = vd (v_up 77 0 24 (fun k => w.1 72 i * w.1 72 (j + k)) w)) ∧ (¬ (∀ k : Nat, k < 23 → 1 ≤ k → v.1 (21 + l) k = 0) → (∀ k : Nat, k < 23 → 1 ≤ k → v.1 (21 + r) k = 0) → x2 = vd (v_up 77 0 24 (fun k => w.1 72 j * w.1 72 (i + k)) w)) ∧ (¬ (∀ k : Nat, k < 23 → 1 ≤ k → v.1 (21 + l) k = 0) → ¬ (∀ k : Nat, k < 23 → 1 ≤ k → v.1 (21 + r) k = 0) → ∃ y : vm_Y, vE 188 0 [.ref 64, .int 4, .ref 72, .int (Int32.ofNat i), .ref 72, .int (Int32.ofNat j), .retAddr 0, .retAddr 0] [] w y ∧ ∃ (c : Int32) (w1 : vm_V), y = vr c w1 ∧ vE 189 0 [.ref 64, .int c] [] w1 x2) := by
    rw [rc_0 hi hj] at e2
    simp only [q191_35, q191_36, q191_37] at e2
    rw [if_neg (show ¬ (4 : Int32) = 2 from by decide)] at e2
    simp only [q191_40, q191_41, q191_42] at e2
    rw [if_neg (show ¬ (4 : Int32) = 3 from by decide)] at e2
    simp only [q191_117, q191_118, q191_119] at e2
    rw [if_pos trivial] at e2
    simp only [q191_122, q191_124] at e2
    refine ⟨fun c1 => ?_, fun c1 c2 => ?_, fun c1 c2 => ?_⟩
    · rw [if_neg (fun z => (nz1 h1).mp z c1)] at e2
      simp only [q191_132, q191_134] at e2
      rw [if_neg (fun z => (nz1 h1).mp z c1)] at e2
      simp only [q191_137, q191_138, q191_141, q191_142, q191_143, q191_152, q191_154, q191_156, Nat.reduceAdd, nn_nat (show i < 2147483648 by omega)] at e2
      rw [if_neg (fun z => (nz1 h1).mp z c1)] at e2
      simp only [q191_159, q191_160, q191_164, q191_166, q191_167] at e2
      have L := lp191c (w := w) (x := x2) (i := i) (j := j) (f := j) (z := w.1 72 i) (l4 := .int (bI (∀ k : Nat, k < 24 → 1 ≤ k → w.1 72 (i + k) = 0))) (l5 := .int (bI (∀ k : Nat, k < 24 → 1 ≤ k → w.1 72 (j + k) = 0))) (l6 := .int (bI (∀ k : Nat, k < 24 → w.1 72 (i + k) = w.1 72 (j + k)))) hj 24 0 rfl
      rw [v_up0] at L
      exact L.mp e2
    · rw [if_pos ((nz1 h1).mpr c1)] at e2
      simp only [q191_127, q191_129] at e2
      rw [if_neg (fun z => (nz1 h2).mp z c2)] at e2
      simp only [q191_132, q191_134] at e2
      rw [if_pos ((nz1 h1).mpr c1)] at e2
      simp only [q191_146, q191_147, q191_150, q191_151, q191_152, q191_154, q191_156, Nat.reduceAdd, nn_nat (show j < 2147483648 by omega)] at e2
      rw [if_pos ((nz1 h1).mpr c1)] at e2
      simp only [q191_163, q191_164, q191_166, q191_167] at e2
      have L := lp191c (w := w) (x := x2) (i := i) (j := j) (f := i) (z := w.1 72 j) (l4 := .int (bI (∀ k : Nat, k < 24 → 1 ≤ k → w.1 72 (i + k) = 0))) (l5 := .int (bI (∀ k : Nat, k < 24 → 1 ≤ k → w.1 72 (j + k) = 0))) (l6 := .int (bI (∀ k : Nat, k < 24 → w.1 72 (i + k) = w.1 72 (j + k)))) hi 24 0 rfl
      rw [v_up0] at L
      exact L.mp e2
    · rw [if_pos ((nz1 h1).mpr c1)] at e2
      simp only [q191_127, q191_129] at e2
      rw [if_pos ((nz1 h2).mpr c2)] at e2
      simp only [q191_205, q191_207] at e2
      rw [if_pos ((nz1 h1).mpr c1)] at e2
      simp only [q191_248, q191_249, q191_250] at e2
      rw [if_neg (show ¬ (4 : Int32) = 5 from by decide)] at e2
      simp only [q191_274, q191_275, q191_276] at e2
      rw [if_neg (show ¬ (4 : Int32) = 5 from by decide)] at e2
      simp only [q191_319, q191_320, q191_321] at e2
      rw [if_neg (show ¬ (4 : Int32) = 5 from by decide)] at e2
      simp only [q191_389, q191_390, q191_392] at e2
      rw [if_neg (show ¬ (4 : Int32) = 6 from by decide)] at e2
      exact rc_at hV hn hA hi hj e2
  have wi : w.1 72 i = v.1 (21 + l) 0 := sv_0 h1
  have wj : w.1 72 j = v.1 (21 + r) 0 := sv_0 h2
  have gA : ∀ k : Nat, k < 23 → (fun k => w.1 72 i * w.1 72 (j + k)) k = v.1 (21 + l) 0 * v.1 (21 + r) k := fun k hk => by
    show w.1 72 i * w.1 72 (j + k) = _
    rw [wi, h2 k (by omega), rx_n hk]
  have gA3 : (fun k => w.1 72 i * w.1 72 (j + k)) 23 = 0 := by
    show w.1 72 i * w.1 72 (j + 23) = 0
    rw [h2 23 (by omega), rx_23, Int32.mul_zero]
  rcases cc_x hV hn hl hr e1 with ⟨_, c2, c3, _, m⟩ | ⟨c1, z, e1⟩
  · refine jk hA m (R.1 c2) (fun k hk => (gA k hk).trans ?_) gA3
    by_cases k0 : k = 0
    · rw [if_pos k0, k0]
      rfl
    · rw [if_neg k0, c3 k hk (by omega), Int32.mul_zero]
  · simp only [q103_69, q103_70] at e1
    rw [if_neg (show ¬ (4 : Int32) = 2 from by decide), if_neg (show ¬ (4 : Int32) = 3 from by decide), if_pos trivial] at e1
    simp only [q103_130, q103_131, q103_132, q103_134] at e1
    obtain ⟨y, e3, e4⟩ := e1
    rcases mk_pr hV hn hl hr e3 with ⟨d1, s, n', v', f1, f2, f3, f4, f5⟩ | ⟨d1, d2, s, n', v', f1, f2, f3, f4, f5⟩ | ⟨d1, d2, e5⟩
    · subst f1
      simp only [vB_r, Nat.reduceAdd, q103_137] at e4
      exact jk hA ⟨s, n', v', e4, f2, f3, f4, f5⟩ (R.1 d1) gA gA3
    · subst f1
      simp only [vB_r, Nat.reduceAdd, q103_137] at e4
      refine jk hA ⟨s, n', v', e4, f2, f3, f4, f5⟩ (R.2.1 d1 d2) (fun k hk => ?_) ?_
      · show w.1 72 j * w.1 72 (i + k) = _
        rw [wj, h1 k (by omega), rx_n hk]
      · show w.1 72 j * w.1 72 (i + 23) = 0
        rw [h1 23 (by omega), rx_23, Int32.mul_zero]
    · obtain ⟨s', v', rfl⟩ := at_v (mk_at hV hn e5)
      simp only [vB_r, Nat.reduceAdd, q103_137] at e4
      rw [e4]
      exact jb hV hn hA (by omega) (by omega) hi hj (by decide) (ne_s (Or.inl rfl) hl hr h1 h2) e5 (R.2.2 d1 d2)
end EF
