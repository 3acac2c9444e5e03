/-! combine: both sides -/
section EE
variable {v w v' w' : vm_V} {x x1 x2 : vm_Y}
def JR (n a : Nat) (v w : vm_V) (x1 x2 : vm_Y) : Prop := ∃ (s n' a' : Nat) (v' w' : vm_V), x1 = vr (Int32.ofNat s) v' ∧ x2 = vd w' ∧ VI n' a' v' ∧ VX n a v n' a' v' ∧ AR n' a' v' w' ∧ s < n' ∧ sv v' w' s 77 0 ∧ wF w w' ∧ ∀ y : Nat, a ≤ y → y < a' → ¬ v'.1 44 y = 8
theorem wF_77 {G : Nat → Int32} : wF w (v_up 77 0 24 G w) := ⟨fun P j _ _ _ h _ => v_upo h, rfl⟩
theorem AR_x {n a n' : Nat} (hA : AR n a v w) (h : VX n a v n' a v') (h5 : w'.1 64 5 = w.1 64 5) (h9 : ∀ P k : Nat, 69 ≤ P → P ≤ 71 → w'.1 P k = w.1 P k) : AR n' a v' w' := ⟨h5.trans hA.1, fun i hi => AE_x h hi (h9 _ _ (by omega) (by omega)) (fun k _ => h9 _ _ (by omega) (by omega)) (fun k _ => h9 _ _ (by omega) (by omega)) (hA.2.1 i hi), fun i j hi hj q => by
  obtain ⟨c1, c2, c3, _⟩ := h.2.2.2.2.2.1 i hi
  obtain ⟨d1, d2, d3, _⟩ := h.2.2.2.2.2.1 j hj
  rw [c1, c2, c3] at q
  refine hA.2.2 i j hi hj ⟨?_, ?_, ?_⟩
  · exact d1.symm.trans q.1
  · exact d2.symm.trans q.2.1
  · exact d3.symm.trans q.2.2⟩
theorem jk {n a : Nat} {g G : Nat → Int32} (hA : AR n a v w) (h1 : MK n a v g x1) (h2 : x2 = vd (v_up 77 0 24 G w)) (hG : ∀ k : Nat, k < 23 → G k = g k) (h3 : G 23 = 0) : JR n a v w x1 x2 := by
  obtain ⟨s, n', v', f1, f2, f3, f4, f5⟩ := h1
  refine ⟨s, n', a, v', _, f1, h2, f2, f3, AR_x hA f3 (v_upo (by omega)) (fun P k _ _ => v_upo (by omega)), f4, fun k hk => ?_, wF_77, fun y h1 h2 => by omega⟩
  rw [v_upi hk]
  unfold rx
  by_cases e : k < 23
  · rw [if_pos e, hG k e, f5 k e]
  · rw [if_neg e, show k = 23 by omega]
    exact h3
/-- the class's value is one that was there -/
theorem jm {n a t : Nat} {G : Nat → Int32} (hV : VI n a v) (hA : AR n a v w) (ht : t < n) (h1 : x1 = vr (Int32.ofNat t) v) (h2 : x2 = vd (v_up 77 0 24 G w)) (hG : ∀ k : Nat, k < 24 → G k = rx v t k) : JR n a v w x1 x2 := by
  refine ⟨t, n, a, v, _, h1, h2, hV, VX_rf, AR_x hA VX_rf (v_upo (by omega)) (fun P k _ _ => v_upo (by omega)), ht, fun k hk => ?_, wF_77, fun y h1 h2 => by omega⟩
  rw [v_upi hk]
  exact hG k hk
/-- an atom, and be -/
theorem jb {n a p i q j : Nat} {K L R : Int32} (hV : VI n a v) (hn : n < 22) (hA : AR n a v w) (hp : 71 < p) (hq : 71 < q) (hi : i < 1000) (hj : j < 1000) (hK : ¬ K = 8) (hN : NE n v w K L R p i q j) (e1 : vE 88 0 [.ref 19, .int K, .int L, .int R, .retAddr 0, .retAddr 0] [] v x1) (e2 : ∃ y : vm_Y, vE 188 0 [.ref 64, .int K, .ref p, .int (Int32.ofNat i), .ref q, .int (Int32.ofNat j), .retAddr 0, .retAddr 0] [] w y ∧ ∃ (c : Int32) (w1 : vm_V), y = vr c w1 ∧ vE 189 0 [.ref 64, .int c] [] w1 x2) : JR n a v w x1 x2 := by
  obtain ⟨y, e3, c', w1, rfl, e4⟩ := e2
  obtain ⟨s, c, n', a', v', w', f1, f2, f3, f4, f5, f6, f7, f8, f9, _, _, _, _, f10, _⟩ := ja hV hn hA hp hq hi hj hN e1 e3
  obtain ⟨rfl, rfl⟩ := vr_inj f2
  have a22 := f3.2.2.1
  have n22 := f3.2.2.2.1
  rw [ct189 (by omega)] at e4
  refine ⟨s, n', a', v', _, f1, e4, f3, f4, AR_x f5 VX_rf (v_upo (by omega)) (fun P k _ _ => v_upo (by omega)), f6, fun k hk => ?_, wF_tr f9 wF_77, fun y h1 h2 => by rw [f10 y h1 h2]; exact hK⟩
  rw [v_upi hk]
  unfold rx
  by_cases e : k < 23
  · rw [if_pos e, f8 k e]
  · rw [if_neg e, if_neg (by omega)]
/-! the class's combine -/
theorem cc_x {n a l r o : Nat} {K : Int32} (hV : VI n a v) (hn : n < 22) (hl : l < n) (hr : r < n) (e : vE 103 0 [.ref o, .ref 19, .int K, .int (Int32.ofNat l), .int (Int32.ofNat r), .retAddr 0] [] v x) : (¬ c_isCalc v K = 0 ∧ (∀ k : Nat, k < 23 → 1 ≤ k → v.1 (21 + l) k = 0) ∧ (∀ k : Nat, k < 23 → 1 ≤ k → v.1 (21 + r) k = 0) ∧ c_divZero v K (v.1 (21 + r) 0) = 0 ∧ MK n a v (fun k => if k = 0 then xC K (v.1 (21 + l) 0) (v.1 (21 + r) 0) else 0) x) ∨ ((c_isCalc v K = 0 ∨ ¬ ((∀ k : Nat, k < 23 → 1 ≤ k → v.1 (21 + l) k = 0) ∧ (∀ k : Nat, k < 23 → 1 ≤ k → v.1 (21 + r) k = 0)) ∨ ¬ c_divZero v K (v.1 (21 + r) 0) = 0) ∧ ∃ z : Value, vE 103 69 [.ref o, .ref 19, .int K, .int (Int32.ofNat l), .int (Int32.ofNat r), z] [] v x) := by
  have n22 := hV.2.2.2.1
  have cl : c_cell v (Int32.ofNat l) 0 = v.1 (21 + l) 0 := cell_n (t := l) (k := 0) (by omega) (by omega)
  have cr : c_cell v (Int32.ofNat r) 0 = v.1 (21 + r) 0 := cell_n (t := r) (k := 0) (by omega) (by omega)
  have st : ∃ z : Int32, (z = 0 ↔ ¬ ((∀ k : Nat, k < 23 → 1 ≤ k → v.1 (21 + l) k = 0) ∧ (∀ k : Nat, k < 23 → 1 ≤ k → v.1 (21 + r) k = 0))) ∧ vE 103 24 [.ref o, .ref 19, .int K, .int (Int32.ofNat l), .int (Int32.ofNat r), .int z] [] v x := by
    simp only [q103_0, q103_1, q103_2, ct94, exists_eq_left, vB_r, Nat.reduceAdd, q103_5, vnum_n hV hl] at e
    by_cases c1 : ∀ k : Nat, k < 23 → 1 ≤ k → v.1 (21 + l) k = 0
    · rw [if_neg (fun z => bI_z.mp z c1)] at e
      simp only [q103_8, q103_9, q103_11, ct94, exists_eq_left, vB_r, Nat.reduceAdd, q103_14, vnum_n hV hr] at e
      by_cases c2 : ∀ k : Nat, k < 23 → 1 ≤ k → v.1 (21 + r) k = 0
      · rw [if_neg (fun z => bI_z.mp z c2)] at e
        simp only [q103_17, q103_18, q103_22] at e
        exact ⟨1, ⟨fun z => absurd z i10, fun z => absurd ⟨c1, c2⟩ z⟩, e⟩
      · rw [if_pos (bI_z.mpr c2)] at e
        simp only [q103_21, q103_22] at e
        exact ⟨0, ⟨fun _ z => c2 z.2, fun _ => rfl⟩, e⟩
    · rw [if_pos (bI_z.mpr c1)] at e
      simp only [q103_21, q103_22] at e
      exact ⟨0, ⟨fun _ z => c1 z.1, fun _ => rfl⟩, e⟩
  obtain ⟨z, z1, e⟩ := st
  simp only [q103_24, q103_25, ct51, exists_eq_left, vB_r, Nat.reduceAdd, q103_28] at e
  by_cases d1 : c_isCalc v K = 0
  · rw [if_pos d1] at e
    exact Or.inr ⟨Or.inl d1, _, e⟩
  · rw [if_neg d1] at e
    simp only [q103_31, q103_33] at e
    by_cases d2 : z = 0
    · rw [if_pos d2] at e
      exact Or.inr ⟨Or.inr (Or.inl (z1.mp d2)), _, e⟩
    · rw [if_neg d2] at e
      have hN := Classical.not_not.mp (fun q => d2 (z1.mpr q))
      simp only [q103_36, q103_37, q103_38, q103_40, ct95, c_nof, cr, exists_eq_left, vB_r, Nat.reduceAdd, q103_43, ct53, q103_46] at e
      by_cases d3 : c_divZero v K (v.1 (21 + r) 0) = 0
      · rw [if_pos d3] at e
        simp only [q103_49, q103_50, q103_51, q103_52, q103_53, ct95, c_nof, cl, cr, exists_eq_left, vB_r, Nat.reduceAdd, q103_56, q103_57, q103_59, q103_62, ct54, xC_c, q103_65] at e
        obtain ⟨y, e1, e2⟩ := e
        obtain ⟨s, n', v', f1, f2, f3, f4, f5⟩ := mk_num hV hn e1
        subst f1
        simp only [vB_r, Nat.reduceAdd, q103_68] at e2
        exact Or.inl ⟨d1, hN.1, hN.2, d3, s, n', v', e2, f2, f3, f4, f5⟩
      · rw [if_neg d3] at e
        exact Or.inr ⟨Or.inr (Or.inr d3), _, e⟩
/-! the reference's combine: the beginning -/
theorem rc_0 {i j : Nat} {K : Int32} {l4 l5 l6 l7 l8 l9 : Value} (hi : i < 1000) (hj : j < 1000) : vE 191 0 [.ref 64, .int K, .int (Int32.ofNat i), .int (Int32.ofNat j), l4, l5, l6, l7, l8, l9] [] w x ↔ vE 191 35 [.ref 64, .int K, .int (Int32.ofNat i), .int (Int32.ofNat j), .int (bI (∀ k : Nat, k < 24 → 1 ≤ k → w.1 72 (i + k) = 0)), .int (bI (∀ k : Nat, k < 24 → 1 ≤ k → w.1 72 (j + k) = 0)), .int (bI (∀ k : Nat, k < 24 → w.1 72 (i + k) = w.1 72 (j + k))), l7, l8, l9] [] w x := by
  simp only [q191_0, q191_1, q191_4, q191_5, Nat.reduceAdd, ct185 hi, exists_eq_left, vB_r, q191_8, q191_10, q191_11, q191_14, q191_15, ct185 hj, q191_18, q191_20, q191_21, q191_24, q191_25, q191_26, q191_29, q191_30, ct187 hi hj, q191_33]
/-- ADD and SUBTRACT: the loop -/
theorem lp191a {i j : Nat} {l4 l5 l6 l8 l9 : Value} (hi : i < 1000) (hj : j < 1000) : ∀ (m c : Nat), c + m = 24 → (vE 191 48 [.ref 64, .int 2, .int (Int32.ofNat i), .int (Int32.ofNat j), l4, l5, l6, .int (Int32.ofNat c), l8, l9] [] (v_up 77 0 c (fun k => w.1 72 (i + k) + w.1 72 (j + k)) w) x ↔ x = vd (v_up 77 0 24 (fun k => w.1 72 (i + k) + w.1 72 (j + k)) w))
  | 0, c, h => by
    obtain rfl : c = 24 := by omega
    rw [q191_48]
    simp only [q191_50, q191_52]
    rw [if_pos (show (24 : Int32) ≤ Int32.ofNat 24 from by decide)]
    simp only [q191_114, q191_431]
  | m + 1, c, h => by
    rw [q191_48]
    simp only [q191_50, q191_52]
    rw [if_neg (show ¬ (24 : Int32) ≤ Int32.ofNat c from nl (k := 24) (by omega) (by omega) (by omega))]
    simp only [q191_55, q191_56, q191_59, q191_61, q191_62, q191_63, Nat.reduceAdd]
    rw [if_pos trivial]
    simp only [q191_66, q191_67, q191_70, q191_71, q191_73, q191_74, q191_75, q191_76, q191_79, q191_80, q191_82, q191_83, q191_84, q191_85, q191_107, q191_108, q191_111, Nat.reduceAdd, nn_add, nn_s]
    rw [nn_nat (show i + c < 2147483648 by omega), nn_nat (show j + c < 2147483648 by omega), nn_nat (show c < 2147483648 by omega), v_upo (by omega), v_upo (by omega)]
    have e := v_upS (v := w) (q := 77) (j := 0) (n := c) (g := fun k => w.1 72 (i + k) + w.1 72 (j + k))
    rw [Nat.zero_add] at e
    rw [e]
    exact lp191a hi hj m (c + 1) (by omega)
theorem lp191b {i j : Nat} {l4 l5 l6 l8 l9 : Value} (hi : i < 1000) (hj : j < 1000) : ∀ (m c : Nat), c + m = 24 → (vE 191 48 [.ref 64, .int 3, .int (Int32.ofNat i), .int (Int32.ofNat j), l4, l5, l6, .int (Int32.ofNat c), l8, l9] [] (v_up 77 0 c (fun k => w.1 72 (i + k) - w.1 72 (j + k)) w) x ↔ x = vd (v_up 77 0 24 (fun k => w.1 72 (i + k) - w.1 72 (j + k)) w))
  | 0, c, h => by
    obtain rfl : c = 24 := by omega
    rw [q191_48]
    simp only [q191_50, q191_52]
    rw [if_pos (show (24 : Int32) ≤ Int32.ofNat 24 from by decide)]
    simp only [q191_114, q191_431]
  | m + 1, c, h => by
    rw [q191_48]
    simp only [q191_50, q191_52]
    rw [if_neg (show ¬ (24 : Int32) ≤ Int32.ofNat c from nl (k := 24) (by omega) (by omega) (by omega))]
    simp only [q191_55, q191_56, q191_59, q191_61, q191_62, q191_63, Nat.reduceAdd]
    rw [if_neg (show ¬ (3 : Int32) = 2 from by decide)]
    simp only [q191_88, q191_89, q191_92, q191_93, q191_95, q191_96, q191_97, q191_98, q191_101, q191_102, q191_104, q191_105, q191_106, q191_107, q191_108, q191_111, Nat.reduceAdd, nn_add, nn_s]
    rw [nn_nat (show i + c < 2147483648 by omega), nn_nat (show j + c < 2147483648 by omega), nn_nat (show c < 2147483648 by omega), v_upo (by omega), v_upo (by omega)]
    have e := v_upS (v := w) (q := 77) (j := 0) (n := c) (g := fun k => w.1 72 (i + k) - w.1 72 (j + k))
    rw [Nat.zero_add] at e
    rw [e]
    exact lp191b hi hj m (c + 1) (by omega)
theorem lp191c {i j f : Nat} {z : Int32} {l4 l5 l6 : Value} (hf : f < 1000) : ∀ (m c : Nat), c + m = 24 → (vE 191 169 [.ref 64, .int 4, .int (Int32.ofNat i), .int (Int32.ofNat j), l4, l5, l6, .int z, .int (Int32.ofNat f), .int (Int32.ofNat c)] [] (v_up 77 0 c (fun k => z * w.1 72 (f + k)) w) x ↔ x = vd (v_up 77 0 24 (fun k => z * w.1 72 (f + k)) w))
  | 0, c, h => by
    obtain rfl : c = 24 := by omega
    rw [q191_169]
    simp only [q191_171, q191_173]
    rw [if_pos (show (24 : Int32) ≤ Int32.ofNat 24 from by decide)]
    simp only [q191_202, q191_431]
  | m + 1, c, h => by
    rw [q191_169]
    simp only [q191_171, q191_173]
    rw [if_neg (show ¬ (24 : Int32) ≤ Int32.ofNat c from nl (k := 24) (by omega) (by omega) (by omega))]
    simp only [q191_176, q191_177, q191_180, q191_182, q191_184, q191_185, q191_188, q191_190, q191_192, q191_193, q191_194, q191_195, q191_196, q191_199, Nat.reduceAdd, nn_add, nn_s]
    rw [nn_nat (show f + c < 2147483648 by omega), nn_nat (show c < 2147483648 by omega), v_upo (by omega)]
    have e := v_upS (v := w) (q := 77) (j := 0) (n := c) (g := fun k => z * w.1 72 (f + k))
    rw [Nat.zero_add] at e
    rw [e]
    exact lp191c hf m (c + 1) (by omega)
theorem rc_2 {i j : Nat} (hi : i < 1000) (hj : j < 1000) : vE 191 0 [.ref 64, .int 2, .int (Int32.ofNat i), .int (Int32.ofNat j), .retAddr 0, .retAddr 0, .retAddr 0, .retAddr 0, .retAddr 0, .retAddr 0] [] w x ↔ x = vd (v_up 77 0 24 (fun k => w.1 72 (i + k) + w.1 72 (j + k)) w) := by
  rw [rc_0 hi hj]
  simp only [q191_35, q191_36, q191_37]
  rw [if_pos trivial]
  simp only [q191_45, q191_46]
  have L := lp191a (w := w) (x := x) (l4 := .int (bI (∀ k : Nat, k < 24 → 1 ≤ k → w.1 72 (i + k) = 0))) (l5 := .int (bI (∀ k : Nat, k < 24 → 1 ≤ k → w.1 72 (j + k) = 0))) (l6 := .int (bI (∀ k : Nat, k < 24 → w.1 72 (i + k) = w.1 72 (j + k)))) (l8 := .retAddr 0) (l9 := .retAddr 0) hi hj 24 0 rfl
  rw [v_up0] at L
  exact L
theorem rc_3 {i j : Nat} (hi : i < 1000) (hj : j < 1000) : vE 191 0 [.ref 64, .int 3, .int (Int32.ofNat i), .int (Int32.ofNat j), .retAddr 0, .retAddr 0, .retAddr 0, .retAddr 0, .retAddr 0, .retAddr 0] [] w x ↔ x = vd (v_up 77 0 24 (fun k => w.1 72 (i + k) - w.1 72 (j + k)) w) := by
  rw [rc_0 hi hj]
  simp only [q191_35, q191_36, q191_37]
  rw [if_neg (show ¬ (3 : Int32) = 2 from by decide)]
  simp only [q191_40, q191_41, q191_42]
  rw [if_pos trivial]
  simp only [q191_45, q191_46]
  have L := lp191b (w := w) (x := x) (l4 := .int (bI (∀ k : Nat, k < 24 → 1 ≤ k → w.1 72 (i + k) = 0))) (l5 := .int (bI (∀ k : Nat, k < 24 → 1 ≤ k → w.1 72 (j + k) = 0))) (l6 := .int (bI (∀ k : Nat, k < 24 → w.1 72 (i + k) = w.1 72 (j + k)))) (l8 := .retAddr 0) (l9 := .retAddr 0) hi hj 24 0 rfl
  rw [v_up0] at L
  exact L
theorem rx_n {t k : Nat} (h : k < 23) : rx v t k = v.1 (21 + t) k := if_pos h
theorem rx_23 {t : Nat} : rx v t 23 = 0 := if_neg (by omega)
/-- what the class makes of numbers is what the vectors give -/
theorem jc_2 {n a l r o i j : Nat} (hV : VI n a v) (hn : n < 22) (hA : AR n a v w) (hl : l < n) (hr : r < n) (hi : i < 1000) (hj : j < 1000) (h1 : sv v w l 72 i) (h2 : sv v w r 72 j) (e1 : vE 103 0 [.ref o, .ref 19, .int 2, .int (Int32.ofNat l), .int (Int32.ofNat r), .retAddr 0] [] v x1) (e2 : vE 191 0 [.ref 64, .int 2, .int (Int32.ofNat i), .int (Int32.ofNat j), .retAddr 0, .retAddr 0, .retAddr 0, .retAddr 0, .retAddr 0, .retAddr 0] [] w x2) : JR n a v w x1 x2 := by
  rw [rc_2 hi hj] at e2
  have G3 : (fun k => w.1 72 (i + k) + w.1 72 (j + k)) 23 = 0 := by
    show w.1 72 (i + 23) + w.1 72 (j + 23) = 0
    rw [h1 23 (by omega), h2 23 (by omega), rx_23, rx_23]
    rfl
  rcases cc_x hV hn hl hr e1 with ⟨_, c2, c3, _, m⟩ | ⟨_, z, e1⟩
  · refine jk hA m e2 (fun k hk => ?_) G3
    show w.1 72 (i + k) + w.1 72 (j + k) = _
    rw [h1 k (by omega), h2 k (by omega), rx_n hk, rx_n hk]
    by_cases k0 : k = 0
    · rw [if_pos k0, k0]
      rfl
    · rw [if_neg k0, c2 k hk (by omega), c3 k hk (by omega)]
      rfl
  · simp only [q103_69, q103_70] at e1
    rw [if_pos trivial] at e1
    simp only [q103_112, q103_113, q103_114, q103_116, q103_117] at e1
    obtain ⟨y, e3, e4⟩ := e1
    obtain ⟨s, n', v', f1, f2, f3, f4, f5⟩ := mk_sum hV hn hl hr e3
    subst f1
    simp only [vB_r, Nat.reduceAdd, q103_120] at e4
    refine jk hA ⟨s, n', v', e4, f2, f3, f4, f5⟩ e2 (fun k hk => ?_) G3
    show w.1 72 (i + k) + w.1 72 (j + k) = _
    rw [h1 k (by omega), h2 k (by omega), rx_n hk, rx_n hk, Int32.one_mul]
theorem jc_3 {n a l r o i j : Nat} (hV : VI n a v) (hn : n < 22) (hA : AR n a v w) (hl : l < n) (hr : r < n) (hi : i < 1000) (hj : j < 1000) (h1 : sv v w l 72 i) (h2 : sv v w r 72 j) (e1 : vE 103 0 [.ref o, .ref 19, .int 3, .int (Int32.ofNat l), .int (Int32.ofNat r), .retAddr 0] [] v x1) (e2 : vE 191 0 [.ref 64, .int 3, .int (Int32.ofNat i), .int (Int32.ofNat j), .retAddr 0, .retAddr 0, .retAddr 0, .retAddr 0, .retAddr 0, .retAddr 0] [] w x2) : JR n a v w x1 x2 := by
  rw [rc_3 hi hj] at e2
  have G3 : (fun k => w.1 72 (i + k) - w.1 72 (j + k)) 23 = 0 := by
    show w.1 72 (i + 23) - w.1 72 (j + 23) = 0
    rw [h1 23 (by omega), h2 23 (by omega), rx_23, rx_23]
    rfl
  rcases cc_x hV hn hl hr e1 with ⟨_, c2, c3, _, m⟩ | ⟨_, z, e1⟩
  · refine jk hA m e2 (fun k hk => ?_) G3
    show w.1 72 (i + k) - w.1 72 (j + k) = _
    rw [h1 k (by omega), h2 k (by omega), rx_n hk, rx_n hk]
    by_cases k0 : k = 0
    · rw [if_pos k0, k0]
      rfl
    · rw [if_neg k0, c2 k hk (by omega), c3 k hk (by omega)]
      rfl
  · simp only [q103_69, q103_70] at e1
    rw [if_neg (show ¬ (3 : Int32) = 2 from by decide), if_pos trivial] at e1
    simp only [q103_121, q103_122, q103_123, q103_125, q103_126] at e1
    obtain ⟨y, e3, e4⟩ := e1
    obtain ⟨s, n', v', f1, f2, f3, f4, f5⟩ := mk_sum hV hn hl hr e3
    subst f1
    simp only [vB_r, Nat.reduceAdd, q103_129] at e4
    refine jk hA ⟨s, n', v', e4, f2, f3, f4, f5⟩ e2 (fun k hk => ?_) G3
    show w.1 72 (i + k) - w.1 72 (j + k) = _
    rw [h1 k (by omega), h2 k (by omega), rx_n hk, rx_n hk, Int32.neg_mul, Int32.one_mul, Int32.sub_eq_add_neg]
end EE
